/-! Ways within a set. -/
def zRch (a : zG) (W S : Nat → Bool) (c : Nat) : Prop := ∀ P : Nat → Prop, (∀ c, S c = true → W c = true → P c) → (∀ c d e, P c → a.nb c d = some e → W e = true → P e) → P c
theorem zRch.base {a : zG} {W S : Nat → Bool} {c : Nat} (h1 : S c = true) (h2 : W c = true) : zRch a W S c := fun _ b _ => b c h1 h2
theorem zRch.step {a : zG} {W S : Nat → Bool} {c d e : Nat} (h : zRch a W S c) (hn : a.nb c d = some e) (hw : W e = true) : zRch a W S e := fun P b s => s c d e (h P b s) hn hw
theorem zRch.inW {a : zG} {W S : Nat → Bool} {c : Nat} (h : zRch a W S c) : W c = true := h (fun c => W c = true) (fun _ _ h => h) (fun _ _ _ _ _ h => h)
theorem zRch.mono {a : zG} {W W' S S' : Nat → Bool} {c : Nat} (h : zRch a W S c) (hw : ∀ c, W c = true → W' c = true) (hs : ∀ c, S c = true → W c = true → zRch a W' S' c) : zRch a W' S' c :=
  h (fun c => zRch a W' S' c) hs (fun _ _ _ p hn hw' => p.step hn (hw _ hw'))
def z_cnt (p : Nat → Bool) : Nat → Nat
  | 0 => 0
  | n + 1 => z_cnt p n + (if p n then 1 else 0)
theorem z_cnt_le (p : Nat → Bool) : ∀ n, z_cnt p n ≤ n
  | 0 => Nat.le_refl _
  | n + 1 => by
    have := z_cnt_le p n
    unfold z_cnt
    split <;> omega
theorem z_cnt_mono {p q : Nat → Bool} : ∀ {n : Nat}, (∀ c, c < n → p c = true → q c = true) → z_cnt p n ≤ z_cnt q n
  | 0, _ => Nat.le_refl _
  | n + 1, h => by
    have h1 := z_cnt_mono (n := n) fun c hc => h c (by omega)
    have h2 := h n (by omega)
    unfold z_cnt
    by_cases hp : p n = true
    · rw [if_pos hp, if_pos (h2 hp)]
      omega
    · rw [if_neg hp]
      omega
theorem z_cnt_lt {p q : Nat → Bool} : ∀ {n c : Nat}, (∀ c, c < n → p c = true → q c = true) → c < n → p c = false → q c = true → z_cnt p n < z_cnt q n
  | 0, _, _, h, _, _ => absurd h (Nat.not_lt_zero _)
  | n + 1, c, h, hc, h1, h2 => by
    unfold z_cnt
    by_cases he : c = n
    · subst he
      have := z_cnt_mono (n := c) fun x hx => h x (by omega)
      rw [h1, h2]
      simp
      omega
    · have ih := z_cnt_lt (n := n) (fun x hx => h x (by omega)) (by omega) h1 h2
      by_cases hp : p n = true
      · rw [if_pos hp, if_pos (h n (by omega) hp)]
        omega
      · rw [if_neg hp]
        omega
theorem z_cnt_all {p : Nat → Bool} : ∀ {n : Nat}, n ≤ z_cnt p n → ∀ c, c < n → p c = true
  | 0, _, _, hc => absurd hc (Nat.not_lt_zero _)
  | n + 1, h, c, hc => by
    have h1 := z_cnt_le p n
    unfold z_cnt at h
    by_cases hp : p n = true
    · by_cases he : c = n
      · rw [he]; exact hp
      · rw [if_pos hp] at h
        exact z_cnt_all (n := n) (by omega) c (by omega)
    · rw [if_neg hp] at h
      omega
theorem zG.nb_n {a : zG} (v : zGV a) {c d e : Nat} (h : c < a.n) (hn : a.nb c d = some e) : e < a.n := by
  have w0 := v.w0
  have hdm := Nat.div_add_mod c a.w
  unfold zG.nb at hn
  split at hn
  · split at hn
    · cases hn; omega
    · cases hn
  · split at hn
    · rename_i hq
      cases hn
      have hr := v.row h
      have h1 : a.w * (c / a.w + 1) ≤ a.w * a.h := Nat.mul_le_mul (Nat.le_refl _) hr
      rw [Nat.mul_add] at h1
      show c + 1 < a.w * a.h
      omega
    · cases hn
  · split at hn
    · cases hn; assumption
    · cases hn
  · split at hn
    · cases hn; omega
    · cases hn
section
variable {m : zM} {g : Nat} {a : zG}
/-- one step of the flood, bit by bit -/
theorem z_flood (v : zGV a) {W NL NR F : Int64} (hW : ∀ c, c < 64 → zb W c = true → c < a.n) (hNL : ∀ c, c < 64 → zb NL c = !decide (c / a.w < a.h ∧ c % a.w = 0)) (hNR : ∀ c, c < 64 → zb NR c = !decide (c / a.w < a.h ∧ c % a.w = a.w - 1)) (hF : ∀ c, c < 64 → zb F c = true → zb W c = true) {c : Nat} (hc : c < 64) :
    zb ((((F ||| (z_ushr (F &&& NL) 1 ||| z_shl (F &&& NR) 1)) ||| z_ushr F (Int32.ofNat a.w)) ||| z_shl F (Int32.ofNat a.w)) &&& W) c = true ↔ zb W c = true ∧ (zb F c = true ∨ ∃ e d, zb F e = true ∧ a.nb e d = some c) := by
  have w2 := v.w2
  have w8 := v.w8
  rw [zb_and, zb_or, zb_or, zb_or, zb_or, show (1 : Int32) = Int32.ofNat 1 from rfl, zb_shr _ (by omega), zb_shl _ (by omega) hc, zb_shr _ (by omega), zb_shl _ (by omega) hc, zb_and, zb_and]
  have hlt : ∀ e, zb F e = true → e < 64 := fun e he => by
    by_cases h : e < 64
    · exact h
    · rw [zb_big _ (by omega)] at he
      cases he
  constructor
  · intro h
    simp only [Bool.and_eq_true, Bool.or_eq_true, decide_eq_true_eq] at h
    obtain ⟨h1, hw⟩ := h
    refine ⟨hw, ?_⟩
    have hcn := hW c hc hw
    rcases h1 with ((h1 | h1 | h1) | h1) | h1
    · exact .inl h1
    · obtain ⟨f1, f2⟩ := h1
      have he := hlt _ f1
      rw [hNL _ he] at f2
      have hr := v.row (hW _ he (hF _ he f1))
      refine .inr ⟨1 + c, 3, f1, ?_⟩
      have h0 : 0 < (1 + c) % a.w := by
        simp at f2
        omega
      show (if 0 < (1 + c) % a.w then some (1 + c - 1) else none) = some c
      rw [if_pos h0]
      congr 1
      omega
    · obtain ⟨f0, f1, f2⟩ := h1
      have he := hlt _ f1
      rw [hNR _ he] at f2
      have hr := v.row (hW _ he (hF _ he f1))
      have hm : (c - 1) % a.w < a.w := Nat.mod_lt _ (by omega)
      refine .inr ⟨c - 1, 1, f1, ?_⟩
      have h0 : (c - 1) % a.w + 1 < a.w := by
        simp at f2
        omega
      show (if (c - 1) % a.w + 1 < a.w then some (c - 1 + 1) else none) = some c
      rw [if_pos h0]
      congr 1
      omega
    · refine .inr ⟨a.w + c, 0, h1, ?_⟩
      show (if a.w ≤ a.w + c then some (a.w + c - a.w) else none) = some c
      rw [if_pos (by omega)]
      congr 1
      omega
    · obtain ⟨f0, f1⟩ := h1
      refine .inr ⟨c - a.w, 2, f1, ?_⟩
      show (if c - a.w + a.w < a.n then some (c - a.w + a.w) else none) = some c
      rw [if_pos (by omega)]
      congr 1
      omega
  · rintro ⟨hw, h⟩
    simp only [Bool.and_eq_true, Bool.or_eq_true, decide_eq_true_eq]
    refine ⟨?_, hw⟩
    rcases h with h | ⟨e, d, f1, hn⟩
    · exact .inl (.inl (.inl h))
    · have he := hlt _ f1
      have hen := hW _ he (hF _ he f1)
      have hr := v.row hen
      unfold zG.nb at hn
      split at hn
      · split at hn
        · cases hn
          refine .inl (.inr ?_)
          rw [show a.w + (e - a.w) = e by omega]
          exact f1
        · cases hn
      · split at hn
        · rename_i hq
          cases hn
          refine .inl (.inl (.inr (.inr ⟨by omega, ?_⟩)))
          rw [show e + 1 - 1 = e by omega]
          refine ⟨f1, ?_⟩
          rw [hNR _ he]
          simp
          omega
        · cases hn
      · split at hn
        · cases hn
          refine .inr ⟨by omega, ?_⟩
          rw [show e + a.w - a.w = e by omega]
          exact f1
        · cases hn
      · split at hn
        · rename_i hq
          cases hn
          have h1 : 1 ≤ e := by
            by_cases h0 : e = 0
            · subst h0
              rw [Nat.zero_mod] at hq
              omega
            · omega
          refine .inl (.inl (.inr (.inl ?_)))
          rw [show 1 + (e - 1) = e by omega]
          refine ⟨f1, ?_⟩
          rw [hNL _ he]
          simp
          omega
        · cases hn
theorem s_reachable_38 (v : zGV a) (r : zGR m g a) {S W NL NR : Int64} (hW : ∀ c, c < 64 → zb W c = true → c < a.n) (hNL : ∀ c, c < 64 → zb NL c = !decide (c / a.w < a.h ∧ c % a.w = 0)) (hNR : ∀ c, c < 64 → zb NR c = !decide (c / a.w < a.h ∧ c % a.w = a.w - 1)) :
    ∀ (j s : Nat) (F : Int64) (b : Bool), s ≤ 64 → 64 - s < j → (∀ c, c < 64 → zb F c = true → zb W c = true) → (∀ c, zb S c = true → zb W c = true → zb F c = true) → (∀ c, zb F c = true → zRch a (zb W) (zb S) c) → (b = false → ∀ c d e, zb F c = true → a.nb c d = some e → zb W e = true → zb F e = true) → (b = true → s ≤ z_cnt (zb F) 64) →
    ∃ Z, f_X4_reachable_38 g m j W NL NR F (z_bi b) (Int32.ofNat s) = some Z ∧ ∀ c, zb Z c = true ↔ zRch a (zb W) (zb S) c
  | 0, _, _, _, _, h, _, _, _, _, _ => absurd h (Nat.not_lt_zero _)
  | j + 1, s, F, b, hs, h, h1, h2, h3, h4, h5 => by
    have fin : (∀ c d e, zb F c = true → a.nb c d = some e → zb W e = true → zb F e = true) → ∀ c, zb F c = true ↔ zRch a (zb W) (zb S) c := fun hcl c => ⟨h3 c, fun hr => hr (fun c => zb F c = true) h2 hcl⟩
    unfold f_X4_reachable_38
    rw [show (64 : Int32) = Int32.ofNat 64 from rfl]
    by_cases he : s = 64
    · rw [if_pos (by rw [zi_le (by omega) (by omega)]; omega)]
      subst he
      refine ⟨F, rfl, fin ?_⟩
      cases b with
      | false => exact h4 rfl
      | true =>
      intro c d e _ _ hw
      have hlt : e < 64 := by
        by_cases q : e < 64
        · exact q
        · rw [zb_big _ (by omega)] at hw
          cases hw
      exact z_cnt_all (h5 rfl) e hlt
    · rw [if_neg (by rw [zi_le (by omega) (by omega)]; omega)]
      cases b with
      | false =>
        rw [if_pos (by decide)]
        exact ⟨F, rfl, fin (h4 rfl)⟩
      | true =>
        rw [if_neg (by decide), r.w]
        have hfl := fun (c : Nat) (hc : c < 64) => z_flood v hW hNL hNR h1 (F := F) hc
        generalize hX : ((((F ||| (z_ushr (F &&& NL) 1 ||| z_shl (F &&& NR) 1)) ||| z_ushr F (Int32.ofNat a.w)) ||| z_shl F (Int32.ofNat a.w)) &&& W) = X at hfl
        rw [← hX] at hfl
        rw [hX] at hfl
        have a1 : ∀ c, c < 64 → zb X c = true → zb W c = true := fun c hc hx => ((hfl c hc).mp hx).1
        have lt : ∀ (y : Int64) (c : Nat), zb y c = true → c < 64 := fun y c hy => by
          by_cases q : c < 64
          · exact q
          · rw [zb_big _ (by omega)] at hy
            cases hy
        have a0 : ∀ c, c < 64 → zb F c = true → zb X c = true := fun c hc hf => (hfl c hc).mpr ⟨h1 c hc hf, .inl hf⟩
        have a2 : ∀ c, zb S c = true → zb W c = true → zb X c = true := fun c p q => a0 c (lt _ _ q) (h2 c p q)
        have a3 : ∀ c, zb X c = true → zRch a (zb W) (zb S) c := fun c hx => by
          rcases ((hfl c (lt _ _ hx)).mp hx).2 with hf | ⟨e, d, f1, hn⟩
          · exact h3 c hf
          · exact (h3 e f1).step hn ((hfl c (lt _ _ hx)).mp hx).1
        by_cases hq : X = F
        · rw [if_pos (by rw [zb_lc]; exact hq)]
          unfold f_X4_reachable_105
          rw [show (1 : Int32) = Int32.ofNat 1 from rfl, zi_add]
          refine s_reachable_38 v r hW hNL hNR j (s + 1) X false (by omega) (by omega) a1 a2 a3 (fun _ c d e hx hn hw => ?_) ?_
          · exact (hfl e (lt _ _ hw)).mpr ⟨hw, .inr ⟨c, d, hq ▸ hx, hn⟩⟩
          · exact fun q => by cases q
        · rw [if_neg (by rw [zb_lc]; exact hq)]
          unfold f_X4_reachable_105
          rw [show (Int32.ofNat s + 1) = Int32.ofNat (s + 1) from zi_add s 1]
          refine s_reachable_38 v r hW hNL hNR j (s + 1) X true (by omega) (by omega) a1 a2 a3 (fun q => by cases q) ?_
          intro _
          have h5 := h5 rfl
          have : ∃ c, c < 64 ∧ zb F c = false ∧ zb X c = true := by
            refine Classical.byContradiction fun hno => hq (zb_ext fun c hc => ?_)
            cases hf : zb F c with
            | true => exact a0 c hc hf
            | false =>
              cases hx : zb X c with
              | false => rfl
              | true => exact absurd ⟨c, hc, hf, hx⟩ hno
          obtain ⟨c, hc, p1, p2⟩ := this
          have := z_cnt_lt a0 hc p1 p2
          omega
theorem s_reachable (v : zGV a) (r : zGR m g a) {S W : Int64} (hW : ∀ c, c < 64 → zb W c = true → c < a.n) : ∃ Z, f_X4_reachable g S W m = some Z ∧ ∀ c, zb Z c = true ↔ zRch a (zb W) (zb S) c := by
  have w2 := v.w2
  have w8 := v.w8
  obtain ⟨L, hL, hL2⟩ := s_column v r (x := 0) (by omega)
  obtain ⟨Q, hQ, hQ2⟩ := s_column v r (x := a.w - 1) (by omega)
  unfold f_X4_reachable
  rw [show (0 : Int32) = Int32.ofNat 0 from rfl, hL, Option.bind_some, r.w, show (1 : Int32) = Int32.ofNat 1 from rfl, zi_sub (by omega), hQ, Option.bind_some]
  have h := s_reachable_38 v r hW (S := S) (NL := L ^^^ (-1)) (NR := Q ^^^ (-1)) (fun c hc => by rw [zb_not _ hc, hL2 c hc]) (fun c hc => by rw [zb_not _ hc, hQ2 c hc]) zF 0 (S &&& W) true (by omega) (Nat.lt_of_lt_of_le (by omega : 64 - 0 < 65) (zF_ge (by decide)))
    (fun c _ h => by rw [zb_and, Bool.and_eq_true] at h; exact h.2) (fun c h1 h2 => by rw [zb_and, h1, h2]; rfl)
    (fun c h => by rw [zb_and, Bool.and_eq_true] at h; exact zRch.base h.1 h.2) (fun q => by cases q) (fun _ => Nat.zero_le _)
  exact h
end
