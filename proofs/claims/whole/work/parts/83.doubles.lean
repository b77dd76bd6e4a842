/-! The quotients of small whole numbers, as doubles, are no NaN. -/
section
/-- the whole numbers as doubles -/
def zfin (k : Nat) : Bool := match FP.Core.decode FP.Core.b64 (FP.Core.i2d (Int32.ofNat k)).toNat with
  | .fin _ c _ => decide (k = 0) || decide (c ≠ 0)
  | _ => false
theorem zfin_all : ∀ i, i < 81 → ∀ j, j < 80 → zfin (80 * i + j) = true := by decide +kernel
theorem zfin_at {k : Nat} (h : k < 6480) : zfin k = true := by
  have := zfin_all (k / 80) (by omega) (k % 80) (by omega)
  rw [show 80 * (k / 80) + k % 80 = k by omega] at this
  exact this
theorem z_enc_at (s : Bool) {e t : Nat} (he : e ≤ 2047) (ht : t < 2 ^ 52) (h : e = 2047 → t = 0) : (FP.Core.assemble FP.Core.b64 s e t) % 2 ^ 63 ≤ 2047 * 2 ^ 52 ∧ FP.Core.assemble FP.Core.b64 s e t < 2 ^ 64 := by
  have e1 : FP.Core.Fmt.exps FP.Core.b64 = 2048 := rfl
  have e2 : FP.Core.Fmt.tails FP.Core.b64 = 2 ^ 52 := rfl
  have hs : s.toNat = 0 ∨ s.toNat = 1 := by cases s <;> simp
  unfold FP.Core.assemble
  rw [e1, e2]
  rcases hs with q | q <;> rw [q] <;> omega
/-- what rounding gives is no NaN, and has a place in the format -/
def z_fmt (D : FP.Core.Datum) : Prop := match D with
  | .nan => False
  | .inf _ => True
  | .fin _ c q => c < 2 ^ 53 ∧ q ≤ 971
theorem z_fmt_enc : ∀ {D : FP.Core.Datum}, z_fmt D → (FP.Core.encode FP.Core.b64 D) % 2 ^ 63 ≤ 2047 * 2 ^ 52 ∧ FP.Core.encode FP.Core.b64 D < 2 ^ 64
  | .nan, h => False.elim h
  | .inf s, _ => by
    have e1 : FP.Core.Fmt.exps FP.Core.b64 - 1 = 2047 := rfl
    unfold FP.Core.encode
    dsimp only
    rw [e1]
    exact z_enc_at s (by omega) (by omega) fun _ => rfl
  | .fin s c q, h => by
    have e2 : FP.Core.Fmt.tails FP.Core.b64 = 2 ^ 52 := rfl
    have e3 : FP.Core.Fmt.qmin FP.Core.b64 = -1074 := rfl
    obtain ⟨h1, h2⟩ := h
    unfold FP.Core.encode
    dsimp only
    rw [e2, e3]
    by_cases w : c < 2 ^ 52
    · rw [if_pos w]
      exact z_enc_at s (by omega) w fun y => by omega
    · rw [if_neg w]
      exact z_enc_at s (by omega) (by omega) fun y => by omega
theorem z_fmt_bound (s : Bool) {c : Nat} (hc : c < 2 ^ 53) (q : Int) : z_fmt (FP.Core.bound FP.Core.b64 s c q) := by
  have e : FP.Core.Fmt.qmax FP.Core.b64 = 971 := rfl
  unfold FP.Core.bound
  rw [e]
  by_cases w : q ≤ 971
  · rw [if_pos w]
    exact ⟨hc, w⟩
  · rw [if_neg w]
    trivial
theorem z_fmt_round (s : Bool) (n d : Nat) (e : Int) : z_fmt (FP.Core.roundRatio FP.Core.b64 s n d e) := by
  have e1 : FP.Core.Fmt.qmin FP.Core.b64 = -1074 := rfl
  have e2 : FP.Core.Fmt.tails FP.Core.b64 = 2 ^ 52 := rfl
  have e3 : FP.Core.Fmt.p FP.Core.b64 = 53 := rfl
  unfold FP.Core.roundRatio
  by_cases w : n = 0
  · rw [if_pos w, e1]
    exact ⟨by omega, by omega⟩
  · rw [if_neg w]
    unfold FP.Core.roundAt FP.Core.settle
    rw [e3]
    generalize FP.Core.nearest _ _ = c
    by_cases w2 : c < 2 ^ 53
    · rw [if_pos w2]
      exact z_fmt_bound s w2 _
    · rw [if_neg w2, e2]
      exact z_fmt_bound s (by omega) _
theorem zfin_qnan {s k : Nat} (hs : zfin s = true) (hk : zfin k = true) (k0 : k ≠ 0) : z_nan (FP.ddiv (FP.i2d (Int32.ofNat s)) (FP.i2d (Int32.ofNat k))) = true := by
  show z_nan (UInt64.ofNat (FP.Core.encode FP.Core.b64 (FP.Core.quotient FP.Core.b64 (FP.Core.decode FP.Core.b64 (FP.Core.i2d (Int32.ofNat s)).toNat) (FP.Core.decode FP.Core.b64 (FP.Core.i2d (Int32.ofNat k)).toNat)))) = true
  have key : z_fmt (FP.Core.quotient FP.Core.b64 (FP.Core.decode FP.Core.b64 (FP.Core.i2d (Int32.ofNat s)).toNat) (FP.Core.decode FP.Core.b64 (FP.Core.i2d (Int32.ofNat k)).toNat)) := by
    unfold zfin at hs hk
    cases h1 : FP.Core.decode FP.Core.b64 (FP.Core.i2d (Int32.ofNat s)).toNat with
    | nan => rw [h1] at hs; cases hs
    | inf u => rw [h1] at hs; cases hs
    | fin u c q =>
      cases h2 : FP.Core.decode FP.Core.b64 (FP.Core.i2d (Int32.ofNat k)).toNat with
      | nan => rw [h2] at hk; cases hk
      | inf u => rw [h2] at hk; cases hk
      | fin t d r =>
        rw [h2] at hk
        simp only [Bool.or_eq_true, decide_eq_true_eq] at hk
        have hd : d ≠ 0 := by omega
        unfold FP.Core.quotient
        dsimp only
        rw [if_neg hd]
        exact z_fmt_round _ _ _ _
  obtain ⟨g1, g2⟩ := z_fmt_enc key
  unfold z_nan
  rw [decide_eq_true_eq, UInt64.le_iff_toNat_le, UInt64.toNat_and]
  have e : (0x7fffffffffffffff : UInt64).toNat = 2 ^ 63 - 1 := rfl
  have e2 : (0x7ff0000000000000 : UInt64).toNat = 2047 * 2 ^ 52 := rfl
  rw [e, e2, Nat.and_two_pow_sub_one_eq_mod, UInt64.toNat_ofNat_of_lt' g2]
  exact g1
end
