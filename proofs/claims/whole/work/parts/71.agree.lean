/-! What always holds between calls; what it is to agree. -/
def zPro (k i j : Nat) : Prop := (k = 6 ∧ i ≠ 1 ∧ j < 4) ∨ (k = 20 ∧ (i < 3 ∨ (6 ≤ i ∧ i < 33))) ∨ (k = 23 ∧ i ≤ 1) ∨ (k = 24 ∧ i = 0) ∨ (k = 25 ∧ i = 0) ∨ (k = 34 ∧ i = 0) ∨ (k = 7 ∧ i = 0 ∧ (j = 1 ∨ j = 2)) ∨ (k = 13 ∧ i = 0 ∧ (j = 3 ∨ j = 5 ∨ j = 8 ∨ j = 10)) ∨ (k = 12 ∧ i = 0 ∧ (j = 3 ∨ j = 6)) ∨ (k = 10 ∧ i = 0 ∧ j = 1)
abbrev zSc (k i j : Nat) : Prop := ¬ zPro k i j
abbrev zSm (k i j : Nat) : Prop := ¬ zPro k i j ∧ k ≠ 32 ∧ k ≠ 33
/-- what the last changes are: n grids, the newest in slot p; what is saved; the text's length; the error -/
def zHs (b : Nat → zG) (n p : Nat) (m : zM) : Prop := n ≤ 8 ∧ p < 8 ∧ m.1 7 0 1 = Int32.ofNat p ∧ m.1 7 0 2 = Int32.ofNat n ∧ m.1 13 0 3 = Int32.ofNat n ∧ ∀ j, j < n → zGV (b j) ∧ zGR m (3 + (p + 8 - (n - 1 - j)) % 8) (b j) ∧ zMR (fun x => m.1 24 0 (259 * j + x)) (b j)
def zSd (s : Option zG) (m : zM) : Prop := match s with
  | none => m.1 12 0 3 = 0 ∧ m.1 13 0 5 = 0
  | some g => m.1 12 0 3 = 1 ∧ m.1 13 0 5 = 1 ∧ zGV g ∧ zGR m 2 g ∧ zMR (m.1 23 1) g
def zTx (l : Nat) (c : Nat → Nat) (m : zM) : Prop := l ≤ 60 ∧ m.1 10 0 1 = Int32.ofNat l ∧ m.1 13 0 8 = Int32.ofNat l ∧ ∀ t, t < l → 33 ≤ c t ∧ c t ≤ 126 ∧ m.1 34 0 t = Int32.ofNat (c t) ∧ m.1 25 0 t = Int32.ofNat (c t)
def zEr (e : Option Nat) (m : zM) : Prop := m.1 12 0 6 = zo e ∧ m.1 13 0 10 = zo e ∧ ∀ q, e = some q → q ≤ 60
def zIv (a : zG) (b : Nat → zG) (n p : Nat) (s : Option zG) (l : Nat) (c : Nat → Nat) (e : Option Nat) (m : zM) : Prop :=
  zGV a ∧ zGR m 0 a ∧ zMR (m.1 23 0) a ∧ zHs b n p m ∧ zSd s m ∧ zTx l c m ∧ zEr e m
def zInv (m : zM) : Prop := ∃ a b n p s l c e, zIv a b n p s l c e m
theorem zGp_pro {g : Nat} (h : g ≠ 1) (h2 : g < 11) {k i j : Nat} (w : zGp g k i j) : zPro k i j := by
  rcases w with ⟨rfl, rfl, hj⟩ | ⟨rfl, hi⟩
  · exact .inl ⟨rfl, h, hj⟩
  · exact .inr (.inl ⟨rfl, by omega⟩)
theorem zFr.c {m m' : zM} {P : Nat → Nat → Nat → Prop} (f : zFr P m m') (h : ∀ k i j, P k i j → ¬ zPro k i j) : zFr zSc m m' := f.mono h
theorem zIv.keep {a : zG} {b : Nat → zG} {n p : Nat} {s : Option zG} {l : Nat} {c : Nat → Nat} {e : Option Nat} {m m' : zM} (I : zIv a b n p s l c e m) (f : zFr zSc m m') : zIv a b n p s l c e m' := by
  obtain ⟨h1, h2, h3, h4, h5, h6, h7⟩ := I
  have g : ∀ k i j, zPro k i j → m'.1 k i j = m.1 k i j := fun k i j w => (f k i j fun y => y w).1
  have gr : ∀ {x : zG} {q : Nat}, q ≠ 1 → q < 11 → zGR m q x → zGR m' q x := fun {x q} w1 w2 w3 => w3.keep f fun k i j y z => z (zGp_pro w1 w2 y)
  refine ⟨h1, gr (by omega) (by omega) h2, ?_, ?_, ?_, ?_, ?_⟩
  · have : m'.1 23 0 = m.1 23 0 := funext fun j => g 23 0 j (by unfold zPro; omega)
    rw [this]
    exact h3
  · obtain ⟨q1, q2, q3, q4, q5, q6⟩ := h4
    refine ⟨q1, q2, by rw [g 7 0 1 (by unfold zPro; omega)]; exact q3, by rw [g 7 0 2 (by unfold zPro; omega)]; exact q4, by rw [g 13 0 3 (by unfold zPro; omega)]; exact q5, fun j hj => ?_⟩
    obtain ⟨u1, u2, u3⟩ := q6 j hj
    refine ⟨u1, gr (by omega) (by omega) u2, ?_⟩
    have : (fun x => m'.1 24 0 (259 * j + x)) = fun x => m.1 24 0 (259 * j + x) := funext fun x => g 24 0 _ (by unfold zPro; omega)
    rw [this]
    exact u3
  · cases s with
    | none => exact ⟨by rw [g 12 0 3 (by unfold zPro; omega)]; exact h5.1, by rw [g 13 0 5 (by unfold zPro; omega)]; exact h5.2⟩
    | some x =>
      obtain ⟨u1, u2, u3, u4, u5⟩ := h5
      refine ⟨by rw [g 12 0 3 (by unfold zPro; omega)]; exact u1, by rw [g 13 0 5 (by unfold zPro; omega)]; exact u2, u3, gr (by omega) (by omega) u4, ?_⟩
      have : m'.1 23 1 = m.1 23 1 := funext fun j => g 23 1 j (by unfold zPro; omega)
      rw [this]
      exact u5
  · obtain ⟨q1, q2, q3, q4⟩ := h6
    refine ⟨q1, by rw [g 10 0 1 (by unfold zPro; omega)]; exact q2, by rw [g 13 0 8 (by unfold zPro; omega)]; exact q3, fun t ht => ?_⟩
    obtain ⟨u1, u2, u3, u4⟩ := q4 t ht
    exact ⟨u1, u2, by rw [g 34 0 t (by unfold zPro; omega)]; exact u3, by rw [g 25 0 t (by unfold zPro; omega)]; exact u4⟩
  · obtain ⟨q1, q2, q3⟩ := h7
    exact ⟨by rw [g 12 0 6 (by unfold zPro; omega)]; exact q1, by rw [g 13 0 10 (by unfold zPro; omega)]; exact q2, q3⟩
theorem zInv.keep {m m' : zM} (I : zInv m) (f : zFr zSc m m') : zInv m' := by
  obtain ⟨a, b, n, p, s, l, c, e, I⟩ := I
  exact ⟨a, b, n, p, s, l, c, e, I.keep f⟩
/-- class and reference agree -/
def zAg {β : Type} (cv : β → Int64) (X : Option (Int32 × zM)) (Y : zM → Option (β × zM)) : Prop := ∃ k m1 b m2, X = some (k, m1) ∧ Y m1 = some (b, m2) ∧ m2.1 13 0 0 = k ∧ (k = 0 → m2.2.1 32 0 0 = cv b) ∧ zInv m2
/-- what the reference does, in a memory: an answer or a number that is thrown -/
def zAn {β : Type} (Y : zM → Option (β × zM)) (m : zM) (r : β ⊕ Int32) : Prop := ∃ b m', Y m = some (b, m') ∧ zFr zSm m m' ∧ match r with
  | .inl v => m'.1 13 0 0 = 0 ∧ b = v
  | .inr k => k ≠ 0 ∧ m'.1 13 0 0 = k
def zCl {β : Type} (X : Option ((β ⊕ Nat) × zM)) (m : zM) (r : β ⊕ Nat) : Prop := ∃ m', X = some (r, m') ∧ zFr zSc m m'
theorem z_out (m : zM) (u : Int64) : zFr zSc m (z_sL m 32 0 0 u) := zFr.sL (zFr.refl m) _ (by unfold zSc zPro; omega)
theorem zAg.ok {β : Type} (cv : β → Int64) {m : zM} (I : zInv m) {X : Option ((β ⊕ Nat) × zM)} {H : Nat → Option Int32} {Y : zM → Option (β × zM)} {v : β} (hX : zCl X m (.inl v)) (hY : ∀ m', zFr zSc m m' → zAn Y m' (.inl v)) :
    zAg cv (z_bh X (fun r1 m2 => z_gd (z_inb (0 : Int32) (z_alen 32)) <| some ((0 : Int32), (z_sL m2 32 0 (Int32.toNatClampNeg (0 : Int32)) (cv r1)))) H id) Y := by
  obtain ⟨m1, h1, h2⟩ := hX
  have f := h2.trans (z_out m1 (cv v))
  obtain ⟨b, m3, q1, q2, q3, q4⟩ := hY _ f
  refine ⟨0, _, b, m3, ?_, q1, q3, fun _ => ?_, (I.keep f).keep (q2.mono fun k i j w => w.1)⟩
  · rw [h1]
    rfl
  · rw [(q2 32 0 0 (fun y => y.2.1 rfl)).2.1, zm_L, if_pos ⟨rfl, rfl, rfl⟩, q4]
theorem zAg.ex {β : Type} (cv : β → Int64) {m : zM} (I : zInv m) {X : Option ((β ⊕ Nat) × zM)} {B : β → zM → Option (Int32 × zM)} {H : Nat → Option Int32} {Y : zM → Option (β × zM)} {x : Nat} {k : Int32} (hX : zCl X m (.inr x)) (hH : H x = some k) (hY : ∀ m', zFr zSc m m' → zAn Y m' (.inr k)) :
    zAg cv (z_bh X B H id) Y := by
  obtain ⟨m1, h1, h2⟩ := hX
  obtain ⟨b, m3, q1, q2, q3, q4⟩ := hY _ h2
  refine ⟨k, m1, b, m3, ?_, q1, q4, fun w => absurd w q3, (I.keep h2).keep (q2.mono fun k i j w => w.1)⟩
  rw [h1]
  show (H x).map _ = _
  rw [hH]
  rfl
/-- numbers within bounds, and others -/
theorem z_rng (x : Int32) {lo hi : Nat} (h1 : lo ≤ hi) (h2 : hi < 2147483648) : (∃ k, lo ≤ k ∧ k ≤ hi ∧ x = Int32.ofNat k ∧ (∀ m, f_X11_requireRange x (Int32.ofNat lo) (Int32.ofNat hi) m = some (.inl (), m)) ∧ ∀ m, f_X12_in (Int32.toInt64 x) (Int32.toInt64 (Int32.ofNat lo)) (Int32.toInt64 (Int32.ofNat hi)) m = some true) ∨ ((∀ k, lo ≤ k → k ≤ hi → x ≠ Int32.ofNat k) ∧ (∀ m, f_X11_requireRange x (Int32.ofNat lo) (Int32.ofNat hi) m = some (.inr 0, m)) ∧ ∀ m, f_X12_in (Int32.toInt64 x) (Int32.toInt64 (Int32.ofNat lo)) (Int32.toInt64 (Int32.ofNat hi)) m = some false) := by
  rcases zi_cases x with hx | ⟨k, hk, rfl⟩
  · refine .inr ⟨fun k q1 q2 e => zi_nn (k := k) (by omega) (e ▸ hx), fun m => ?_, fun m => ?_⟩
    · unfold f_X11_requireRange
      have : x < Int32.ofNat lo := by
        rw [Int32.lt_iff_toInt_lt] at hx ⊢
        rw [zi_toInt (by omega)]
        have : (0 : Int32).toInt = 0 := rfl
        omega
      rw [if_pos this]
    · rw [s_in]
      congr 1
      rw [decide_eq_false_iff_not, Int64.le_iff_toInt_le, zi_64, zi_64, zi_toInt (by omega)]
      rw [Int32.lt_iff_toInt_lt] at hx
      have : (0 : Int32).toInt = 0 := rfl
      omega
  · have e2 : ∀ m, f_X12_in (Int32.toInt64 (Int32.ofNat k)) (Int32.toInt64 (Int32.ofNat lo)) (Int32.toInt64 (Int32.ofNat hi)) m = some (decide (lo ≤ k ∧ k ≤ hi)) := fun m => s_in32 _ _ _ hk (by omega) h2 m
    by_cases w : lo ≤ k ∧ k ≤ hi
    · refine .inl ⟨k, w.1, w.2, rfl, fun m => ?_, fun m => by rw [e2, decide_eq_true w]⟩
      unfold f_X11_requireRange
      rw [if_neg (by rw [zi_lt (by omega) (by omega)]; omega), if_pos (by rw [zi_le (by omega) (by omega)]; omega)]
    · refine .inr ⟨fun q h3 h4 e => w ((zi_eq hk (by omega)).mp e ▸ ⟨h3, h4⟩), fun m => ?_, fun m => by rw [e2, decide_eq_false w]⟩
      unfold f_X11_requireRange
      by_cases w2 : k < lo
      · rw [if_pos (by rw [zi_lt (by omega) (by omega)]; exact w2)]
      · rw [if_neg (by rw [zi_lt (by omega) (by omega)]; exact w2), if_neg (by rw [zi_le (by omega) (by omega)]; omega)]
/-- the first act of most of the reference's calls -/
theorem z_th (m : zM) (u : Int32) : zFr zSm m (z_sI m 13 0 0 u) := zFr.sI (zFr.refl m) _ ⟨by unfold zPro; omega, by omega, by omega⟩
theorem z_th0 (m : zM) (u : Int32) : (z_sI m 13 0 0 u).1 13 0 0 = u := by rw [zm_row, if_pos rfl]
section
variable {a : zG} {b : Nat → zG} {n p : Nat} {s : Option zG} {l : Nat} {c : Nat → Nat} {e : Option Nat} {m : zM}
theorem zMR.th (r : zMR (m.1 23 0) a) (u : Int32) : zMR ((z_sI m 13 0 0 u).1 23 0) a := by
  have : (z_sI m 13 0 0 u).1 23 0 = m.1 23 0 := funext fun j => zm_ot _ _ _ _ (by omega)
  rw [this]
  exact r
/-- the reference throws at once -/
theorem zAn.raise {β : Type} {Y : zM → Option (β × zM)} {m' : zM} {b : β} {u k : Int32} (h : Y m = some (b, z_sI (z_sI m 13 0 0 u) 13 0 0 k)) (hk : k ≠ 0) : zAn Y m (.inr k) :=
  ⟨b, _, h, (z_th m u).trans (z_th _ k), hk, z_th0 _ _⟩
/-! The class's surveys. -/
theorem zPf_c {k i j : Nat} (w : zPf k i j) : ¬ zPro k i j := by
  unfold zPf p_X2_fill at w
  unfold zPro
  omega
theorem zPtr_c {k i j : Nat} (w : zPtr k i j) : ¬ zPro k i j := by
  unfold zPtr at w
  unfold zPro
  omega
theorem zPru_c {k i j : Nat} (w : zPru k i j) : ¬ zPro k i j := by
  unfold zPru at w
  unfold zPro
  omega
theorem zPsc_c {k i j : Nat} (w : zPsc k i j) : ¬ zPro k i j := by
  unfold zPsc at w
  unfold zPro
  omega
theorem zFil.keep {m' : zM} (h : zFil a m) {P : Nat → Nat → Nat → Prop} (f : zFr P m m') (hp : ∀ k i j, zPf k i j → ¬ P k i j) : zFil a m' := by
  obtain ⟨⟨h1, h2, h3, h4, h5⟩, h6⟩ := h
  have q : ∀ k i j, zPf k i j → m'.1 k i j = m.1 k i j ∧ m'.2.1 k i j = m.2.1 k i j := fun k i j w => ⟨(f k i j (hp k i j w)).1, (f k i j (hp k i j w)).2.1⟩
  refine ⟨⟨fun d hd => by rw [(q 20 33 d (by unfold zPf p_X2_fill; omega)).1]; exact h1 d hd, fun d hd => by rw [(q 4 0 5 (by unfold zPf p_X2_fill; omega)).2]; exact h2 d hd, fun d hd => by rw [(q 20 35 d (by unfold zPf p_X2_fill; omega)).1]; exact h3 d hd, by rw [(q 4 0 4 (by unfold zPf p_X2_fill; omega)).1]; exact h4, fun e he hm d hd => by rw [(q 30 0 _ (by unfold zPf p_X2_fill; omega)).2]; exact h5 e he hm d hd⟩, fun d hd => by rw [(q 20 34 d (by unfold zPf p_X2_fill; omega)).1]; exact h6 d hd⟩
theorem zFil.lv (h : zFil a m) : ∀ d, d < a.n → m.1 20 33 d = Int32.ofNat (a.lv d) := h.1.1
theorem s_fl (v : zGV a) {g : Nat} (hg : g < 11) (r : zGR m g a) : ∃ m', f_X2_fill g m = some m' ∧ zFr zSc m m' ∧ zFr zPf m m' ∧ zFil a m' := by
  obtain ⟨m1, h1, h2, h3⟩ := s_fillg v hg r
  exact ⟨m1, h1, h2.mono fun k i j => zPf_c, h2, h3⟩
theorem zGp_f {g : Nat} (hg : g < 11) {k i j : Nat} (h : zGp g k i j) : ¬ zPf k i j := by
  unfold zGp at h
  unfold zPf p_X2_fill
  omega
theorem s_flows (v : zGV a) {g : Nat} (hg : g < 11) (r : zGR m g a) : ∃ m' s, f_X11_surveyFlows g m = some m' ∧ zFr zSc m m' ∧ zGR m' g a ∧ zFil a m' ∧ zTr a m' s := by
  obtain ⟨m1, h1, h2, h2', h3⟩ := s_fl v hg r
  have r1 := r.keep h2' fun k i j => zGp_f hg
  obtain ⟨m2, s, h4, h5, h6⟩ := s_trace v hg r1 h3.lv
  unfold f_X11_surveyFlows
  rw [h1, Option.bind_some, h4, Option.bind_some]
  exact ⟨m2, s, rfl, h2.trans (h5.mono fun k i j => zPtr_c), r1.keep h5 fun k i j => zGp_tr hg, h3.keep h5 fun k i j w => by unfold zPf p_X2_fill at w; unfold zPtr; omega, h6⟩
theorem s_waters (v : zGV a) {g : Nat} (hg : g < 11) (r : zGR m g a) : ∃ m' s, f_X11_surveyWaters g m = some m' ∧ zFr zSc m m' ∧ zGR m' g a ∧ zFil a m' ∧ zTr a m' s ∧ (∀ x, x < a.n → m'.1 20 44 x = Int32.ofNat (a.inf x)) ∧ ∀ d, d < a.n → zWr a m' d := by
  obtain ⟨m1, h1, h2, h2', h3⟩ := s_fl v hg r
  have r1 := r.keep h2' fun k i j => zGp_f hg
  obtain ⟨m2, s, h4, h5, h6⟩ := s_trace v hg r1 h3.lv
  have r2 := r1.keep h5 fun k i j => zGp_tr hg
  obtain ⟨m3, h7, h8, h9, h10⟩ := s_run v hg r2 h6
  unfold f_X11_surveyWaters
  rw [h1, Option.bind_some, h4, Option.bind_some, h7, Option.bind_some]
  exact ⟨m3, s, rfl, (h2.trans (h5.mono fun k i j => zPtr_c)).trans (h8.mono fun k i j => zPru_c), r2.keep h8 fun k i j w => by unfold zGp at w; unfold zPru; omega, (h3.keep h5 fun k i j w => by unfold zPf p_X2_fill at w; unfold zPtr; omega).keep h8 fun k i j w => by unfold zPf p_X2_fill at w; unfold zPru; omega, h6.keep h8 fun k i j w => by unfold zPtr at w; unfold zPru; omega, h9, h10⟩
theorem s_streams (v : zGV a) (r : zGR m 0 a) : ∃ m' s, f_X11_surveyStreams m = some m' ∧ zFr zSc m m' ∧ zGR m' 0 a ∧ zTr a m' s ∧ (∀ d, d < a.n → zWr a m' d) ∧ zSt a m' := by
  obtain ⟨m1, h1, h2, h2', h3⟩ := s_fl v (show 0 < 11 by omega) r
  have r1 := r.keep h2' fun k i j => zGp_f (by omega)
  obtain ⟨m2, s, h4, h5, h6⟩ := s_trace v (show 0 < 11 by omega) r1 h3.lv
  have r2 := r1.keep h5 fun k i j => zGp_tr (by omega)
  obtain ⟨m3, h7, h8, h9, h10⟩ := s_run v (show 0 < 11 by omega) r2 h6
  have r3 : zGR m3 0 a := r2.keep h8 fun k i j w => by unfold zGp at w; unfold zPru; omega
  have t3 : zTr a m3 s := h6.keep h8 fun k i j w => by unfold zPtr at w; unfold zPru; omega
  obtain ⟨m4, h11, h12, h13⟩ := s_find v (show 0 < 11 by omega) r3 t3 fun d hd => (h10 d hd).1
  unfold f_X11_surveyStreams
  rw [h1, Option.bind_some, h4, Option.bind_some, h7, Option.bind_some, h11, Option.bind_some]
  refine ⟨m4, s, rfl, ((h2.trans (h5.mono fun k i j => zPtr_c)).trans (h8.mono fun k i j => zPru_c)).trans (h12.mono fun k i j => zPsc_c), r3.keep h12 fun k i j => zGp_sc (by omega), t3.keep h12 fun k i j => zTr_sc, fun d hd => ?_, h13⟩
  obtain ⟨q1, q2, q3⟩ := h10 d hd
  exact ⟨by rw [(h12 20 45 d (by unfold zPsc; omega)).1]; exact q1, by rw [(h12 20 46 d (by unfold zPsc; omega)).1]; exact q2, by rw [(h12 20 47 d (by unfold zPsc; omega)).1]; exact q3⟩
/-! Frames of the reference. -/
theorem zP59_m {k i j : Nat} (w : zP59 k i j) : zSm k i j := by
  unfold zP59 at w
  unfold zSm zPro
  omega
theorem zPlo_m {k i j : Nat} (w : zPlo k i j) : zSm k i j := by
  unfold zPlo at w
  unfold zSm zPro
  omega
theorem zPwa_m {k i j : Nat} (w : zPwa k i j) : zSm k i j := by
  unfold zPwa at w
  unfold zSm zPro
  omega
theorem zPlk_m {k i j : Nat} (w : zPlk k i j) : zSm k i j := by
  unfold zPlk at w
  unfold zSm zPro
  omega
theorem zPst_m {k i j : Nat} (w : zPst k i j) : zSm k i j := by
  unfold zPst at w
  unfold zSm zPro
  omega
theorem zPdm_m {k i j : Nat} (w : zPdm k i j) : zSm k i j := by
  unfold zPdm at w
  unfold zSm zPro
  omega
theorem zPbw_m {k i j : Nat} (w : zPbw k i j) : zSm k i j := by
  unfold zPbw at w
  unfold zSm zPro
  omega
theorem zPln_m {k i j : Nat} (w : zPln k i j) : zSm k i j := by
  unfold zPln at w
  unfold zSm zPro
  omega
theorem zPde_c {k i j : Nat} (w : zPde k i j) : ¬ zPro k i j := by
  unfold zPde at w
  unfold zPro
  omega
theorem zPpn_c {k i j : Nat} (w : zPpn k i j) : ¬ zPro k i j := by
  unfold zPpn at w
  unfold zPro
  omega
theorem zPli_c {k i j : Nat} (w : zPli k i j) : ¬ zPro k i j := by
  unfold zPli at w
  unfold zPro
  omega
/-! level -/
theorem zIv.of (I : zIv a b n p s l c e m) : zInv m := ⟨a, b, n, p, s, l, c, e, I⟩
theorem t_level (I : zInv m) (x : Int32) : zAg Int32.toInt64 (f_L_level x m) (f_X12_level x) := by
  obtain ⟨a, b, n, p, s, l, c, e, I'⟩ := I
  have v := I'.1
  have n64 := v.n64
  unfold f_L_level
  rcases z_cell v x with ⟨d, hd, rfl⟩ | hx
  · refine zAg.ok Int32.toInt64 I'.of (v := Int32.ofNat (a.lv d)) ?_ fun m' f => ?_
    · unfold f_X11_level zCl
      rw [s_req v I'.2.1 hd]
      obtain ⟨m1, h1, h2, _, h3⟩ := s_fl v (show 0 < 11 by omega) I'.2.1
      show ∃ m', (Option.bind (f_X2_fill 0 m) fun r3 => Option.bind (f_X7_at 20 33 (Int32.ofNat d) r3) fun r4 => some (Sum.inl r4, r3)) = _ ∧ _
      rw [h1, Option.bind_some, s_at' 20 33 (show d < 64 by omega), Option.bind_some, h3.lv d hd]
      exact ⟨m1, rfl, h2⟩
    · have I1 := I'.keep f
      have r1 := I1.2.2.1.th 0
      obtain ⟨m2, q1, q2, q3⟩ := s_mlevels v r1
      unfold zAn f_X12_level
      rw [s_isCell v r1 hd, Option.bind_some, if_neg (by decide), q1, Option.bind_some, z_gdt (z_in64 (by omega)), zi_nat (by omega), q3 d hd]
      exact ⟨_, m2, rfl, (z_th m' 0).trans (q2.mono fun k i j => zP59_m), by rw [(q2 13 0 0 (by unfold zP59; omega)).1]; exact z_th0 _ _, rfl⟩
  · refine zAg.ex Int32.toInt64 I'.of (x := 1) (k := 1) ?_ rfl fun m' f => ?_
    · unfold f_X11_level zCl
      rw [s_reqn v I'.2.1 hx]
      exact ⟨m, rfl, zFr.refl m⟩
    · have I1 := I'.keep f
      unfold zAn f_X12_level
      rw [s_isCelln v (I1.2.2.1.th 0) hx, Option.bind_some, if_pos (by decide)]
      exact ⟨0, _, rfl, (z_th m' 0).trans (z_th _ 1), by decide, z_th0 _ _⟩
end
