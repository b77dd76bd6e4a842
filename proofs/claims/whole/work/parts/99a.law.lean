/-! The law: its steps, its script. -/
/-- what is closed under the law's steps; xs: the script, of L ints, at the cell b -/
def zLw (xs : Nat → Int32) (L b : Nat) (G : Nat → Nat → zL → List zA → zM → Prop) : Prop :=
  (∀ ct, z_okT 0 code ct = true → ∀ k pc ls st m s' P, z_step zN zRf ct (pc, ls, st, m) = some (s', P) → P → G k s'.1 s'.2.1 s'.2.2.1 s'.2.2.2 → G k pc ls st m) ∧
  (∀ ct, z_okT 0 code ct = true → ∀ k pc ls st m c t f st', z_br ct pc st = some (c, t, f, st') → (c → G k t ls st' m) → (¬ c → G k f ls st' m) → G k pc ls st m) ∧
  (∀ ct, z_okT 0 code ct = true → ∀ k pc ls st m t st', z_sw ct pc st = some (t, st') → G k t ls st' m → G k pc ls st m) ∧
  (∀ ct, z_okC 0 code z_MT ct = true → ∀ d k1 k2 pc ls st m y as nx st' v m', d ≤ 12 → z_call ct pc st = some (y, as, nx, st') → z_rcv zN (zKD y) as → z_Ev z_MT zN zRf d k1 y as m (.inl v, m') → G k2 nx ls (v.toList ++ st') m' → G (k1 + k2) pc ls st m) ∧
  (∀ k pc ls st m b, G k pc (z_mask b ls) st m → G k pc ls st m) ∧
  (∀ k pc ls st m, decode code pc = .ok (.aload_n 0, 1) → z_get ls 0 = some (.inl (.ref b)) → G k (pc + 1) ls (.inl (.ref b) :: st) m → G k pc ls st m) ∧
  (∀ k pc ls st m x, decode code pc = .ok (.iaload, 1) → vp_in x L → G k (pc + 1) ls (.inl (.int (xs x.toNatClampNeg)) :: st) m → G k pc ls (.inl (.int x) :: .inl (.ref b) :: st) m) ∧
  (∀ k pc ls st m, decode code pc = .ok (.arraylength, 1) → G k (pc + 1) ls (.inl (.int (Int32.ofNat L)) :: st) m → G k pc ls (.inl (.ref b) :: st) m)
section
variable {xs : Nat → Int32} {L b : Nat} {G : Nat → Nat → zL → List zA → zM → Prop} {ct : zT} {k pc : Nat} {ls : zL} {st : List zA} {m : zM}
theorem zl_steps (R : zLw xs L b G) (hct : z_okT 0 code ct = true) : ∀ (n : Nat) (s s' : zS) (P : Prop), z_steps zN zRf ct n s = some (s', P) → P → G k s'.1 s'.2.1 s'.2.2.1 s'.2.2.2 → G k s.1 s.2.1 s.2.2.1 s.2.2.2
  | 0, s, s', P, h, _, g => by cases h; exact g
  | n + 1, s, s', P, h, hP, g => by
    simp only [z_steps] at h
    split at h
    · rename_i s1 P1 h1
      split at h
      · rename_i s2 P2 h2
        cases h
        exact R.1 ct hct _ _ _ _ _ _ _ h1 hP.1 (zl_steps R hct n _ _ _ h2 hP.2 g)
      · cases h
    · cases h
theorem zl_st (R : zLw xs L b G) (hct : z_okT 0 code ct = true) (n : Nat) (pc' : Nat) (ls' : zL) (st' : List zA) (m' : zM) {P : Prop} (h : z_steps zN zRf ct n (pc, ls, st, m) = some ((pc', ls', st', m'), P)) (hP : P) (g : G k pc' ls' st' m') : G k pc ls st m :=
  zl_steps R hct n (pc, ls, st, m) (pc', ls', st', m') P h hP g
theorem zl_br (R : zLw xs L b G) (hct : z_okT 0 code ct = true) {c : Prop} {t f : Nat} {st' : List zA} (h : z_br ct pc st = some (c, t, f, st')) (g1 : c → G k t ls st' m) (g2 : ¬ c → G k f ls st' m) : G k pc ls st m :=
  R.2.1 ct hct _ _ _ _ _ _ _ _ _ h g1 g2
theorem zl_call (R : zLw xs L b G) (hcc : z_okC 0 code z_MT ct = true) {d k1 k2 y nx : Nat} {as st' : List zA} {v : Option zA} {m' : zM} (hd : d ≤ 12) (h : z_call ct pc st = some (y, as, nx, st')) (hr : z_rcv zN (zKD y) as) (he : z_Ev z_MT zN zRf d k1 y as m (.inl v, m')) (g : G k2 nx ls (v.toList ++ st') m') : G (k1 + k2) pc ls st m :=
  R.2.2.2.1 ct hcc d k1 k2 _ _ _ _ _ _ _ _ _ _ hd h hr he g
theorem zl_call0 (R : zLw xs L b G) (hcc : z_okC 0 code z_MT ct = true) {d k2 y nx : Nat} {as st' : List zA} {v : Option zA} {m' : zM} (hd : d ≤ 12) (h : z_call ct pc st = some (y, as, nx, st')) (hr : z_rcv zN (zKD y) as) (he : z_Ev z_MT zN zRf d 0 y as m (.inl v, m')) (g : G k2 nx ls (v.toList ++ st') m') : G k2 pc ls st m := by
  have := zl_call R hcc hd h hr he g
  rwa [Nat.zero_add] at this
theorem zl_mask (R : zLw xs L b G) (bs : List Bool) {ls' : zL} (h : z_mask bs ls = ls') (g : G k pc ls' st m) : G k pc ls st m := by
  subst h
  exact R.2.2.2.2.1 _ _ _ _ _ bs g
theorem zl_ald (hct : z_okT 0 code ct = true) (h : z_lk ct pc = some (1, zr 7 0 0 0 0)) : decode code pc = .ok (.aload_n 0, 1) := by
  have := z_lk_ok hct h
  simp only [z_lkb, Bool.and_eq_true, decide_eq_true_eq] at this
  exact this.2.2
theorem zl_inl (hct : z_okT 0 code ct = true) (h : z_lk ct pc = some (1, .inl .iaload)) : decode code pc = .ok (.iaload, 1) := by
  have := z_lk_ok hct h
  simp only [z_lkb, Bool.and_eq_true, decide_eq_true_eq] at this
  exact this.2
theorem zl_len (hct : z_okT 0 code ct = true) (h : z_lk ct pc = some (1, .inl .arraylength)) : decode code pc = .ok (.arraylength, 1) := by
  have := z_lk_ok hct h
  simp only [z_lkb, Bool.and_eq_true, decide_eq_true_eq] at this
  exact this.2
/-- an int of the script: script[i + K] -/
theorem zl_arg (R : zLw xs L b G) (hct : z_okT 0 code ct = true) (K : Int32) {x5 : Int32} {P : Prop} (h0 : z_lk ct pc = some (1, zr 7 0 0 0 0)) (hg : z_get ls 0 = some (.inl (.ref b))) (h1 : z_steps zN zRf ct 3 (pc + 1, ls, .inl (.ref b) :: st, m) = some ((pc + 5, ls, .inl (.int (x5 + K)) :: .inl (.ref b) :: st, m), P)) (hP : P) (h2 : z_lk ct (pc + 5) = some (1, .inl .iaload)) (hin : vp_in (x5 + K) L) (g : G k (pc + 6) ls (.inl (.int (xs (x5 + K).toNatClampNeg)) :: st) m) : G k pc ls st m :=
  R.2.2.2.2.2.1 _ _ _ _ _ (zl_ald hct h0) hg (zl_st R hct 3 _ _ _ _ h1 hP (R.2.2.2.2.2.2.1 _ _ _ _ _ _ (zl_inl hct h2) hin g))
end
/-- the locals between calls -/
abbrev lwL (b : Nat) (x : Int32) : zL := [some (.inl (.ref b)), some (.inr (12, 0)), some (.inr (13, 0)), some (.inr (32, 0)), some (.inr (33, 0)), some (.inl (.int x)), none, none, none]
theorem z_cmp_self (x : Int64) : lg_cmp x x = 0 := by
  unfold lg_cmp
  have : ¬ x < x := Int64.lt_irrefl
  simp
section
variable {p : Program} {l : Launch} {e : Env} {s : State} {mi : MethodId} {args : Array Value} {below : List Frame} {meth : Method} {c : Code} {Q : State → Prop} {K : Nat} {R : Room}
variable {ad : Nat → Nat → Nat} {dC : Nat → ClassId} {dI : Nat → Nat → Nat} {cs : Nat → ClassId}
variable {xs : Nat → Int32} {L b : Nat}
theorem zLw_of (htr : l.stackTraces = false) (hx : p.tables.exec = Jvm.exec) (hb : c.code = code) (hml : c.maxLocals = 9) (hts : ∀ w ∈ z_W, w.before args s = true) (hown : s.vm.findClass (z_cn 0) = some mi.cls)
    (hA : ∀ k i, i < zN k → s.heap.size ≤ ad k i) (h0 : z_W0 (fun q => s.heap.size ≤ q) zN zRf dC dI (fun k _ => cs (z_aty k)) s) (hWX : z_WX (fun q => s.heap.size ≤ q) s s.heap) (hRf : 18 ≤ R.frames) (hRl : 164 + 64 * 12 ≤ R.locals) (hRc : K ≤ R.cells ∧ 6 * K ≤ R.slots) (hX : va_X b L xs s s.heap) (hbl : b < s.heap.size) :
    zLw xs L b (z_G p l e R s mi args below meth c Q K 9 (fun q => s.heap.size ≤ q) ad zN zRf dC dI (fun k _ => cs (z_aty k))) := by
  have hbA : ¬ (fun q : Nat => s.heap.size ≤ q) b := Nat.not_le.mpr hbl
  refine ⟨?_, ?_, ?_, ?_, ?_, ?_, ?_, ?_⟩
  · intro ct hct k pc ls st m s' P h hP g
    exact z_sstep hx hb hts hown h0 hct h hP g
  · intro ct hct k pc ls st m c t f st' h g1 g2
    exact z_sbr hx hb hct h g1 g2
  · intro ct hct k pc ls st m t st' h g
    exact z_ssw hx hb hct h g
  · intro ct hcc d k1 k2 pc ls st m y as nx st' v m' hd h hr he g
    exact z_scall hx hb hml hts hown hA h0 hWX (fun y => (z_okA y).1) z_ML_all hcc (by omega) (by omega) hRc h hr (z_sound l htr z_MT zN zRf z_okA z_ML_all d k1 y as m _ he) (fun v2 m2 e2 => by cases e2; exact g) (fun e2 m2 e3 => by cases e3)
  · intro k pc ls st m bs g
    exact z_smask g
  · intro k pc ls st m hd hg g H locs lsC cells slots hk1 hk2 hI hL
    exact lv_aload_n hx hb hd rfl (hL.2.2.2 0 _ hg) (g H locs lsC cells slots hk1 hk2 hI hL)
  · intro k pc ls st m x hd hin g H locs lsC cells slots hk1 hk2 hI hL
    exact va_sld hx hb hX hbl hbA hI.2.2 hin hd (g H locs lsC cells slots hk1 hk2 hI hL)
  · intro k pc ls st m hd g H locs lsC cells slots hk1 hk2 hI hL
    exact va_slen hx hb hX hbl hbA hI.2.2 hd (g H locs lsC cells slots hk1 hk2 hI hL)
end
