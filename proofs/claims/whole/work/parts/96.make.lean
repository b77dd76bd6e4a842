/-! Constructors: objects and rows are made one behind another. -/
abbrev zFa (a sz : Nat) : Nat → Prop := fun q => q = a ∨ sz ≤ q
/-- what a constructor wants of the state: classes, classes of rows, what a throw wants -/
def zEnv (dC : Nat → ClassId) (dI : Nat → Nat → Nat) (cs : Nat → ClassId) (A : Nat → Prop) (U : State) : Prop :=
  va_K (dC, dI) vwCl [] U ∧ (∀ k, 20 ≤ k → ArrOfT U (cs (z_aty k)) (z_aT k) ∧ va_RA U (cs (z_aty k)) (z_aT k)) ∧ z_WX A U U.heap ∧ va_AO RX4 U
theorem zEnv.to {dC : Nat → ClassId} {dI : Nat → Nat → Nat} {cs : Nat → ClassId} {A B : Nat → Prop} {s U : State} (h : zEnv dC dI cs A s) (hW : s.WarmedH U.vm) (hk : ∀ q : Nat, q < s.heap.size → ¬ A q → U.heap[q]? = s.heap[q]?) (hB : ∀ q, B q → A q) : zEnv dC dI cs B U :=
  ⟨h.1.moved hW.alike, fun k hk => ⟨arrOfT_moved hW.alike (h.2.1 k hk).1, (h.2.1 k hk).2.moved hW.alike⟩, z_WX_warm hW h.2.2.1 hk hB, h.2.2.2.moved hW.alike⟩
/-- the world of a constructor under way: its own object at a with the fields fs, what it made: es, from where the heap ended on -/
def zSw (dC : Nat → ClassId) (dI : Nat → Nat → Nat) (ci a : Nat) (fs : List Value) (es : List va_E) (H0 H : Heap) (locs : List Loc) : Prop :=
  H.size = H0.size + es.length ∧ va_at (dC, dI) vwCl (a, .inr (ci, fs)) H ∧ (∀ j e, es[j]? = some e → va_at (dC, dI) vwCl (H0.size + j, e) H) ∧ va_S (zFa a H0.size) H0 H locs ∧ a < H0.size
section
variable {dC : Nat → ClassId} {dI : Nat → Nat → Nat} {cs : Nat → ClassId} {ci a : Nat} {fs : List Value} {es : List va_E} {H0 H H1 : Heap} {locs : List Loc}
theorem zSw.rf (h : va_at (dC, dI) vwCl (a, .inr (ci, fs)) H0) : zSw dC dI ci a fs [] H0 H0 [] := ⟨rfl, h, (fun j e hj => by cases hj), va_S.rf, h.lt⟩
theorem zSw.grow (h : zSw dC dI ci a fs es H0 H locs) {es' : List va_E} {L : List Loc} (z : H1.size = H.size + es'.length) (o : ∀ q : Nat, q < H.size → H1[q]? = H[q]?) (g : ∀ j e, es'[j]? = some e → va_at (dC, dI) vwCl (H.size + j, e) H1) (hL : ∀ q ∈ L, H.size ≤ q.base) : zSw dC dI ci a fs (es ++ es') H0 H1 (locs ++ L) := by
  obtain ⟨h1, h2, h3, h4, h5⟩ := h
  refine ⟨by rw [z, h1, List.length_append]; omega, h2.kept (o a (by omega)), fun j e hj => ?_, ⟨by omega, fun q q1 q2 => (o q (by omega)).trans (h4.2.1 q q1 q2), fun q hq => ?_⟩, h5⟩
  · by_cases w : j < es.length
    · rw [List.getElem?_append_left w] at hj
      exact (h3 j e hj).kept (o (H0.size + j) (by omega))
    · rw [List.getElem?_append_right (by omega)] at hj
      have := g _ _ hj
      rw [show H.size + (j - es.length) = H0.size + j by omega] at this
      exact this
  · rcases List.mem_append.mp hq with hq | hq
    · exact h4.2.2 q hq
    · exact .inr (by have := hL q hq; omega)
theorem zSw.ws (h : zSw dC dI ci a fs es H0 H locs) : va_P (dC, dI) vwCl [(a, .inr (ci, fs))] H := fun k q hk => by
  have hz : k < 1 := (List.getElem?_eq_some_iff.mp hk).1
  rw [show k = 0 by omega] at hk
  cases hk
  exact h.2.1
/-- one thing of those that were made changes -/
theorem zSw.upd (h : zSw dC dI ci a fs es H0 H locs) {j : Nat} {e' : va_E} (hj : j < es.length) {n : Nat} (z : H1.size = H.size) (o : ∀ q : Nat, q ≠ H0.size + j → H1[q]? = H[q]?) (g : va_at (dC, dI) vwCl (H0.size + j, e') H1) : zSw dC dI ci a fs (es.set j e') H0 H1 (locs ++ [⟨H0.size + j, n⟩]) := by
  obtain ⟨h1, h2, h3, h4, h5⟩ := h
  refine ⟨by rw [z, h1, List.length_set], h2.kept (o a (by omega)), fun i e hi => ?_, h4.put z o (.inr (by omega)), h5⟩
  rw [List.getElem?_set] at hi
  by_cases w : j = i
  · rw [if_pos w, if_pos hj] at hi
    cases hi
    rw [← w]
    exact g
  · rw [if_neg w] at hi
    exact (h3 i e hi).kept (o (H0.size + i) (by omega))
end
theorem z_cnC {k : Nat} (h2 : 2 ≤ k) (h : k < 14) : (z_C k).1 = z_cn k := by
  have : k = 2 ∨ k = 3 ∨ k = 4 ∨ k = 5 ∨ k = 6 ∨ k = 7 ∨ k = 8 ∨ k = 9 ∨ k = 10 ∨ k = 11 ∨ k = 12 ∨ k = 13 := by omega
  rcases this with rfl | rfl | rfl | rfl | rfl | rfl | rfl | rfl | rfl | rfl | rfl | rfl <;> rfl
/-- what stays in a constructor's walk -/
def zCx (dC : Nat → ClassId) (dI : Nat → Nat → Nat) (cs : Nat → ClassId) (ci a : Nat) (p : Program) (s : State) (m : MethodId) (args : Array Value) (meth : Method) (c : Code) (cc : ByteArray) : Prop :=
  p.tables.exec = Jvm.exec ∧ c.code = cc ∧ (∀ w ∈ z_W, w.before args s = true) ∧ s.vm.findClass (z_cn ci) = some m.cls ∧ meth.name = "<init>" ∧ zEnv dC dI cs (zFa a s.heap.size) s
section
variable {p : Program} {l : Launch} {e : Env} {R : Room} {s : State} {m : MethodId} {args : Array Value} {below : List Frame} {meth : Method} {c : Code} {H : Heap} {locs : List Loc} {cells slots : Nat} {Q : State → Prop}
variable {cc : ByteArray} {pc : Nat} {ls : Array Slot} {rest : List Value}
variable {dC : Nat → ClassId} {dI : Nat → Nat → Nat} {cs : Nat → ClassId} {ci a : Nat} {fs : List Value} {es : List va_E}
/-- a putfield into the object that is made, final or not -/
theorem zc_put (X : zCx dC dI cs ci a p s m args meth c cc) {w index b : Nat} (hfl : z_FL[w]? = some (ci, index, ci, b)) {v : Value} (hn : narrow (z_tyf ci b) v = v) (hfit : fits (z_tyf ci b) v = true) (hl : b < fs.length) (hdg : decode cc pc = .ok (.putfield index, 3)) (h : zSw dC dI ci a fs es s.heap H locs)
    (kk : ∀ (H1 : Heap) (locs1 : List Loc), zSw dC dI ci a (fs.set b v) es s.heap H1 locs1 → W p l e R s m args below meth c H1 locs1 cells slots Q (F0 m (pc + 3) ls rest)) : W p l e R s m args below meth c H locs cells slots Q (F0 m pc ls (v :: .ref a :: rest)) := by
  obtain ⟨hx, hb, hts, hown, hin, hE⟩ := X
  obtain ⟨hw, hdc, g2, g13, hbN⟩ := z_FL_all _ (List.mem_of_getElem? hfl)
  dsimp only at hw hdc g2 g13 hbN
  obtain ⟨hc1, hc2, hc3, hc4⟩ := z_cls (k := ci) (by omega)
  have hbN : b < (z_C ci).2.2 := by omega
  have hap := va_apart (own := z_cn ci) hts hc2 (z_tyf ci) hc3 hc4 hE.1 hc1
  have h0 := h
  obtain ⟨s1, ⟨r, h1, cell, q1, q2, q3, q4⟩, s3, s4, s5⟩ := h
  have hr : r = z_C ci := Option.some.inj (h1.symm.trans hc1)
  subst hr
  obtain ⟨hS, hfc, kC, hkC, hkind⟩ := hE.1.1 ci _ hc1
  obtain ⟨cf, kf, fi, f, hi, hsl⟩ := hS b hbN
  have hlay := hts _ (hc2 _ (u_in_lay hbN))
  have hst := (u_facts hfc hkC (u_lays hts hc2 hbN) hi).1
  have hlink := hts _ hw
  have hi2 : s.fieldFound? (z_C ci).1 ((z_C ci).2.1 b).2.1 ((z_C ci).2.1 b).2.2.1 = some (cf, kf, fi, f) := by rw [← hdc]; exact hi
  have fin : ∀ H' : Heap, H'[a]? = some (cell.setSlot f.slot v) → H'.size = H.size → (∀ q, q ≠ a → H'[q]? = H[q]?) → zSw dC dI ci a (fs.set b v) es s.heap H' (locs ++ [⟨a, f.slot⟩]) := fun H' e1 e2 e3 => by
    refine ⟨by rw [e2]; exact s1, ⟨_, hc1, ?_⟩, fun j e hj => (s3 j e hj).kept (e3 (s.heap.size + j) (by omega)), s4.put e2 e3 (.inl rfl), s5⟩
    rw [hsl] at e1
    exact t_OB.to (V := updV (vp_V fs) b v) ⟨_, e1, q2, q3, t_set q4 hap hbN v⟩ (fun j _ => vp_updV_set hl v j)
  cases hf : ((z_C ci).2.1 b).2.2.2 with
  | false =>
    unfold u_lay at hlay
    rw [if_neg (by rw [hf]; decide)] at hlay
    have h6 := u_store hfc hkC hkind hlay hi (hc3 b hbN) hn hfit
    exact W.putK hx hb (f := f) ⟨hown, hlink, ⟨_, _, _, hi2⟩, hst⟩ (by rw [q2]; exact h6) q1 q3 (by rw [hsl]; exact k2_hasslot (q4 b hbN)) rfl rfl hdg fun H' e1 e2 e3 => kk H' _ (fin H' e1 e2 e3)
  | true =>
    unfold u_lay at hlay
    rw [if_pos hf] at hlay
    have hcf : m.cls = cf := by
      obtain ⟨_, _, c', _, _, _, -, -, hf', -, -, -, hown2, -⟩ := Cond.laysFinal_spec hlay
      have e1 : c' = cf := by have := hi.symm.trans hf'; simp at this; exact this.1.symm
      have hown' : s.vm.findClass (z_C ci).1 = some m.cls := by rw [z_cnC g2 (by omega)]; exact hown
      rw [hdc] at hown2
      rw [← e1]; exact Option.some.inj (hown'.symm.trans hown2)
    have h6 := u_fits hfc hkC hkind (Or.inr hlay) hi (hc3 b hbN) hn hfit
    exact W.putFinK hx hb hown hlink hi2 hst hcf hin (by rw [q2]; exact h6) q1 q3 (by rw [hsl]; exact k2_hasslot (q4 b hbN)) rfl rfl hdg fun H' e1 e2 e3 => kk H' _ (fin H' e1 e2 e3)
/-- a row of one kind, put into a field -/
theorem zc_row (X : zCx dC dI cs ci a p s m args meth c cc) (k : Nat) {atype : ArrayType} {n : Int32} {N : Nat} (hk : 20 ≤ k) (hat : newarray.typeOf atype = z_aT k) (hty : ∀ C, z_aT k ≠ .object C) (harr : Cond.arrayClass (newarray.typeOf atype) ∈ z_W) (a0 : vp_A) (ha : ∀ cA : ClassId, vp_cell cA a0 = arrV cA N (fun _ => defaultValue (newarray.typeOf atype))) (hn : ¬ n < 0) (hN : n.toNatClampNeg = N) (hbytes : N * componentBytes (newarray.typeOf atype) ≤ 536870912) (hcells : cells + 1 ≤ R.cells) (hslots : slots + N ≤ R.slots)
    {w index b : Nat} (hfl : z_FL[w]? = some (ci, index, ci, b)) (hn2 : ∀ q : Nat, narrow (z_tyf ci b) (.ref q) = .ref q) (hf2 : ∀ q : Nat, fits (z_tyf ci b) (.ref q) = true) (hl : b < fs.length) (hd1 : decode cc pc = .ok (.newarray atype, 2)) (hd2 : decode cc (pc + 2) = .ok (.putfield index, 3)) (h : zSw dC dI ci a fs es s.heap H locs)
    (kk : ∀ (H1 : Heap) (locs1 : List Loc), zSw dC dI ci a (fs.set b (.ref (s.heap.size + es.length))) (es ++ [.inl (cs (z_aty k), a0)]) s.heap H1 locs1 → W p l e R s m args below meth c H1 locs1 (cells + 1) (slots + N) Q (F0 m (pc + 5) ls rest)) : W p l e R s m args below meth c H locs cells slots Q (F0 m pc ls (.int n :: .ref a :: rest)) := by
  have X0 := X
  obtain ⟨hx, hb, hts, hown, hin, hE⟩ := X
  refine va_newaK hx hb (hts _ harr) rfl hd1 rfl hn hN hbytes hcells hslots h.1 fun H1 cA e1 z1 o1 hAr hNm => ?_
  have hcA : cA = cs (z_aty k) := by
    have h2 := (hE.2.1 k hk).2
    rw [hat] at hNm
    have h3 : s.vm.findClass ("[" ++ (z_aT k).toString) = some (cs (z_aty k)) := by
      revert h2 hty
      generalize z_aT k = t
      intro hty h2
      cases t <;> first | exact h2 | exact absurd rfl (hty _)
    exact Option.some.inj (hNm.symm.trans h3)
  have h' : zSw dC dI ci a fs (es ++ [.inl (cs (z_aty k), a0)]) s.heap H1 (locs ++ []) := by
    refine h.grow (by rw [z1, h.1]; rfl) (fun q hq => o1 q (by rw [← h.1]; exact hq)) (fun j e hj => ?_) (fun q hq => by cases hq)
    have hz : j < 1 := (List.getElem?_eq_some_iff.mp hj).1
    rw [show j = 0 by omega] at hj ⊢
    cases hj
    show H1[H.size + 0]? = some (vp_cell _ _)
    rw [ha, ← hcA, Nat.add_zero, h.1]
    exact e1
  rw [List.append_nil] at h'
  exact zc_put X0 hfl (hn2 _) (hf2 _) hl hd2 h' kk
end
