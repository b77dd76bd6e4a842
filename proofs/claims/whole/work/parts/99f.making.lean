/-! Making the world, in the law. -/
def zLst (dC : Nat → ClassId) (dI : Nat → Nat → Nat) (es : List va_E) (H0 H : Heap) (locs : List Loc) : Prop :=
  H.size = H0.size + es.length ∧ (∀ j e, es[j]? = some e → va_at (dC, dI) vwCl (H0.size + j, e) H) ∧ va_S (fun q => H0.size ≤ q) H0 H locs
theorem zLst.grow {dC : Nat → ClassId} {dI : Nat → Nat → Nat} {es : List va_E} {H0 H H1 : Heap} {locs : List Loc} (h : zLst dC dI es H0 H locs) {es' : List va_E} {L : List Loc} (z : H1.size = H.size + es'.length) (o : ∀ q : Nat, q < H.size → H1[q]? = H[q]?) (g : ∀ j e, es'[j]? = some e → va_at (dC, dI) vwCl (H.size + j, e) H1) (hL : ∀ q ∈ L, H.size ≤ q.base) : zLst dC dI (es ++ es') H0 H1 (locs ++ L) := by
  obtain ⟨h1, h3, h4⟩ := h
  refine ⟨by rw [z, h1, List.length_append]; omega, fun j e hj => ?_, by omega, fun q q1 q2 => (o q (by omega)).trans (h4.2.1 q q1 q2), fun q hq => ?_⟩
  · by_cases w : j < es.length
    · rw [List.getElem?_append_left w] at hj
      exact (h3 j e hj).kept (o (H0.size + j) (by omega))
    · rw [List.getElem?_append_right (by omega)] at hj
      have := g _ _ hj
      rw [show H.size + (j - es.length) = H0.size + j by omega] at this
      exact this
  · rcases List.mem_append.mp hq with hq | hq
    · exact h4.2.2 q hq
    · show H0.size ≤ q.base
      have := hL q hq
      omega
section
variable {p : Program} {l : Launch} {e : Env} {R : Room} {s : State} {m : MethodId} {args : Array Value} {below : List Frame} {meth : Method} {c : Code} {H : Heap} {locs : List Loc} {cells slots : Nat} {Q : State → Prop}
variable {pc : Nat} {ls : Array Slot} {rest : List Value}
variable {dC : Nat → ClassId} {dI : Nat → Nat → Nat} {cs : Nat → ClassId} {es : List va_E}
theorem lw_make (hx : p.tables.exec = Jvm.exec) (hb : c.code = code) (hts : ∀ w ∈ z_W, w.before args s = true) (hown : s.vm.findClass (z_cn 0) = some m.cls) (hE : zEnv dC dI cs (fun q => s.heap.size ≤ q) s) {nL : Nat} (hml : c.maxLocals = nL) (hsz : ls.size = nL) (ck : Nat) (h2 : 2 ≤ ck) (h14 : ck < 14) {i1 i2 n : Nat} {y : MethodName} {cy : ByteArray} {rm : Room} {f0 : List Value} {fs' : Nat → List Value} {es' : (Nat → ClassId) → Nat → List va_E}
    (hcl : Cond.classLink (z_cn 0) i1 (z_C ck).1 ∈ z_W) (hinst : Cond.instantiable (z_C ck).1 (z_C ck).2.2 ∈ z_W) (hini : Cond.initialized (z_C ck).1 ∈ z_W) (hmlk : Cond.methodLink (z_cn 0) i2 y ∈ z_W) (hyn : y.name = "<init>") (hyc : y.cls = (z_C ck).1) (him : Cond.instanceMethod y ∈ z_W)
    (hd : y.cls ≠ "java/lang/invoke/MethodHandle" ∧ y.cls ≠ "java/lang/invoke/VarHandle" ∧ (parseMethodDescriptor y.desc).map (fun d => d.parameters.length) = some 0) (hcode : Cond.code y cy n none ∈ z_W) (hC : zCon l y (Cond.code y cy n none :: z_W) rm ck f0 fs' es') (hf0 : ∀ j, j < (z_C ck).2.2 → defaultValue (z_tyf ck j) = vp_V f0 j)
    (hR : rm.frames + 1 ≤ R.frames ∧ 8 + (n + 11) + rm.locals ≤ R.locals) (hcells : cells + 1 + rm.cells ≤ R.cells) (hslots : slots + (z_C ck).2.2 + rm.slots ≤ R.slots) (hrest : (rest.map fun v => v.category).sum ≤ 7)
    (hd1 : decode code pc = .ok (.new i1, 3)) (hd2 : decode code (pc + 3) = .ok (.dup, 1)) (hd3 : decode code (pc + 4) = .ok (.invokespecial i2, 3)) (h : zLst dC dI es s.heap H locs)
    (kk : ∀ (H1 : Heap) (locs1 : List Loc), zLst dC dI (es ++ (.inr (ck, fs' (s.heap.size + es.length + 1)) :: es' cs (s.heap.size + es.length + 1))) s.heap H1 locs1 → W p l e R s m args below meth c H1 locs1 (cells + 1 + rm.cells) (slots + (z_C ck).2.2 + rm.slots) Q (F0 m (pc + 7) ls (.ref (s.heap.size + es.length) :: rest))) : W p l e R s m args below meth c H locs cells slots Q (F0 m pc ls rest) := by
  obtain ⟨hc1, hc2, hc3, hc4⟩ := z_cls (k := ck) ⟨h2, h14⟩
  have hKn := hE.1.1 ck _ hc1
  have hHs : H.size = s.heap.size + es.length := h.1
  refine W.newcK hx hb hown (hts _ hcl) (hts _ hinst) (hts _ hini) rfl hd1 (by omega) (by omega) hKn.2.1 hHs fun H1 kC hkC e1 z1 o1 => ?_
  have g0 : va_at (dC, dI) vwCl (s.heap.size + es.length, .inr (ck, f0)) H1 := ⟨_, hc1, (u_born (z_tyf ck) hts hc2 hKn hkC e1 hc3).to hf0⟩
  refine lv_dup (rest := rest) hx hb hd2 rfl ?_
  have hpre : ∀ U : State, U.heap = H1 → s.WarmedH U.vm → zPre dC dI cs ck (s.heap.size + es.length) H1.size f0 ([.ref (s.heap.size + es.length)] : List Value).toArray U := fun U hU hW => by
    refine ⟨rfl, by rw [hU], hE.to hW (fun q q1 q2 => ?_) (fun q hq => ?_), by rw [hU]; exact g0⟩
    · rw [hU, o1 q (by omega)]
      exact h.2.2.2.1 q q1 q2
    · show s.heap.size ≤ q
      rcases hq with hq | hq
      · omega
      · omega
  have run := va_runI (p := p) (l := l) (e := e) (below := below) (meth := meth) (locs := locs) (cells := cells + 1) (slots := slots + (z_C ck).2.2) (m := m) (g := F0 m (pc + 3 + 1) ls (.ref (s.heap.size + es.length) :: .ref (s.heap.size + es.length) :: rest)) (As := []) (rest := .ref (s.heap.size + es.length) :: rest) ⟨hx, hb, hml, hown, hts⟩ (hC dC dI cs (s.heap.size + es.length) H1.size) ⟨callB_of 0 hts (zc_good hcode) rfl rfl rfl (by rw [hyc]; exact hts _ hini) (hts _ hmlk) hd hR, hyn, hts _ him⟩ ⟨zPre.blind, hpre⟩ rfl rfl hsz rfl (lv_room (by show Value.category _ + (rest.map fun v => v.category).sum ≤ 8; have : Value.category (.ref (s.heap.size + es.length)) = 1 := rfl; omega)) hd3 ⟨by omega, by omega⟩
  intro T hT X'
  obtain ⟨v, st₀, t, T', L, w0, X2, hL, w1, w2, ⟨hret, q1, q2, q3, q4⟩, hgo⟩ := run T hT X'
  have hv : v = none := by injection hret
  subst hv
  have h' : zLst dC dI (es ++ (.inr (ck, fs' (s.heap.size + es.length + 1)) :: es' cs (s.heap.size + es.length + 1))) s.heap t.heap (locs ++ L) := by
    rw [z1] at q1 q2 q3 hL
    refine h.grow (by rw [q1, hHs, List.length_cons]; omega) (fun q hq => ?_) (fun j x hj => ?_) (fun q hq => ?_)
    · rw [q4.2 q (by rw [w0, z1]; omega) (by rintro (h9 | h9) <;> omega), w0]
      exact o1 q (by omega)
    · rw [hHs]
      cases j with
      | zero => cases hj; exact q2
      | succ j =>
        have := q3 j x hj
        rw [show s.heap.size + es.length + (j + 1) = s.heap.size + es.length + 1 + j by omega]
        exact this
    · rcases hL q hq with h9 | h9
      · omega
      · omega
  obtain ⟨t2, a1, b1⟩ := kk T'.heap (locs ++ L) (by rw [w1]; exact h') T' rfl X2
  exact ⟨t2, hgo t2 a1, b1⟩
theorem lw_newa (hx : p.tables.exec = Jvm.exec) (hb : c.code = code) (hts : ∀ w ∈ z_W, w.before args s = true) (hE : zEnv dC dI cs (fun q => s.heap.size ≤ q) s) (k : Nat) {atype : ArrayType} {n : Int32} {N : Nat} (hk : 20 ≤ k) (hat : newarray.typeOf atype = z_aT k) (hty : ∀ C, z_aT k ≠ .object C) (harr : Cond.arrayClass (newarray.typeOf atype) ∈ z_W) (a0 : vp_A) (ha : ∀ cA : ClassId, vp_cell cA a0 = arrV cA N (fun _ => defaultValue (newarray.typeOf atype))) (hn : ¬ n < 0) (hN : n.toNatClampNeg = N) (hbytes : N * componentBytes (newarray.typeOf atype) ≤ 536870912) (hcells : cells + 1 ≤ R.cells) (hslots : slots + N ≤ R.slots)
    (hd1 : decode code pc = .ok (.newarray atype, 2)) (h : zLst dC dI es s.heap H locs)
    (kk : ∀ (H1 : Heap), zLst dC dI (es ++ [.inl (cs (z_aty k), a0)]) s.heap H1 locs → W p l e R s m args below meth c H1 locs (cells + 1) (slots + N) Q (F0 m (pc + 2) ls (.ref (s.heap.size + es.length) :: rest))) : W p l e R s m args below meth c H locs cells slots Q (F0 m pc ls (.int n :: rest)) := by
  refine va_newaK hx hb (hts _ harr) rfl hd1 rfl hn hN hbytes hcells hslots h.1 fun H1 cA e1 z1 o1 hAr hNm => ?_
  have hcA : cA = cs (z_aty k) := by
    have h2 := (hE.2.1 k hk).2
    rw [hat] at hNm
    have h3 : s.vm.findClass ("[" ++ (z_aT k).toString) = some (cs (z_aty k)) := by
      revert h2 hty
      generalize z_aT k = t
      intro hty h2
      cases t <;> first | exact h2 | exact absurd rfl (hty _)
    exact Option.some.inj (hNm.symm.trans h3)
  have h' : zLst dC dI (es ++ [.inl (cs (z_aty k), a0)]) s.heap H1 (locs ++ []) := by
    refine h.grow (by rw [z1, h.1]; rfl) (fun q hq => o1 q (by rw [← h.1]; exact hq)) (fun j e hj => ?_) (fun q hq => by cases hq)
    have hz : j < 1 := (List.getElem?_eq_some_iff.mp hj).1
    rw [show j = 0 by omega] at hj ⊢
    cases hj
    show H1[H.size + 0]? = some (vp_cell _ _)
    rw [ha, ← hcA, Nat.add_zero, h.1]
    exact e1
  rw [List.append_nil] at h'
  exact kk H1 h'
end
