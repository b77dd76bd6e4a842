/-! Contracts of constructors. -/
def zPre (dC : Nat → ClassId) (dI : Nat → Nat → Nat) (cs : Nat → ClassId) (ci a sz : Nat) (f0 : List Value) : Array Value → State → Prop := fun v U =>
  v = ([.ref a] : List Value).toArray ∧ U.heap.size = sz ∧ zEnv dC dI cs (zFa a sz) U ∧ va_at (dC, dI) vwCl (a, .inr (ci, f0)) U.heap
def zPost (dC : Nat → ClassId) (dI : Nat → Nat → Nat) (ci a sz : Nat) (fs : List Value) (es : List va_E) : Array Value → State → Outcome → State → Prop := fun _ st oc t =>
  oc = .returned none ∧ t.heap.size = sz + es.length ∧ va_at (dC, dI) vwCl (a, .inr (ci, fs)) t.heap ∧ (∀ j e, es[j]? = some e → va_at (dC, dI) vwCl (sz + j, e) t.heap) ∧ va_F (zFa a sz) st t
/-- the constructor y of class number ci: from the fields f0 to fs, with es made -/
def zCon (l : Launch) (y : MethodName) (ws : List Cond) (rm : Room) (ci : Nat) (f0 : List Value) (fs : Nat → List Value) (es : (Nat → ClassId) → Nat → List va_E) : Prop :=
  ∀ dC dI cs a sz, Met l y ws rm (zPre dC dI cs ci a sz f0) (zPost dC dI ci a sz (fs sz) (es cs sz)) rm.cells rm.slots (zFa a sz)
theorem zPre.blind {dC : Nat → ClassId} {dI : Nat → Nat → Nat} {cs : Nat → ClassId} {ci a sz : Nat} {f0 : List Value} : FrameBlind (zPre dC dI cs ci a sz f0) := by
  intro v U g mk h
  obtain ⟨h1, h2, ⟨h3, h4, h5, h6⟩, h7⟩ := h
  have hvm : U.vm.Alike (U.calling g mk v).vm := Vm.Alike.refl U.vm
  exact ⟨h1, h2, ⟨h3.moved hvm, fun k hk => ⟨arrOfT_moved hvm (h4 k hk).1, (h4 k hk).2.moved hvm⟩, ⟨h5.1.moved hvm, h5.2.1.moved hvm, fun q hq => (h5.2.2.1 q hq).imp fun _ g1 => vk_R.same (u := U) rfl g1, fun w hw => va_Nw.same (u := U) (z_Bok_t (z_B_ok w hw)) rfl (h5.2.2.2.1 w hw), fun i j q1 q2 q3 => (h5.2.2.2.2 i j q1 q2 q3).moved hvm⟩, h6.moved hvm⟩, h7⟩
theorem zc_good {w : Cond} (h : w ∈ z_W) : GoodIn z_W (w :: z_W) := by
  intro x hx
  rcases List.mem_cons.mp hx with e | hx
  · subst e
    exact ⟨h, good_of_word (z_W_good _ h)⟩
  · exact ⟨hx, good_of_word (z_W_good _ hx)⟩
section
variable {p : Program} {l : Launch} {e : Env} {R : Room} {s : State} {m : MethodId} {args : Array Value} {below : List Frame} {meth : Method} {c : Code} {H : Heap} {locs : List Loc} {cells slots : Nat} {Q : State → Prop}
variable {cc : ByteArray} {pc : Nat} {ls : Array Slot} {rest : List Value}
variable {dC : Nat → ClassId} {dI : Nat → Nat → Nat} {cs : Nat → ClassId} {ci a : Nat} {fs : List Value} {es : List va_E}
/-- new, dup, invokespecial: an object of another class, ready -/
theorem zc_make (X : zCx dC dI cs ci a p s m args meth c cc) {nL : Nat} (hml : c.maxLocals = nL) (hsz : ls.size = nL) (ck : Nat) (h2 : 2 ≤ ck) (h14 : ck < 14) {i1 i2 n : Nat} {y : MethodName} {cy : ByteArray} {rm : Room} {f0 : List Value} {fs' : Nat → List Value} {es' : (Nat → ClassId) → Nat → List va_E}
    (hcl : Cond.classLink (z_cn ci) i1 (z_C ck).1 ∈ z_W) (hinst : Cond.instantiable (z_C ck).1 (z_C ck).2.2 ∈ z_W) (hini : Cond.initialized (z_C ck).1 ∈ z_W) (hmlk : Cond.methodLink (z_cn ci) i2 y ∈ z_W) (hyn : y.name = "<init>") (hyc : y.cls = (z_C ck).1) (him : Cond.instanceMethod y ∈ z_W)
    (hd : y.cls ≠ "java/lang/invoke/MethodHandle" ∧ y.cls ≠ "java/lang/invoke/VarHandle" ∧ (parseMethodDescriptor y.desc).map (fun d => d.parameters.length) = some 0) (hcode : Cond.code y cy n none ∈ z_W) (hC : zCon l y (Cond.code y cy n none :: z_W) rm ck f0 fs' es') (hf0 : ∀ j, j < (z_C ck).2.2 → defaultValue (z_tyf ck j) = vp_V f0 j)
    (hR : rm.frames + 1 ≤ R.frames ∧ 8 + (n + 11) + rm.locals ≤ R.locals) (hcells : cells + 1 + rm.cells ≤ R.cells) (hslots : slots + (z_C ck).2.2 + rm.slots ≤ R.slots) (hrest : (rest.map fun v => v.category).sum ≤ 7)
    (hd1 : decode cc pc = .ok (.new i1, 3)) (hd2 : decode cc (pc + 3) = .ok (.dup, 1)) (hd3 : decode cc (pc + 4) = .ok (.invokespecial i2, 3)) (h : zSw dC dI ci a fs es s.heap H locs)
    (kk : ∀ (H1 : Heap) (locs1 : List Loc), zSw dC dI ci a fs (es ++ (.inr (ck, fs' (s.heap.size + es.length + 1)) :: es' cs (s.heap.size + es.length + 1))) s.heap H1 locs1 → W p l e R s m args below meth c H1 locs1 (cells + 1 + rm.cells) (slots + (z_C ck).2.2 + rm.slots) Q (F0 m (pc + 7) ls (.ref (s.heap.size + es.length) :: rest))) : W p l e R s m args below meth c H locs cells slots Q (F0 m pc ls rest) := by
  obtain ⟨hx, hb, hts, hown, hin, hE⟩ := X
  obtain ⟨hc1, hc2, hc3, hc4⟩ := z_cls (k := ck) ⟨h2, h14⟩
  have hKn := hE.1.1 ck _ hc1
  have hHs : H.size = s.heap.size + es.length := h.1
  refine W.newcK hx hb hown (hts _ hcl) (hts _ hinst) (hts _ hini) rfl hd1 (by omega) (by omega) hKn.2.1 hHs fun H1 kC hkC e1 z1 o1 => ?_
  have g0 : va_at (dC, dI) vwCl (s.heap.size + es.length, .inr (ck, f0)) H1 := ⟨_, hc1, (u_born (z_tyf ck) hts hc2 hKn hkC e1 hc3).to hf0⟩
  refine lv_dup (rest := rest) hx hb hd2 rfl ?_
  have hpre : ∀ U : State, U.heap = H1 → s.WarmedH U.vm → zPre dC dI cs ck (s.heap.size + es.length) H1.size f0 ([.ref (s.heap.size + es.length)] : List Value).toArray U := fun U hU hW => by
    refine ⟨rfl, by rw [hU], hE.to hW (fun q q1 q2 => ?_) (fun q hq => ?_), by rw [hU]; exact g0⟩
    · rw [hU, o1 q (by omega)]
      exact h.2.2.2.1.2.1 q q1 q2
    · rcases hq with hq | hq
      · exact .inr (by omega)
      · exact .inr (by omega)
  have run := va_runI (p := p) (l := l) (e := e) (below := below) (meth := meth) (locs := locs) (cells := cells + 1) (slots := slots + (z_C ck).2.2) (m := m) (g := F0 m (pc + 3 + 1) ls (.ref (s.heap.size + es.length) :: .ref (s.heap.size + es.length) :: rest)) (As := []) (rest := .ref (s.heap.size + es.length) :: rest) ⟨hx, hb, hml, hown, hts⟩ (hC dC dI cs (s.heap.size + es.length) H1.size) ⟨callB_of 0 hts (zc_good hcode) rfl rfl rfl (by rw [hyc]; exact hts _ hini) (hts _ hmlk) hd hR, hyn, hts _ him⟩ ⟨zPre.blind, hpre⟩ rfl rfl hsz rfl (lv_room (by show Value.category _ + (rest.map fun v => v.category).sum ≤ 8; have : Value.category (.ref (s.heap.size + es.length)) = 1 := rfl; omega)) hd3 ⟨by omega, by omega⟩
  intro T hT X'
  obtain ⟨v, st₀, t, T', L, w0, X2, hL, w1, w2, ⟨hret, q1, q2, q3, q4⟩, hgo⟩ := run T hT X'
  have hv : v = none := by injection hret
  subst hv
  have h' : zSw dC dI ci a fs (es ++ (.inr (ck, fs' (s.heap.size + es.length + 1)) :: es' cs (s.heap.size + es.length + 1))) s.heap t.heap (locs ++ L) := by
    rw [z1] at q1 q2 q3 hL
    refine h.grow (by rw [q1, hHs, List.length_cons]; omega) (fun q hq => ?_) (fun j x hj => ?_) (fun q hq => ?_)
    · rw [q4.2 q (by rw [w0, z1]; omega) (by rintro (h9 | h9) <;> omega), w0]
      exact o1 q (by omega)
    · rw [hHs]
      cases j with
      | zero => cases hj; exact q2
      | succ j =>
        have := q3 j x hj
        rw [show s.heap.size + es.length + (j + 1) = s.heap.size + es.length + 1 + j by omega]
        exact this
    · rcases hL q hq with h9 | h9
      · omega
      · omega
  obtain ⟨t2, a1, b1⟩ := kk T'.heap (locs ++ L) (by rw [w1]; exact h') T' rfl X2
  exact ⟨t2, hgo t2 a1, b1⟩
theorem zc_end (X : zCx dC dI cs ci a p s m args meth c cc) (hr : meth.sig.returnType = none) (hlocks : meth.locks = false) {k n : Nat} (h1 : cells ≤ k) (h2 : slots ≤ n) (hd : decode cc pc = .ok (.return_, 1)) (h : zSw dC dI ci a fs es s.heap H locs) : W p l e R s m args below meth c H locs cells slots (MQ below (zPost dC dI ci a s.heap.size fs es) args s k n (zFa a s.heap.size)) (F0 m pc ls []) := by
  obtain ⟨hx, hb, hts, hown, hin, hE⟩ := X
  refine W.widen h1 h2 ?_
  exact W.vret hx hb hr (fun t ht hW => ⟨rfl, by rw [ht]; exact h.1, by rw [ht]; exact h.2.1, by rw [ht]; exact h.2.2.1, h.2.2.2.1.F ht⟩) h.2.2.2.1.2.2 hd hlocks
/-- the first step: Object's constructor -/
theorem zc_obj (X : zCx dC dI cs ci a p s m args meth c cc) {nL i0 : Nat} (hml : c.maxLocals = nL) (hl : lv_has ls nL [(0, .ref a)]) (hlk : Cond.methodLink (z_cn ci) i0 objectInit ∈ z_W) (him : Cond.instanceMethod objectInit ∈ z_W) (hco : Cond.code objectInit ⟨#[0xb1]⟩ 1 none ∈ z_W) (hf : 1 ≤ R.frames) (hlo : 12 ≤ R.locals) (hd0 : decode cc 0 = .ok (.aload_n 0, 1)) (hd1 : decode cc 1 = .ok (.invokespecial i0, 3))
    (kk : W p l e R s m args below meth c H locs cells slots Q (F0 m 4 ls [])) : W p l e R s m args below meth c H locs cells slots Q (F0 m 0 ls []) := by
  obtain ⟨hx, hb, hts, hown, hin, hE⟩ := X
  refine lv_aload_n hx hb hd0 rfl (lv_at hl 0 rfl) ?_
  refine W.objInit hx hb hown (hts _ hlk) (hts _ him) (hts _ hco) rfl (by rw [hml]; exact hl.1) rfl hd1 hf (by show 2 * 0 + 0 + 12 ≤ R.locals; omega) ?_
  exact kk
end
theorem zc_top {l : Launch} {y : MethodName} {cy : ByteArray} {n ci : Nat} {rm : Room} {f0 : List Value} {fs : Nat → List Value} {es : (Nat → ClassId) → Nat → List va_E} (hy : plainName y.cls = true) (hyn : y.name = "<init>") (hyc : y.cls = z_cn ci) (hn : 1 ≤ n)
    (body : ∀ dC dI cs a p e s m args below meth c ls, zCx dC dI cs ci a p s m args meth c cy → meth.sig.returnType = none → c.maxLocals = n → meth.locks = false → lv_has ls n [(0, .ref a)] → zSw dC dI ci a f0 [] s.heap s.heap [] → W p l e rm s m args below meth c s.heap [] 0 0 (MQ below (zPost dC dI ci a s.heap.size (fs s.heap.size) (es cs s.heap.size)) args s rm.cells rm.slots (zFa a s.heap.size)) (F0 m 0 ls [])) :
    zCon l y (Cond.code y cy n none :: z_W) rm ci f0 fs es := by
  intro dC dI cs a sz
  refine Met.ofW (cc := cy) (maxL := n) (ret := none) hy rfl ?_
  intro p e s m args below meth c s₁ B hml hv
  obtain ⟨rfl, hsz, hE, hat⟩ := hv
  subst hsz
  have hts0 := atoms_spec (ws := Cond.code y cy n none :: z_W) B.pre
  have hts : ∀ w ∈ z_W, w.before ([.ref a] : List Value).toArray s = true := fun w hw => hts0 w (List.mem_cons_of_mem _ hw)
  have hown : s.vm.findClass (z_cn ci) = some m.cls := by rw [← hyc]; exact findClass_of_methodNamed B.named
  have hin : meth.name = "<init>" := by rw [← hyn]; exact (name_of_methodNamed B.named B.method).1
  have hl := lv_entry ([.ref a]) (n := n) (by show 1 ≤ n; exact hn)
  rw [lg_entry_eq]
  generalize (lg_sl ([.ref a]) ++ List.replicate (n - (lg_sl ([.ref a])).length) Slot.unset).toArray = ls at hl ⊢
  exact body dC dI cs a p e s m _ below meth c ls ⟨B.exec, B.bytes, hts, hown, hin, hE⟩ B.returns hml B.notSynchronized hl (zSw.rf hat)
theorem z_arr_ext {c : ClassId} {n : Nat} {f g : Nat → Int32} (h : ∀ j, j < n → f j = g j) : vp_cell c (n, .inl f) = vp_cell c (n, .inl g) := by
  show arrV c n (fun j => .int (f j)) = arrV c n (fun j => .int (g j))
  unfold arrV
  congr 1
  congr 1
  funext j
  show Value.int (f j.val) = Value.int (g j.val)
  rw [h j.val j.isLt]
theorem z_arq_ext {c : ClassId} {n : Nat} {f g : Nat → Option Nat} (h : ∀ j, j < n → f j = g j) : vp_cell c (n, .inr (.inr (.inr (.inr f)))) = vp_cell c (n, .inr (.inr (.inr (.inr g)))) := by
  rw [vp_cell_q, vp_cell_q]
  unfold arrV
  congr 1
  congr 1
  funext j
  show va_rf (f j.val) = va_rf (g j.val)
  rw [h j.val j.isLt]
/-- fields as they are born; rows of zeros -/
abbrev zrI (cs : Nat → ClassId) (n : Nat) (u : Int32) : va_E := .inl (cs 0, n, .inl (fun _ => u))
abbrev zrL (cs : Nat → ClassId) (n : Nat) : va_E := .inl (cs 1, n, .inr (.inl (fun _ => 0)))
abbrev zrC (cs : Nat → ClassId) (n : Nat) : va_E := .inl (cs 3, n, .inl (fun _ => 0))
theorem zw_int : Cond.arrayClass (newarray.typeOf .int) ∈ z_W := z_at1 91 rfl rfl
theorem zw_oi : Cond.instanceMethod objectInit ∈ z_W := z_at1 35 rfl rfl
