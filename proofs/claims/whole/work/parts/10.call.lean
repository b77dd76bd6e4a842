def z_ow (I : zI) : Nat := I.2.2.2.2.2.2.2.2.1
/-- what a method's words must be -/
def z_mok (I : zI) : Prop :=
  I.1.cls = z_cn (z_ow I) ∧ z_cw I ∈ z_W ∧ Cond.initialized I.1.cls ∈ z_W ∧ (match I.2.2.2.2.2.2.1 with
    | 0 => Cond.static I.1 ∈ z_W
    | n + 1 => Cond.instanceMethod I.1 ∈ z_W ∧ Cond.selects I.1.cls I.1 I.1 ∈ z_W ∧ (z_C (n + 1)).1 = I.1.cls ∧ 2 ≤ n + 1 ∧ n + 1 ≤ 13 ∧ I.2.2.2.2.1 = []) ∧
  I.1.cls ≠ "java/lang/invoke/MethodHandle" ∧ I.1.cls ≠ "java/lang/invoke/VarHandle" ∧ (parseMethodDescriptor I.1.desc).map (fun d => d.parameters.length) = some I.2.2.2.2.2.2.2.1 ∧ plainFor I.1 = true ∧ I.2.2.1 ≤ 45
def z_MLp (MT : Nat → zI) (e : Nat × Nat × Nat) : Prop := Cond.methodLink (z_cn e.1) e.2.1 (MT e.2.2).1 ∈ z_W
/-- what a call's row must be -/
def z_lkc (ow : Nat) (cc : ByteArray) (MT : Nat → zI) : Nat × Nat × zR → Bool
  | (pc, len, .inr (18, a, b, w, v, _)) => Nat.beq len 3 && (decide (z_ML[w]? = some (ow, v, a)) && (match (MT a).2.2.2.2.2.2.1 with
    | 0 => decide (decode cc pc = .ok (.invokestatic v, 3)) && Nat.beq b (MT a).2.2.2.2.2.2.2.1
    | _ + 1 => decide (decode cc pc = .ok (.invokevirtual v, 3)) && Nat.beq b ((MT a).2.2.2.2.2.2.2.1 + 1)))
  | _ => true
def z_okC (ow : Nat) (cc : ByteArray) (MT : Nat → zI) (ct : zT) : Bool := ct.all fun ch => ch.2.all (z_lkc ow cc MT)
theorem z_lk_okC {ow : Nat} {cc : ByteArray} {MT : Nat → zI} {ct : zT} (hct : z_okC ow cc MT ct = true) {pc len : Nat} {r : zR} (h : z_lk ct pc = some (len, r)) : z_lkc ow cc MT (pc, len, r) = true := by
  unfold z_okC at hct
  induction ct with
  | nil => cases h
  | cons x t ih =>
    obtain ⟨b, ch⟩ := x
    rw [List.all_cons, Bool.and_eq_true] at hct
    simp only [z_lk] at h
    cases hb : Nat.ble pc b with
    | true =>
      rw [hb] at h
      exact List.all_eq_true.mp hct.1 _ (z_lk1_mem h)
    | false =>
      rw [hb] at h
      exact ih hct.2 h
theorem z_ws_good {I : zI} (h : z_cw I ∈ z_W) : GoodIn z_W (z_ws I) := by
  intro w hw
  rcases List.mem_cons.mp hw with e | hw
  · subst e
    exact ⟨h, good_of_word (z_W_good _ h)⟩
  · exact ⟨hw, good_of_word (z_W_good _ hw)⟩
theorem z_cs_cat (ad : Nat → Nat → Nat) (st : List zA) : ((st.map (z_cv ad)).map fun v => v.category).sum = z_cs st := by
  induction st with
  | nil => rfl
  | cons v t ih =>
    simp only [List.map_cons, List.sum_cons, z_cs]
    rw [ih]
    cases hc : z_c2 v with
    | true =>
      have : (z_cv ad v).category = 2 := by
        rcases v with v | q
        · cases v <;> first | rfl | cases hc
        · cases hc
      rw [this, cond_true]
      omega
    | false =>
      rw [z_cat ad v hc, cond_false]
      omega
theorem z_wl_A {ad : Nat → Nat → Nat} {N : Nat → Nat} {Rf : Nat → Nat → Nat → zA} {cA : Nat → Nat → ClassId} {m : zM} {n : Nat} {q : Nat × va_E} (h : (z_wl ad N Rf cA m)[n]? = some q) : ∃ k i, i < N k ∧ q.1 = ad k i := by
  unfold z_wl at h
  rw [List.getElem?_map] at h
  cases hi : (z_ids N)[n]? with
  | none => rw [hi] at h; cases h
  | some x =>
    obtain ⟨k, i⟩ := x
    rw [hi] at h
    cases h
    exact ⟨k, i, z_ids_lt hi, rfl⟩
section
variable {p : Program} {l : Launch} {e : Env} {R : Room} {s : State} {mi : MethodId} {args : Array Value} {below : List Frame} {meth : Method} {c : Code} {Q : State → Prop} {K nL : Nat}
variable {A : Nat → Prop} {ad : Nat → Nat → Nat} {N : Nat → Nat} {Rf : Nat → Nat → Nat → zA} {dC : Nat → ClassId} {dI : Nat → Nat → Nat} {cA : Nat → Nat → ClassId}
variable {cc : ByteArray} {pc nx : Nat} {ls : zL} {m : zM} {st : List zA} {k : Nat} {r : zS} {P : Prop} {ow : Nat} {ct : zT} {MT : Nat → zI}
theorem z_pre {H : Heap} {locs : List Loc} {as : List zA} (hA : ∀ k i, i < N k → A (ad k i)) (h0 : z_W0 A N Rf dC dI cA s) (hWX : z_WX A s s.heap) (hI : z_I A ad N Rf dC dI cA s.heap m H locs) : ∀ U : State, U.heap = H → s.WarmedH U.vm → z_Pc ad N Rf dC dI cA H.size as m (as.map (z_cv ad)).toArray U := by
  intro U hU hW
  have hsub : ∀ q, z_A ad N H.size q → A q := by
    rintro q (⟨k, i, h1, rfl⟩ | h1)
    · exact hA k i h1
    · exact h0.2.2.2.2 q (Nat.le_trans hI.2.2.1 h1)
  refine ⟨rfl, by rw [hU], z_W0_moved hW.alike (fun q h => Or.inr (by rw [← hU]; exact h)) h0, z_WX_warm hW hWX (fun a h1 h2 => by rw [hU]; exact hI.2.2.2.1 a h1 h2) hsub, by rw [hU]; exact hI.1, hI.2.1.weaken (fun n q hn _ => ?_)⟩
  obtain ⟨k, i, h1, h2⟩ := z_wl_A hn
  exact Or.inl ⟨k, i, h1, h2⟩
theorem z_vrun {d k1 y b v w len : Nat} {ci : Int32} {cl : Int64} {o : zO} {H : Heap} {locs : List Loc} {lsC : Array Slot} {cells slots : Nat}
    (hx : p.tables.exec = Jvm.exec) (hb : c.code = cc) (hml : c.maxLocals = nL) (hts : ∀ w ∈ z_W, w.before args s = true) (hown : s.vm.findClass (z_cn ow) = some mi.cls)
    (hA : ∀ k i, i < N k → A (ad k i)) (h0 : z_W0 A N Rf dC dI cA s) (hWX : z_WX A s s.heap) (hmk : z_mok (MT y)) (hML : ∀ e ∈ z_ML, z_MLp MT e) (hl : z_lkc ow cc MT (pc, len, .inr (18, y, b, w, v, ci, cl)) = true)
    (hRf : d + 6 ≤ R.frames) (hRl : 164 + 64 * d ≤ R.locals) (hc : cells + k1 ≤ R.cells ∧ slots + 6 * k1 ≤ R.slots)
    (hbl : b ≤ st.length) (hcs : z_cs (st.drop b) ≤ 8) (hrcv : z_rcv N (MT y).2.2.2.2.2.2.1 (st.take b).reverse) (hM : z_Con l MT N Rf d k1 y (st.take b).reverse m o)
    (hI : z_I A ad N Rf dC dI cA s.heap m H locs) (hL : z_LR ad ls lsC nL) :
    vx_Run p l e R s mi args below meth c H locs cells slots k1 (6 * k1) (F0 mi pc lsC (st.map (z_cv ad))) ((st.drop b).map (z_cv ad)) (z_Qc ad N Rf dC dI cA H.size o (((st.take b).reverse).map (z_cv ad)).toArray) (z_XC ad N Rf dC dI cA H.size o) (z_A ad N H.size) := by
  simp only [z_lkc, Bool.and_eq_true, decide_eq_true_eq] at hl
  obtain ⟨hlen, hlk, hl⟩ := hl
  have hlink : (Cond.methodLink (z_cn ow) v (MT y).1).before args s = true := hts _ (hML _ (List.mem_of_getElem? hlk))
  obtain ⟨g0, hcw, g2, g3, g4, g5, g6, g7, g8⟩ := hmk
  have hini := hts _ g2
  have hG : GoodIn z_W (z_ws (MT y)) := z_ws_good hcw
  have hM1 := hM ad dC dI cA H.size
  have hRoom : (z_rm d k1).frames + 1 ≤ R.frames ∧ 8 + ((MT y).2.2.1 + 11) + (z_rm d k1).locals ≤ R.locals := by
    have := g8
    refine ⟨by show d + 5 + 1 ≤ _; omega, ?_⟩
    show 8 + ((MT y).2.2.1 + 11) + (100 + 64 * d) ≤ _
    omega
  have hsplit : st.map (z_cv ad) = (st.take b).map (z_cv ad) ++ (st.drop b).map (z_cv ad) := by rw [← List.map_append, List.take_append_drop]
  have hsum : 2 * (F0 mi pc lsC (st.map (z_cv ad))).monitorRoom + (((st.drop b).map (z_cv ad)).map fun v => v.category).sum ≤ 8 := by
    show 2 * 0 + _ ≤ 8
    rw [z_cs_cat]
    omega
  have hpre := z_pre (as := (st.take b).reverse) hA h0 hWX hI
  have htl : (st.take b).length = b := by rw [List.length_take]; omega
  cases hkd : (MT y).2.2.2.2.2.2.1 with
  | zero =>
    rw [hkd] at hl g3
    simp only [Bool.and_eq_true, decide_eq_true_eq] at hl
    obtain ⟨hd, hn⟩ := hl
    have hn := z_beq hn
    have hst := hts _ g3
    have hrev : st.map (z_cv ad) = (((st.take b).reverse).map (z_cv ad)).reverse ++ (st.drop b).map (z_cv ad) := by rw [← List.map_reverse, List.reverse_reverse]; exact hsplit
    cases hh : (MT y).2.2.2.2.1 with
    | nil =>
      have hw : z_ws (MT y) = .code (MT y).1 (MT y).2.1 (MT y).2.2.1 (MT y).2.2.2.1 :: z_W := by unfold z_ws z_cw; rw [hh]
      exact vx_runS (n := b) ⟨hx, hb, hml, hown, hts⟩ hM1 ⟨callB_of b hts hG hw rfl rfl hini hlink ⟨g4, g5, by rw [g6, hn]⟩ hRoom, hst⟩ ⟨z_Pc_blind, hpre⟩ rfl (by rw [List.length_map, List.length_reverse, htl]) hL.2.1 hrev hsum hd hc
    | cons q0 q1 =>
      have hw : z_ws (MT y) = .codeWith (MT y).1 (MT y).2.1 (MT y).2.2.1 (MT y).2.2.2.1 (z_raw (q0 :: q1)) :: z_W := by unfold z_ws z_cw; rw [hh]
      have hmem : Cond.codeWith (MT y).1 (MT y).2.1 (MT y).2.2.1 (MT y).2.2.2.1 (z_raw (q0 :: q1)) ∈ z_ws (MT y) := by rw [hw]; exact List.mem_cons_self
      exact vx_runSX (n := b) ⟨hx, hb, hml, hown, hts⟩ hM1 ⟨⟨rfl, rfl, hRoom.1, hRoom.2, pay_in hts hG, hmem⟩, hts _ (hG _ hmem).1, hini, ⟨g4, g5⟩, fun sig h => by rw [h] at g6; rw [hn]; exact (Option.some.inj g6).symm, hlink, hst⟩ ⟨z_Pc_blind, hpre⟩ rfl (by rw [List.length_map, List.length_reverse, htl]) hL.2.1 hrev hsum hd hc
  | succ kd =>
    rw [hkd] at hl g3 hrcv
    simp only [Bool.and_eq_true, decide_eq_true_eq] at hl
    obtain ⟨hd, hn⟩ := hl
    have hn := z_beq hn
    obtain ⟨w1, w2, w3, hk2, hk13, hh⟩ := g3
    have hw : z_ws (MT y) = .code (MT y).1 (MT y).2.1 (MT y).2.2.1 (MT y).2.2.2.1 :: z_W := by unfold z_ws z_cw; rw [hh]
    generalize has : (st.take b).reverse = as at *
    cases as with
    | nil => exact absurd hrcv (fun q => q)
    | cons v0 t0 =>
      rcases v0 with v0 | ⟨k0, i0⟩
      · exact absurd hrcv (fun q => q)
      · obtain ⟨e1, e2⟩ := hrcv
        have e1 := z_beq e1
        subst e1
        obtain ⟨q0, hq0⟩ := z_ids_at h0.2.2.2.1 e2
        have hwl := z_wl_at (ad := ad) (Rf := Rf) (cA := cA) (m := m) hq0
        rw [z_cE_obj (by omega)] at hwl
        obtain ⟨hc1, -⟩ := z_cls (k := kd + 1) ⟨hk2, by omega⟩
        have hrec := va_recv h0.1 hI.1 hc1 hwl
        rw [w3] at hrec
        have hlen0 : t0.length + 1 = b := by
          have := congrArg List.length has
          simp at this
          omega
        have hrev : st.map (z_cv ad) = (t0.map (z_cv ad)).reverse ++ .ref (ad (kd + 1) i0) :: (st.drop b).map (z_cv ad) := by
          rw [hsplit]
          have h9 : st.take b = t0.reverse ++ [.inr (kd + 1, i0)] := by
            rw [← List.reverse_reverse (st.take b), has]
            simp
          rw [h9]
          simp [z_cv]
        refine vx_runV (n := (MT y).2.2.2.2.2.2.2.1) (As := t0.map (z_cv ad)) (b := ad (kd + 1) i0) (C := (MT y).1.cls) ⟨hx, hb, hml, hown, hts⟩ hM1 ⟨callB_of _ hts hG hw rfl rfl hini hlink ⟨g4, g5, g6⟩ hRoom, hts _ w1, hts _ w2⟩ ⟨z_Pc_blind, hrec, hpre⟩ rfl (by rw [List.length_map]; omega) hL.2.1 hrev hsum hd hc
end
