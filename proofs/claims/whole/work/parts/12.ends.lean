def z_ik : Nat → Nat
  | 0 => 109
  | 1 => 343
  | 2 => 152
  | 3 => 266
  | _ => 288
def z_ic : Nat → Nat
  | 0 => 113
  | 1 => 347
  | 2 => 156
  | 3 => 270
  | _ => 292
abbrev z_nm : List String := ["java/lang/RuntimeException", "java/lang/Exception"]
theorem z_five {P : Nat → Prop} (h0 : P 0) (h1 : P 1) (h2 : P 2) (h4 : P 4) {e : Nat} (he : e < 5) (h3 : e ≠ 3) : P e := by
  have : e = 0 ∨ e = 1 ∨ e = 2 ∨ e = 4 := by omega
  rcases this with rfl | rfl | rfl | rfl <;> assumption
set_option maxRecDepth 100000 in
theorem z_te0 : (∀ w ∈ (vx_atS RX11 (z_ic 0) (z_ex 0) z_nm).filter goodWord, w ∈ lw_tbl) ∧ (∀ w ∈ (vx_atS RX11 (z_ic 0) (z_ex 0) z_nm).filter (fun w => !goodWord w), w ∈ z_B) ∧ (∀ w ∈ Cond.classLink RX11 (z_ik 0) (z_ex 0) :: Cond.initialized (z_ex 0) :: vx_atS RX11 (z_ic 0) (z_ex 0) z_nm, vx_ot w = true) ∧ Bundle.fit (z_ex 0) = true ∧ (∀ n ∈ z_nm, Bundle.fit n = true) ∧ z_wdb 649 (.classLink RX11 (z_ik 0) (z_ex 0)) = true ∧ z_wdb 110 (.initialized (z_ex 0)) = true := ⟨by decide +kernel, by decide +kernel, by decide +kernel, by decide +kernel, by decide +kernel, by decide +kernel, by decide +kernel⟩
set_option maxRecDepth 100000 in
theorem z_te1 : (∀ w ∈ (vx_atS RX11 (z_ic 1) (z_ex 1) z_nm).filter goodWord, w ∈ lw_tbl) ∧ (∀ w ∈ (vx_atS RX11 (z_ic 1) (z_ex 1) z_nm).filter (fun w => !goodWord w), w ∈ z_B) ∧ (∀ w ∈ Cond.classLink RX11 (z_ik 1) (z_ex 1) :: Cond.initialized (z_ex 1) :: vx_atS RX11 (z_ic 1) (z_ex 1) z_nm, vx_ot w = true) ∧ Bundle.fit (z_ex 1) = true ∧ (∀ n ∈ z_nm, Bundle.fit n = true) ∧ z_wdb 784 (.classLink RX11 (z_ik 1) (z_ex 1)) = true ∧ z_wdb 113 (.initialized (z_ex 1)) = true := ⟨by decide +kernel, by decide +kernel, by decide +kernel, by decide +kernel, by decide +kernel, by decide +kernel, by decide +kernel⟩
set_option maxRecDepth 100000 in
theorem z_te2 : (∀ w ∈ (vx_atS RX11 (z_ic 2) (z_ex 2) z_nm).filter goodWord, w ∈ lw_tbl) ∧ (∀ w ∈ (vx_atS RX11 (z_ic 2) (z_ex 2) z_nm).filter (fun w => !goodWord w), w ∈ z_B) ∧ (∀ w ∈ Cond.classLink RX11 (z_ik 2) (z_ex 2) :: Cond.initialized (z_ex 2) :: vx_atS RX11 (z_ic 2) (z_ex 2) z_nm, vx_ot w = true) ∧ Bundle.fit (z_ex 2) = true ∧ (∀ n ∈ z_nm, Bundle.fit n = true) ∧ z_wdb 850 (.classLink RX11 (z_ik 2) (z_ex 2)) = true ∧ z_wdb 118 (.initialized (z_ex 2)) = true := ⟨by decide +kernel, by decide +kernel, by decide +kernel, by decide +kernel, by decide +kernel, by decide +kernel, by decide +kernel⟩
set_option maxRecDepth 100000 in
theorem z_te4 : (∀ w ∈ (vx_atS RX11 (z_ic 4) (z_ex 4) z_nm).filter goodWord, w ∈ lw_tbl) ∧ (∀ w ∈ (vx_atS RX11 (z_ic 4) (z_ex 4) z_nm).filter (fun w => !goodWord w), w ∈ z_B) ∧ (∀ w ∈ Cond.classLink RX11 (z_ik 4) (z_ex 4) :: Cond.initialized (z_ex 4) :: vx_atS RX11 (z_ic 4) (z_ex 4) z_nm, vx_ot w = true) ∧ Bundle.fit (z_ex 4) = true ∧ (∀ n ∈ z_nm, Bundle.fit n = true) ∧ z_wdb 1136 (.classLink RX11 (z_ik 4) (z_ex 4)) = true ∧ z_wdb 120 (.initialized (z_ex 4)) = true := ⟨by decide +kernel, by decide +kernel, by decide +kernel, by decide +kernel, by decide +kernel, by decide +kernel, by decide +kernel⟩
theorem z_te {e : Nat} (he : e < 5) (h3 : e ≠ 3) : (∀ w ∈ (vx_atS RX11 (z_ic e) (z_ex e) z_nm).filter goodWord, w ∈ lw_tbl) ∧ (∀ w ∈ (vx_atS RX11 (z_ic e) (z_ex e) z_nm).filter (fun w => !goodWord w), w ∈ z_B) ∧ (∀ w ∈ Cond.classLink RX11 (z_ik e) (z_ex e) :: Cond.initialized (z_ex e) :: vx_atS RX11 (z_ic e) (z_ex e) z_nm, vx_ot w = true) ∧ Bundle.fit (z_ex e) = true ∧ (∀ n ∈ z_nm, Bundle.fit n = true) ∧ .classLink RX11 (z_ik e) (z_ex e) ∈ z_W ∧ .initialized (z_ex e) ∈ z_W := by
  refine z_five (P := fun e => (∀ w ∈ (vx_atS RX11 (z_ic e) (z_ex e) z_nm).filter goodWord, w ∈ lw_tbl) ∧ (∀ w ∈ (vx_atS RX11 (z_ic e) (z_ex e) z_nm).filter (fun w => !goodWord w), w ∈ z_B) ∧ (∀ w ∈ Cond.classLink RX11 (z_ik e) (z_ex e) :: Cond.initialized (z_ex e) :: vx_atS RX11 (z_ic e) (z_ex e) z_nm, vx_ot w = true) ∧ Bundle.fit (z_ex e) = true ∧ (∀ n ∈ z_nm, Bundle.fit n = true) ∧ .classLink RX11 (z_ik e) (z_ex e) ∈ z_W ∧ .initialized (z_ex e) ∈ z_W) ?_ ?_ ?_ ?_ he h3
  · exact ⟨z_te0.1, z_te0.2.1, z_te0.2.2.1, z_te0.2.2.2.1, z_te0.2.2.2.2.1, z_wdb_in z_te0.2.2.2.2.2.1, z_wdb_in z_te0.2.2.2.2.2.2⟩
  · exact ⟨z_te1.1, z_te1.2.1, z_te1.2.2.1, z_te1.2.2.2.1, z_te1.2.2.2.2.1, z_wdb_in z_te1.2.2.2.2.2.1, z_wdb_in z_te1.2.2.2.2.2.2⟩
  · exact ⟨z_te2.1, z_te2.2.1, z_te2.2.2.1, z_te2.2.2.2.1, z_te2.2.2.2.2.1, z_wdb_in z_te2.2.2.2.2.2.1, z_wdb_in z_te2.2.2.2.2.2.2⟩
  · exact ⟨z_te4.1, z_te4.2.1, z_te4.2.2.1, z_te4.2.2.2.1, z_te4.2.2.2.2.1, z_wdb_in z_te4.2.2.2.2.2.1, z_wdb_in z_te4.2.2.2.2.2.2⟩
abbrev z_nsW : List Cond := (zn_at RX11 (z_ic 3) (z_ex 3) "java/lang/RuntimeException" 13 prog_33_method_4_code ["java/lang/Exception"]).filter vx_no
set_option maxRecDepth 100000 in
theorem z_te3 : (∀ w ∈ z_nsW.filter goodWord, w ∈ lw_tbl) ∧ (∀ w ∈ z_nsW.filter (fun w => !goodWord w), w ∈ z_B) ∧ (∀ w ∈ Cond.classLink RX11 (z_ik 3) (z_ex 3) :: Cond.initialized (z_ex 3) :: z_nsW, vx_ot w = true) ∧ z_wdb 1065 (.classLink RX11 (z_ik 3) (z_ex 3)) = true ∧ z_wdb 119 (.initialized (z_ex 3)) = true := ⟨by decide +kernel, by decide +kernel, by decide +kernel, by decide +kernel, by decide +kernel⟩
/-- what a throw's row must be -/
def z_lkt (ow : Nat) (cc : ByteArray) : Nat × Nat × zR → Bool
  | (pc, _, .inr (19, e, b, w, v, _)) => Nat.beq ow 12 && (Nat.ble e 4 && ((match z_strs[w]? with
    | some (o, v', _) => decide (o = RX11) && Nat.beq v v'
    | none => false) && (decide (decode cc pc = .ok (.new (z_ik e), 3)) && (decide (decode cc (pc + 3) = .ok (.dup, 1)) && (match b with
    | 0 => !(Nat.beq e 3) && (decide (decode cc (pc + 4) = .ok (.ldc v, 2))) && (decide (decode cc (pc + 6) = .ok (.invokespecial (z_ic e), 3)) && decide (decode cc (pc + 9) = .ok (.athrow, 1)))
    | _ => decide (decode cc (pc + 4) = .ok (.ldc_w v, 3)) && (decide (decode cc (pc + 7) = .ok (.invokespecial (z_ic e), 3)) && decide (decode cc (pc + 10) = .ok (.athrow, 1))))))))
  | _ => true
/-- the returns fit the method's type -/
def z_lkr (ret : Option FieldType) : Nat × Nat × zR → Bool
  | (_, _, .inl .ireturn) => decide (ret = some .int) || (decide (ret = some .boolean) || decide (ret = some .char))
  | (_, _, .inl .lreturn) => decide (ret = some .long)
  | (_, _, .inl .dreturn) => decide (ret = some .double)
  | (_, _, .inl .areturn) => decide (ret = some (.object RX4))
  | (_, _, .inl .return_) => decide (ret = none)
  | _ => true
def z_okX (ow : Nat) (cc : ByteArray) (ret : Option FieldType) (ct : zT) : Bool := ct.all fun ch => ch.2.all (fun x => z_lkt ow cc x && z_lkr ret x)
theorem z_lk_okX {ow : Nat} {cc : ByteArray} {ret : Option FieldType} {ct : zT} (hct : z_okX ow cc ret ct = true) {pc len : Nat} {r : zR} (h : z_lk ct pc = some (len, r)) : z_lkt ow cc (pc, len, r) = true ∧ z_lkr ret (pc, len, r) = true := by
  unfold z_okX at hct
  induction ct with
  | nil => cases h
  | cons x t ih =>
    obtain ⟨b, ch⟩ := x
    rw [List.all_cons, Bool.and_eq_true] at hct
    simp only [z_lk] at h
    cases hb : Nat.ble pc b with
    | true =>
      rw [hb] at h
      have := List.all_eq_true.mp hct.1 _ (z_lk1_mem h)
      rw [Bool.and_eq_true] at this
      exact this
    | false =>
      rw [hb] at h
      exact ih hct.2 h
section
variable {p : Program} {l : Launch} {e : Env} {R : Room} {s : State} {mi : MethodId} {args : Array Value} {below : List Frame} {meth : Method} {c : Code} {Q : State → Prop} {K nL : Nat}
variable {ad : Nat → Nat → Nat} {N : Nat → Nat} {Rf : Nat → Nat → Nat → zA} {dC : Nat → ClassId} {dI : Nat → Nat → Nat} {cA : Nat → Nat → ClassId} {sz : Nat}
variable {cc : ByteArray} {pc nx : Nat} {ls : zL} {m : zM} {st : List zA} {k : Nat} {r : zS} {P : Prop} {ow : Nat} {ct : zT} {MT : Nat → zI} {ret : Option FieldType} {o : zO}
theorem z_sret {v : Option zA} (hx : p.tables.exec = Jvm.exec) (hb : c.code = cc) (hr : meth.sig.returnType = ret) (hlocks : meth.locks = false) (hct : z_okT ow cc ct = true) (hcx : z_okX ow cc ret ct = true)
    (h : z_ret ct (z_bo ret) pc st = some (v, P)) (hP : P) (ho : o = (.inl v, m)) :
    z_G p l e R s mi args below meth c (vx_MQ below (z_Qc ad N Rf dC dI cA sz o) (z_XC ad N Rf dC dI cA sz o) args s K (6 * K) (z_A ad N sz)) K nL (z_A ad N sz) ad N Rf dC dI cA k pc ls st m := by
  intro H locs lsC cells slots hk1 hk2 hI hL
  refine W.widen (k := K) (n := 6 * K) (by omega) (by omega) ?_
  refine vx_ret ?_
  have hq : ∀ v', v' = v.map (z_cv ad) → ∀ t : State, t.heap = H → s.WarmedH t.vm → z_Qc ad N Rf dC dI cA sz o args s (.returned v') t := by
    intro v' hv t ht _
    subst hv
    exact ⟨v, m, ho, rfl, by rw [ht]; exact hI.1, hI.2.1, hI.2.2.F ht⟩
  have hf : ∀ q ∈ locs, z_A ad N sz q.base := hI.2.2.2.2
  unfold z_ret at h
  split at h
  · rename_i len hl
    have hl1 := z_lk_ok hct hl
    have hl2 := (z_lk_okX hcx hl).2
    simp only [z_lkb, Bool.and_eq_true, decide_eq_true_eq] at hl1
    simp only [z_lkr, Bool.or_eq_true, decide_eq_true_eq] at hl2
    split at h
    · rename_i x
      cases h
      rcases hl2 with e1 | e1 | e1 <;> subst e1
      · exact W.zret hx hb hr rfl (hq _ rfl) hf hl1.2 hlocks
      · exact W.zret hx hb hr (z_nbool hP).1 (hq _ rfl) hf hl1.2 hlocks
      · exact W.zret hx hb hr hP (hq _ rfl) hf hl1.2 hlocks
    · cases h
  · rename_i len hl
    have hl1 := z_lk_ok hct hl
    have hl2 := (z_lk_okX hcx hl).2
    simp only [z_lkb, Bool.and_eq_true, decide_eq_true_eq] at hl1
    simp only [z_lkr, decide_eq_true_eq] at hl2
    subst hl2
    split at h
    · cases h
      exact W.lret hx hb hr (hq _ rfl) hf hl1.2 hlocks
    · cases h
  · rename_i len hl
    have hl1 := z_lk_ok hct hl
    have hl2 := (z_lk_okX hcx hl).2
    simp only [z_lkb, Bool.and_eq_true, decide_eq_true_eq] at hl1
    simp only [z_lkr, decide_eq_true_eq] at hl2
    subst hl2
    split at h
    · cases h
      exact W.dret hx hb hr (hq _ rfl) hf hl1.2 hlocks
    · cases h
  · rename_i len hl
    have hl1 := z_lk_ok hct hl
    have hl2 := (z_lk_okX hcx hl).2
    simp only [z_lkb, Bool.and_eq_true, decide_eq_true_eq] at hl1
    simp only [z_lkr, decide_eq_true_eq] at hl2
    subst hl2
    split at h
    · cases h
      exact W.aret hx hb hr (Or.inl ⟨_, rfl⟩) (Or.inl rfl) (hq _ rfl) hf hl1.2 hlocks
    · cases h
      exact W.aret hx hb hr (Or.inl ⟨_, rfl⟩) (Or.inr ⟨_, rfl⟩) (hq _ rfl) hf hl1.2 hlocks
    · cases h
  · rename_i len hl
    have hl1 := z_lk_ok hct hl
    have hl2 := (z_lk_okX hcx hl).2
    simp only [z_lkb, Bool.and_eq_true, decide_eq_true_eq] at hl1
    simp only [z_lkr, decide_eq_true_eq] at hl2
    subst hl2
    split at h
    · cases h
      exact W.vret hx hb hr (hq _ rfl) hf hl1.2 hlocks
    · cases h
  · cases h
theorem z_sthr {e' : Nat} (hx : p.tables.exec = Jvm.exec) (hb : c.code = cc) (hml : c.maxLocals = nL) (htr : l.stackTraces = false) (hlocks : meth.locks = false) (htab : ∀ x ∈ c.exceptionTable.toList, False)
    (hts : ∀ w ∈ z_W, w.before args s = true) (hown : s.vm.findClass (z_cn ow) = some mi.cls) (hWX : z_WX (z_A ad N sz) s s.heap) (hcx : z_okX ow cc ret ct = true)
    (hRf : 5 < R.frames) (hRl : 82 ≤ R.locals) (hRc : K ≤ R.cells ∧ 6 * K ≤ R.slots)
    (h : z_thr ct pc st = some e') (ho : o = (.inr e', m)) :
    z_G p l e R s mi args below meth c (vx_MQ below (z_Qc ad N Rf dC dI cA sz o) (z_XC ad N Rf dC dI cA sz o) args s K (6 * K) (z_A ad N sz)) K nL (z_A ad N sz) ad N Rf dC dI cA (k + 1) pc ls st m := by
  intro H locs lsC cells slots hk1 hk2 hI hL
  unfold z_thr at h
  split at h
  · rename_i len a rest hlk
    obtain ⟨b, w, v, ci, cl⟩ := rest
    split at h
    · cases h
      have hl := (z_lk_okX hcx hlk).1
      simp only [z_lkt, Bool.and_eq_true, decide_eq_true_eq] at hl
      obtain ⟨ho1, he, hs, hd0, hd3, hd⟩ := hl
      have ho1 := z_beq ho1
      subst ho1
      have hown : s.vm.findClass RX11 = some mi.cls := hown
      have he := Nat.le_of_ble_eq_true he
      cases hz : z_strs[w]? with
      | none => rw [hz] at hs; cases hs
      | some q =>
        obtain ⟨o1, v1, text⟩ := q
        rw [hz] at hs
        simp only [Bool.and_eq_true, decide_eq_true_eq] at hs
        obtain ⟨hs1, hs2⟩ := hs
        have hs2 := z_beq hs2
        subst hs1; subst hs2
        obtain ⟨sa, hsa⟩ := hWX.2.2.1 _ (List.mem_of_getElem? hz)
        have hX : ∀ t : State, s.vm.Alike t.vm → H.size ≤ t.heap.size → (∀ q : Nat, q < H.size → t.heap[q]? = H[q]?) → z_XC ad N Rf dC dI cA sz o (z_ex e') s t := by
          intro t _ h1 h2
          exact ⟨e', m, ho, by omega, rfl, hI.1.kept (fun n q hn => h2 q.1 (hI.1 n q hn).lt), hI.2.1, ⟨Nat.le_trans hI.2.2.1 h1, fun q h3 h4 => (h2 q (Nat.lt_of_lt_of_le h3 hI.2.2.1)).trans (hI.2.2.2.1 q h3 h4)⟩⟩
        by_cases h3 : e' = 3
        · subst h3
          split at hd
          · simp only [Bool.and_eq_true] at hd
            exact absurd hd.1.1 (by decide)
          · simp only [Bool.and_eq_true, decide_eq_true_eq] at hd
            obtain ⟨d4, d6, d9⟩ := hd
            obtain ⟨t1, t2, t3, t6, t7⟩ := z_te3
            have hat : ∀ w ∈ z_nsW, w.before args s = true := vx_hat (fun w hw => hts w (List.mem_filter.mpr ⟨t1 w hw, (List.mem_filter.mp hw).2⟩)) t2 (fun w hw => va_Nw.use (z_Bok_t (z_B_ok w hw)) (hWX.2.2.2.1 w hw))
            refine zn_make hx hb htr hown (by decide +kernel) (by decide +kernel) (by decide +kernel) (by decide +kernel) (by decide +kernel) (by decide +kernel) (by decide +kernel) (hts _ (z_wdb_in t6)) (hts _ (z_wdb_in t7)) hsa hat t3 hWX.1 hWX.2.1 hI.2.2 (hL.2.1.trans hml.symm) hd0 hd3 d4 d6 (show (["java/lang/Exception"] : List String).length + 1 + 3 < _ from hRf) (by show 0 + (13 * (1 + 1 + 1) + 43) ≤ _; omega) (by omega) (by omega) (fun q ce H1 g1 g2 g3 g4 g5 g6 => ?_)
            refine vx_athrow hx hb d9 ?_
            refine vx_out (E := z_ex 3) (fun x h => absurd (htab x h) (fun q => q)) hlocks g1 g2 g3 (fun t ht hvm => ?_) g6.2.2 (by omega) (by omega)
            subst ht
            exact hX t hvm g4 g5
        · obtain ⟨t1, t2, t3, t4, t5, t6, t7⟩ := z_te (e := e') (by omega) h3
          have hat : ∀ w ∈ vx_atS RX11 (z_ic e') (z_ex e') z_nm, w.before args s = true := vx_hat (fun w hw => hts w (List.mem_filter.mpr ⟨t1 w hw, (List.mem_filter.mp hw).2⟩)) t2 (fun w hw => va_Nw.use (z_Bok_t (z_B_ok w hw)) (hWX.2.2.2.1 w hw))
          split at hd
          · simp only [Bool.and_eq_true, decide_eq_true_eq] at hd
            obtain ⟨⟨-, d4⟩, d6, d9⟩ := hd
            exact vx_throwS hx hb htr hown t4 t5 (hts _ t6) (hts _ t7) hsa hat t3 hWX.1 hWX.2.1 hI.2.2 (hL.2.1.trans hml.symm) hd0 hd3 d4 d6 d9 (fun x h => absurd (htab x h) (fun q => q)) (show z_nm.length + 3 < _ from hRf) (by show 0 + (13 * (2 + 1) + 43) ≤ _; omega) (by omega) (by omega) hlocks hX hI.2.2.2.2 (by omega) (by omega)
          · simp only [Bool.and_eq_true, decide_eq_true_eq] at hd
            obtain ⟨d4, d6, d9⟩ := hd
            exact vx_throwSW hx hb htr hown t4 t5 (hts _ t6) (hts _ t7) hsa hat t3 hWX.1 hWX.2.1 hI.2.2 (hL.2.1.trans hml.symm) hd0 hd3 d4 d6 d9 (fun x h => absurd (htab x h) (fun q => q)) (show z_nm.length + 3 < _ from hRf) (by show 0 + (13 * (2 + 1) + 43) ≤ _; omega) (by omega) (by omega) hlocks hX hI.2.2.2.2 (by omega) (by omega)
    · cases h
  · cases h
end
