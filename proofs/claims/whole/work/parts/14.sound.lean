theorem z_LR_drop {ad : Nat → Nat → Nat} {ls : zL} {lsC ls' : Array Slot} {nL a : Nat} {v : Value} {lv' : List (Nat × Value)} (h : z_LR ad ls lsC nL) (hv : (a, v) :: (z_as ad ls).filter (fun q => !(q.1 == a) && !(q.1 + 1 == a && q.2.category == 2)) = lv') (h' : lv_has ls' nL lv') : z_LR ad (z_set (z_cl ls a) a none) ls' nL := by
  subst hv
  refine ⟨by rw [z_set_len, z_cl_len]; exact h.1, h'.1, h'.2.1, fun i w hw => ?_⟩
  rw [z_get_set] at hw
  split at hw
  · cases hw
  · rename_i hi
    obtain ⟨h1, h2⟩ := z_get_cl hw
    have hia : i ≠ a := fun e => hi ⟨e, by rw [z_cl_len, ← e]; exact z_get_lt h1⟩
    refine h'.2.2 (i, z_cv ad w) (List.mem_cons_of_mem _ (List.mem_filter.mpr ⟨z_as_in h1, ?_⟩))
    by_cases e : i + 1 = a
    · simp [hia, z_cat ad w (h2 e)]
    · simp [hia, e]
section
variable {p : Program} {l : Launch} {e : Env} {R : Room} {s : State} {mi : MethodId} {args : Array Value} {below : List Frame} {meth : Method} {c : Code} {Q : State → Prop} {K nL : Nat}
variable {ad : Nat → Nat → Nat} {N : Nat → Nat} {Rf : Nat → Nat → Nat → zA} {dC : Nat → ClassId} {dI : Nat → Nat → Nat} {cA : Nat → Nat → ClassId} {sz : Nat}
variable {cc : ByteArray} {pc nx : Nat} {ls : zL} {m : zM} {st : List zA} {k : Nat} {ow : Nat} {ct : zT} {MT : Nat → zI} {ret : Option FieldType} {o : zO}
/-- an exception comes out of a call: it goes on, or a handler keeps it and answers -/
theorem z_sexc {hh : List (Nat × Nat × Nat × Nat × Nat × Int32)} {e' : Nat} {m' : zM} {k2 : Nat}
    (hx : p.tables.exec = Jvm.exec) (hb : c.code = cc) (hml : c.maxLocals = nL) (hr : meth.sig.returnType = ret) (hlocks : meth.locks = false) (htab : c.exceptionTable.toList = tableOf (z_raw hh))
    (hts : ∀ w ∈ z_W, w.before args s = true) (hown : s.vm.findClass (z_cn ow) = some mi.cls) (h0 : z_W0 (z_A ad N sz) N Rf dC dI cA s) (hWX : z_WX (z_A ad N sz) s s.heap) (hct : z_okT ow cc ct = true) (hcx : z_okX ow cc ret ct = true) (hH : z_okH ow ct nL ret hh = true) (he5 : e' < 5)
    (ho : match z_hf hh pc e' with
      | none => o = (.inr e', m')
      | some x => o = (.inl (some (.inl (.int x))), m')) :
    ∀ (H : Heap) (locs : List Loc) (lsC : Array Slot) (cells slots : Nat) (q : Addr) (ce : Cell), cells + k2 ≤ K → slots + 6 * k2 ≤ 6 * K → z_I (z_A ad N sz) ad N Rf dC dI cA s.heap m' H locs → z_LR ad ls lsC nL → H[q]? = some ce → ce.vm = .none → s.vm.findClass (z_ex e') = some ce.cls →
      vx_W p l e R s mi args below meth c H locs cells slots (vx_MQ below (z_Qc ad N Rf dC dI cA sz o) (z_XC ad N Rf dC dI cA sz o) args s K (6 * K) (z_A ad N sz)) (F0 mi pc lsC (st.map (z_cv ad))) q := by
  intro H locs lsC cells slots q ce hk1 hk2 hI hL hc hv hcl
  have hlinks : ∀ z ∈ hh, z.2.2.2.1 ≠ 0 ∧ z.2.2.2.2.1 < 5 ∧ (Cond.classLink (z_cn ow) z.2.2.2.1 (z_ex z.2.2.2.2.1)).before args s = true := by
    intro z hz
    have h := List.all_eq_true.mp hH z hz
    simp only [Bool.and_eq_true, decide_eq_true_eq, Bool.not_eq_true'] at h
    refine ⟨fun h9 => ?_, by have := Nat.le_of_ble_eq_true h.1; omega, hts _ (List.mem_filter.mpr ⟨h.2.2.1, rfl⟩)⟩
    rw [h9] at h
    exact absurd h.2.1 (by decide)
  have hnc : ∀ z ∈ hh, z.2.2.2.2.1 ≠ e' → va_Nc (z_ex e') (z_ex z.2.2.2.2.1) s := fun z hz hne => hWX.2.2.2.2 e' _ he5 (hlinks z hz).2.1 (Ne.symm hne)
  cases hf : z_hf hh pc e' with
  | none =>
    rw [hf] at ho
    refine vx_outP hown hlocks ?_ hc hv hcl (fun t ht hvm => ⟨e', m', ho, he5, rfl, by rw [ht]; exact hI.1, hI.2.1, hI.2.2.F ht⟩) hI.2.2.2.2 (by omega) (by omega)
    intro z hz
    rw [htab] at hz
    unfold tableOf z_raw at hz
    rw [List.map_map] at hz
    obtain ⟨w, hw, rfl⟩ := List.mem_map.mp hz
    rcases z_hf_none hf w hw with h1 | h1
    · exact Or.inl h1
    · exact Or.inr ⟨(hlinks w hw).1, _, (hlinks w hw).2.2, hnc w hw h1⟩
  | some x =>
    rw [hf] at ho
    obtain ⟨pre, w, suf, g1, g2, g3, g4, g5, g6⟩ := z_hf_split hf
    have hw : w ∈ hh := by rw [g1]; exact List.mem_append_right _ List.mem_cons_self
    obtain ⟨hl1, hl2, hl3⟩ := hlinks w hw
    rw [g4] at hl3
    have hall := List.all_eq_true.mp hH w hw
    simp only [Bool.and_eq_true, decide_eq_true_eq] at hall
    obtain ⟨-, -, -, hret, hcode⟩ := hall
    subst hret
    have hcast : (Cond.castable (z_ex e') (z_ex e')).before args s = true := by
      have hm : Cond.castable (z_ex e') (z_ex e') ∈ z_B := by
        have : e' = 0 ∨ e' = 1 ∨ e' = 2 ∨ e' = 3 ∨ e' = 4 := by omega
        rcases this with rfl | rfl | rfl | rfl | rfl <;> decide +kernel
      exact va_Nw.use (z_Bok_t (z_B_ok _ hm)) (hWX.2.2.2.1 _ hm)
    refine vx_catch (E := z_ex e') (name := z_ex e') hown ((z_raw pre).map fun q => ⟨q.1, q.2.1, q.2.2.1, q.2.2.2⟩) ⟨w.1, w.2.1, w.2.2.1, w.2.2.2.1⟩ ((z_raw suf).map fun q => ⟨q.1, q.2.1, q.2.2.1, q.2.2.2⟩) (by rw [htab, g1]; unfold tableOf z_raw; rw [List.map_append, List.map_cons, List.map_append, List.map_cons]) ?_ (by unfold covers; rw [decide_eq_true g2, decide_eq_true g3]; rfl) hl1 hl3 hcast hc hv hcl ?_
    · intro z hz
      unfold z_raw at hz
      rw [List.map_map] at hz
      obtain ⟨u, hu, rfl⟩ := List.mem_map.mp hz
      have hu' : u ∈ hh := by rw [g1]; exact List.mem_append_left _ hu
      rcases g6 u hu with h1 | h1
      · exact Or.inl h1
      · exact Or.inr ⟨(hlinks u hu').1, _, (hlinks u hu').2.2, hnc u hu' h1⟩
    · split at hcode
      · rename_i l1 i b rest hk
        rw [Bool.and_eq_true] at hcode
        obtain ⟨hi, hcode⟩ := hcode
        have hi := Nat.le_of_ble_eq_true hi
        split at hcode
        · rename_i l2 z1 z2 z3 z4 x' z5 hk3
          rw [Bool.and_eq_true, decide_eq_true_eq] at hcode
          obtain ⟨hx', hcode⟩ := hcode
          split at hcode
          · rename_i l3 hk5
            have G2 : z_G p l e R s mi args below meth c (vx_MQ below (z_Qc ad N Rf dC dI cA sz o) (z_XC ad N Rf dC dI cA sz o) args s K (6 * K) (z_A ad N sz)) K nL (z_A ad N sz) ad N Rf dC dI cA k2 (w.2.2.1 + l1) (z_set (z_cl ls i) i none) [] m' := by
              refine z_sstep hx hb hts hown h0 hct (r := (w.2.2.1 + l1 + l2, z_set (z_cl ls i) i none, [.inl (.int x)], m')) (P := True) ?_ trivial ?_
              · unfold z_step
                dsimp only
                rw [hk3]
                rw [hx', g5]
                rfl
              · refine z_sret (ret := some .int) (v := some (.inl (.int x))) (P := True) hx hb hr hlocks hct hcx ?_ trivial ho
                unfold z_ret
                rw [hk5]
                rfl
            have hlb := z_lk_ok hct hk
            obtain ⟨z1, z2, z3, z4⟩ := rest
            simp only [z_lkb] at hlb
            split at hlb <;> simp only [Bool.and_eq_true, decide_eq_true_eq] at hlb
            · obtain ⟨hlen, h3, hd⟩ := hlb
              have hlen := z_beq hlen
              subst hlen
              exact lv_astore_n hx hb hd (z_fin4_of h3) (z_as_has hL) (by omega) rfl (fun ls' h' => G2 H locs ls' cells slots hk1 hk2 hI (z_LR_drop hL rfl h'))
            · obtain ⟨hlen, hd⟩ := hlb
              have hlen := z_beq hlen
              subst hlen
              exact lv_astore hx hb hd (z_as_has hL) (by omega) rfl (fun ls' h' => G2 H locs ls' cells slots hk1 hk2 hI (z_LR_drop hL rfl h'))
          · cases hcode
        · cases hcode
      · cases hcode
theorem z_room {ws : List Cond} {rm : Room} : (headSpec ws rm).room = rm := rfl
/-- the body of a method -/
theorem z_body {d y : Nat} {as : List zA} {s₁ : State} {Sp : Spec} (hl : l.stackTraces = false) (hok : ∀ y, z_okM MT y) (hML : ∀ e ∈ z_ML, z_MLp MT e) (ih : ∀ k y as m o, z_Ev MT N Rf d k y as m o → z_Con l MT N Rf d k y as m o) (h : z_Ev MT N Rf (d + 1) k y as m o)
    (hsp : Sp = headSpec (z_ws (MT y)) (z_rm (d + 1) k)) (B : BodyLoose p l (MT y).1 Sp (MT y).2.1 (MT y).2.2.1 (MT y).2.2.2.1 e s mi args below meth c s₁) (hml : c.maxLocals = (MT y).2.2.1) (htab : c.exceptionTable.toList = tableOf (z_raw (MT y).2.2.2.2.1)) (hP : z_Pc ad N Rf dC dI cA sz as m args s) :
    W p l e (z_rm (d + 1) k) s mi args below meth c s.heap [] 0 0 (vx_MQ below (z_Qc ad N Rf dC dI cA sz o) (z_XC ad N Rf dC dI cA sz o) args s k (6 * k) (z_A ad N sz)) (entryFrame mi args (MT y).2.2.1) := by
  subst hsp
  obtain ⟨ha, hsz, h0, hWX, hPw, hDw⟩ := hP
  obtain ⟨hlen, h⟩ := h
  have hts0 := atoms_spec (ws := z_ws (MT y)) B.pre
  have hts : ∀ w ∈ z_W, w.before args s = true := fun w hw => hts0 w (List.mem_cons_of_mem _ hw)
  obtain ⟨q1, q2, q3, q4, q5, q6⟩ := hok y
  have hown : s.vm.findClass (z_cn (z_ow (MT y))) = some mi.cls := by rw [← q1.1]; exact findClass_of_methodNamed B.named
  have hA : ∀ k i, i < N k → z_A ad N sz (ad k i) := fun k i h => Or.inl ⟨k, i, h, rfl⟩
  have G := h (z_G p l e (z_rm (d + 1) k) s mi args below meth c (vx_MQ below (z_Qc ad N Rf dC dI cA sz o) (z_XC ad N Rf dC dI cA sz o) args s k (6 * k) (z_A ad N sz)) k (MT y).2.2.1 (z_A ad N sz) ad N Rf dC dI cA) ?_
  · rw [ha, lg_entry_eq]
    rw [← ha]
    exact G s.heap [] _ 0 0 (by omega) (by omega) ⟨hPw, hDw, va_S.rf⟩ (z_ent_LR hlen)
  · refine ⟨?_, ?_, ?_, ?_, ?_, ?_, ?_, ?_⟩
    · intro k pc ls st m s' P h1 h2 h3
      exact z_sstep B.exec B.bytes hts hown h0 q2 h1 h2 h3
    · intro k pc ls st m c t f st' h1 h2 h3
      exact z_sbr B.exec B.bytes q2 h1 h2 h3
    · intro k pc ls st m t st' h1 h2
      exact z_ssw B.exec B.bytes q2 h1 h2
    · intro k1 k2 pc ls st m y2 as2 nx st' v m' h1 hrc h2 h3
      exact z_scall B.exec B.bytes hml hts hown hA h0 hWX (fun y => (hok y).1) hML q3 (by show d + 6 ≤ d + 1 + 5; omega) (by show 164 + 64 * d ≤ 100 + 64 * (d + 1); omega) ⟨Nat.le_refl _, Nat.le_refl _⟩ h1 hrc (ih _ _ _ _ _ h2) (fun v2 m2 e2 => by cases e2; exact h3) (fun e2 m2 e3 => by cases e3)
    · intro k1 k2 pc ls st m y2 as2 nx st' e2 m' h1 hrc h2 h3
      refine z_scall B.exec B.bytes hml hts hown hA h0 hWX (fun y => (hok y).1) hML q3 (by show d + 6 ≤ d + 1 + 5; omega) (by show 164 + 64 * d ≤ 100 + 64 * (d + 1); omega) ⟨Nat.le_refl _, Nat.le_refl _⟩ h1 hrc (ih _ _ _ _ _ h2) (fun v2 m2 e2 => by cases e2) (fun e3 m3 e4 he5 => ?_)
      cases e4
      exact z_sexc B.exec B.bytes hml B.returns B.notSynchronized htab hts hown h0 hWX q2 q4 q5 he5 h3
    · intro k pc ls st m v P h1 h2 h3
      exact z_sret B.exec B.bytes B.returns B.notSynchronized q2 q4 h1 h2 h3
    · intro k pc ls st m e2 h1 h2
      rcases q6 with q6 | q6
      · exact z_sthr B.exec B.bytes hml hl B.notSynchronized (by rw [htab, q6]; intro x hx; cases hx) hts hown hWX q4 (by show 5 < d + 1 + 5; omega) (by show 82 ≤ 100 + 64 * (d + 1); omega) ⟨Nat.le_refl _, Nat.le_refl _⟩ h1 h2
      · exact absurd h1 (fun h1 => z_nothr q6 h1)
    · intro k pc ls st m b h1
      exact z_smask h1
end
theorem z_ofW {l : Launch} {y : MethodName} {ws ws' : List Cond} {rm : Room} {Pc : Array Value → State → Prop} {Qc : Array Value → State → Outcome → State → Prop} {XC : String → State → State → Prop} {mc ms : Nat} {free : Addr → Prop} {cc : ByteArray} {maxL : Nat} {ret : Option FieldType}
    (hy : plainFor y = true) (hw : ws = Cond.code y cc maxL ret :: ws')
    (body : ∀ p e s m args below meth c s₁, BodyLoose p l y (headSpec ws rm) cc maxL ret e s m args below meth c s₁ → c.maxLocals = maxL → (∀ x ∈ c.exceptionTable.toList, False) → Pc args s →
      W p l e (headSpec ws rm).room s m args below meth c s.heap [] 0 0 (vx_MQ below Qc XC args s mc ms free) (entryFrame m args maxL)) : vx_Met l y ws rm Pc Qc XC mc ms free := by
  refine MetFree.of_bodySF (code := cc) (maxLocals := maxL) (ret := ret) hy ?_ ?_
  · intro args s m h hn
    obtain ⟨meth, c, h1, h2, h3, h4, h5, h6, -, -⟩ := Cond.code_spec hn (atoms_spec (ws := ws) h _ (by rw [hw]; exact List.mem_cons_self))
    exact ⟨meth, c, h1, h2, h3, h4, h5, h6⟩
  · intro p e s m args below meth c s₁ B hml hP _
    have hh0 : s₁.heap = s.heap := by rw [B.state]; rfl
    have ht : ∀ x ∈ c.exceptionTable.toList, False := by
      obtain ⟨meth9, c9, h1, h2, -, -, -, -, h7, -⟩ := Cond.code_spec B.named (atoms_spec (ws := ws) B.pre _ (by rw [hw]; exact List.mem_cons_self))
      cases Option.some.inj (h1.symm.trans B.method)
      cases Option.some.inj (h2.symm.trans (Stand.of_body B).code)
      intro x hx
      rw [Array.isEmpty_iff.mp h7] at hx
      cases hx
    obtain ⟨t, a1, o, b1, b2, b3⟩ := body p e s m args below meth c s₁ B hml ht hP s₁ hh0 (Stand.of_body B)
    exact ⟨t, o, a1, b1, b2, b3⟩
theorem z_ofWH {l : Launch} {y : MethodName} {ws ws' : List Cond} {rm : Room} {Pc : Array Value → State → Prop} {Qc : Array Value → State → Outcome → State → Prop} {XC : String → State → State → Prop} {mc ms : Nat} {free : Addr → Prop} {cc : ByteArray} {maxL : Nat} {ret : Option FieldType} {hh : List (Nat × Nat × Nat × Nat)}
    (hy : plainFor y = true) (hw : ws = Cond.codeWith y cc maxL ret hh :: ws')
    (body : ∀ p e s m args below meth c s₁, BodyLoose p l y (headSpec ws rm) cc maxL ret e s m args below meth c s₁ → c.maxLocals = maxL → Pc args s →
      W p l e (headSpec ws rm).room s m args below meth c s.heap [] 0 0 (vx_MQ below Qc XC args s mc ms free) (entryFrame m args maxL)) : vx_Met l y ws rm Pc Qc XC mc ms free := by
  refine MetFree.of_bodySF (code := cc) (maxLocals := maxL) (ret := ret) hy ?_ ?_
  · intro args s m h hn
    obtain ⟨m9, meth, c, hn9, h1, h2, h3, h4, -, h5, h6, -⟩ := Cond.codeWith_spec (atoms_spec (ws := ws) h _ (by rw [hw]; exact List.mem_cons_self))
    cases hn.symm.trans hn9
    exact ⟨meth, c, h1, h2, h3, h4, h5, h6⟩
  · intro p e s m args below meth c s₁ B hml hP _
    have hh0 : s₁.heap = s.heap := by rw [B.state]; rfl
    obtain ⟨t, a1, o, b1, b2, b3⟩ := body p e s m args below meth c s₁ B hml hP s₁ hh0 (Stand.of_body B)
    exact ⟨t, o, a1, b1, b2, b3⟩
theorem z_sound (l : Launch) (hl : l.stackTraces = false) (MT : Nat → zI) (N : Nat → Nat) (Rf : Nat → Nat → Nat → zA) (hok : ∀ y, z_okM MT y) (hML : ∀ e ∈ z_ML, z_MLp MT e) : ∀ d k y as m o, z_Ev MT N Rf d k y as m o → z_Con l MT N Rf d k y as m o := by
  intro d
  induction d with
  | zero => intro k y as m o h; exact absurd h (fun q => q)
  | succ d ih =>
    intro k y as m o h ad dC dI cA sz
    have hmk := (hok y).1
    obtain ⟨-, -, -, -, -, -, -, hpl, -⟩ := hmk
    cases hh : (MT y).2.2.2.2.1 with
    | nil =>
      have hw : z_ws (MT y) = .code (MT y).1 (MT y).2.1 (MT y).2.2.1 (MT y).2.2.2.1 :: z_W := by unfold z_ws z_cw; rw [hh]
      refine z_ofW hpl hw ?_
      intro p e s m2 args below meth c s₁ B hml htab hP
      refine z_body hl hok hML ih h rfl B hml ?_ hP
      rw [hh]
      cases ht : c.exceptionTable.toList with
      | nil => rfl
      | cons x t => exact absurd (htab x (by rw [ht]; exact List.mem_cons_self)) (fun q => q)
    | cons q0 q1 =>
      have hw : z_ws (MT y) = .codeWith (MT y).1 (MT y).2.1 (MT y).2.2.1 (MT y).2.2.2.1 (z_raw (q0 :: q1)) :: z_W := by unfold z_ws z_cw; rw [hh]
      refine z_ofWH hpl hw ?_
      intro p e s m2 args below meth c s₁ B hml hP
      refine z_body hl hok hML ih h rfl B hml ?_ hP
      rw [hh]
      exact vx_table (x := (MT y).1) B (atoms_spec (ws := z_ws (MT y)) B.pre _ (by rw [hw]; exact List.mem_cons_self))
