def z_okT (ow : Nat) (cc : ByteArray) (ct : zT) : Bool := ct.all fun ch => ch.2.all (z_lkb ow cc)
theorem z_lk1_mem {l : List (Nat × Nat × zR)} {pc len : Nat} {r : zR} (h : z_lk1 l pc = some (len, r)) : (pc, len, r) ∈ l := by
  induction l with
  | nil => cases h
  | cons x t ih =>
    obtain ⟨a, b, r0⟩ := x
    simp only [z_lk1] at h
    cases hb : Nat.beq a pc with
    | true =>
      rw [hb] at h
      cases h
      have := z_beq hb
      subst this
      exact List.mem_cons_self
    | false =>
      rw [hb] at h
      exact List.mem_cons_of_mem _ (ih h)
theorem z_lk_ok {ow : Nat} {cc : ByteArray} {ct : zT} (hct : z_okT ow cc ct = true) {pc len : Nat} {r : zR} (h : z_lk ct pc = some (len, r)) : z_lkb ow cc (pc, len, r) = true := by
  unfold z_okT at hct
  induction ct with
  | nil => cases h
  | cons x t ih =>
    obtain ⟨b, ch⟩ := x
    rw [List.all_cons, Bool.and_eq_true] at hct
    simp only [z_lk] at h
    cases hb : Nat.ble pc b with
    | true =>
      rw [hb] at h
      exact List.all_eq_true.mp hct.1 _ (z_lk1_mem h)
    | false =>
      rw [hb] at h
      exact ih hct.2 h
theorem z_off_in (l : List (Int × Int)) (d k : Int) : Op.lookupswitch.offset l d k = d ∨ ∃ q ∈ l, q.2 = Op.lookupswitch.offset l d k := by
  induction l with
  | nil => exact Or.inl rfl
  | cons x t ih =>
    obtain ⟨a, o⟩ := x
    rw [Op.lookupswitch.offset_cons]
    split
    · exact Or.inr ⟨(a, o), List.mem_cons_self, rfl⟩
    · rcases ih with h | ⟨q, h1, h2⟩
      · exact Or.inl h
      · exact Or.inr ⟨q, List.mem_cons_of_mem _ h1, h2⟩
section
variable {p : Program} {l : Launch} {e : Env} {R : Room} {s : State} {mi : MethodId} {args : Array Value} {below : List Frame} {meth : Method} {c : Code} {Q : State → Prop} {K nL : Nat}
variable {A : Nat → Prop} {ad : Nat → Nat → Nat} {N : Nat → Nat} {Rf : Nat → Nat → Nat → zA} {dC : Nat → ClassId} {dI : Nat → Nat → Nat} {cA : Nat → Nat → ClassId}
variable {cc : ByteArray} {pc nx : Nat} {ls : zL} {m : zM} {st : List zA} {k : Nat} {r : zS} {P : Prop} {ow : Nat} {ct : zT}
theorem z_sstep (hx : p.tables.exec = Jvm.exec) (hb : c.code = cc) (hts : ∀ w ∈ z_W, w.before args s = true) (hown : s.vm.findClass (z_cn ow) = some mi.cls) (h0 : z_W0 A N Rf dC dI cA s) (hct : z_okT ow cc ct = true)
    (h : z_step N Rf ct (pc, ls, st, m) = some (r, P)) (hP : P)
    (kk : z_G p l e R s mi args below meth c Q K nL A ad N Rf dC dI cA k r.1 r.2.1 r.2.2.1 r.2.2.2) : z_G p l e R s mi args below meth c Q K nL A ad N Rf dC dI cA k pc ls st m := by
  unfold z_step at h
  dsimp only at h
  split at h
  · rename_i len i hl
    have hl := z_lk_ok hct hl
    unfold z_lkb at hl
    split at hl
    · rename_i e1; cases e1; cases h
    · rename_i e1; cases e1; cases h
    · rename_i e1
      cases e1
      rw [Bool.and_eq_true, decide_eq_true_eq] at hl
      have h1 := z_beq hl.1
      subst h1
      exact z_s1 hx hb h0 h hl.2 hP kk
    all_goals first | (cases hl; done) | (rename_i e1; cases e1; done)
  · rename_i len q hl
    exact z_s2 hx hb hts hown h0 (z_lk_ok hct hl) h hP kk
  · cases h
theorem z_sbr (hx : p.tables.exec = Jvm.exec) (hb : c.code = cc) (hct : z_okT ow cc ct = true) {cnd : Prop} {t f : Nat} {st' : List zA} (h : z_br ct pc st = some (cnd, t, f, st'))
    (kt : cnd → z_G p l e R s mi args below meth c Q K nL A ad N Rf dC dI cA k t ls st' m) (kf : ¬ cnd → z_G p l e R s mi args below meth c Q K nL A ad N Rf dC dI cA k f ls st' m) : z_G p l e R s mi args below meth c Q K nL A ad N Rf dC dI cA k pc ls st m := by
  intro H locs lsC cells slots hk1 hk2 hI hL
  unfold z_br at h
  split at h
  · rename_i len a b rest hl
    have hl := z_lk_ok hct hl
    obtain ⟨w, v, ci, cl⟩ := rest
    simp only [z_lkb, Bool.and_eq_true, decide_eq_true_eq] at hl
    obtain ⟨hlen, hd⟩ := hl
    have hlen := z_beq hlen
    subst hlen
    split at h
    · split at h <;> cases h
      · exact lv_if_eq hx hb hd (by omega) (fun z => kt z H locs lsC cells slots hk1 hk2 hI hL) (fun z => kf z H locs lsC cells slots hk1 hk2 hI hL)
      · exact lv_if_ne hx hb hd (by omega) (fun z => kf z H locs lsC cells slots hk1 hk2 hI hL) (fun z => kt z H locs lsC cells slots hk1 hk2 hI hL)
      · exact lv_if_lt hx hb hd (by omega) (fun z => kt z H locs lsC cells slots hk1 hk2 hI hL) (fun z => kf z H locs lsC cells slots hk1 hk2 hI hL)
      · exact lv_if_ge hx hb hd (by omega) (fun z => kt z H locs lsC cells slots hk1 hk2 hI hL) (fun z => kf z H locs lsC cells slots hk1 hk2 hI hL)
      · exact lv_if_gt hx hb hd (by omega) (fun z => kt z H locs lsC cells slots hk1 hk2 hI hL) (fun z => kf z H locs lsC cells slots hk1 hk2 hI hL)
      · rename_i b0 b1 b2 b3 b4
        have hd : decode cc pc = .ok (.ifCond .le ((t : Int) - pc), 3) := by
          rw [hd]
          split <;> first | rfl | contradiction
        exact lv_if_le hx hb hd (by omega) (fun z => kt z H locs lsC cells slots hk1 hk2 hI hL) (fun z => kf z H locs lsC cells slots hk1 hk2 hI hL)
    · cases h
  · rename_i len a b rest hl
    have hl := z_lk_ok hct hl
    obtain ⟨w, v, ci, cl⟩ := rest
    simp only [z_lkb, Bool.and_eq_true, decide_eq_true_eq] at hl
    obtain ⟨hlen, hd⟩ := hl
    have hlen := z_beq hlen
    subst hlen
    split at h
    · split at h <;> cases h
      · exact lv_icmp_eq hx hb hd (by omega) (fun z => kt z H locs lsC cells slots hk1 hk2 hI hL) (fun z => kf z H locs lsC cells slots hk1 hk2 hI hL)
      · exact lv_icmp_ne hx hb hd (by omega) (fun z => kf z H locs lsC cells slots hk1 hk2 hI hL) (fun z => kt z H locs lsC cells slots hk1 hk2 hI hL)
      · exact lv_icmp_lt hx hb hd (by omega) (fun z => kt z H locs lsC cells slots hk1 hk2 hI hL) (fun z => kf z H locs lsC cells slots hk1 hk2 hI hL)
      · exact lv_icmp_ge hx hb hd (by omega) (fun z => kt z H locs lsC cells slots hk1 hk2 hI hL) (fun z => kf z H locs lsC cells slots hk1 hk2 hI hL)
      · exact lv_icmp_gt hx hb hd (by omega) (fun z => kt z H locs lsC cells slots hk1 hk2 hI hL) (fun z => kf z H locs lsC cells slots hk1 hk2 hI hL)
      · have hd : decode cc pc = .ok (.if_icmp .le ((t : Int) - pc), 3) := by
          rw [hd]
          split <;> first | rfl | contradiction
        exact lv_icmp_le hx hb hd (by omega) (fun z => kt z H locs lsC cells slots hk1 hk2 hI hL) (fun z => kf z H locs lsC cells slots hk1 hk2 hI hL)
    · cases h
  · rename_i len a rest hl
    have hl := z_lk_ok hct hl
    obtain ⟨b, w, v, ci, cl⟩ := rest
    simp only [z_lkb, Bool.and_eq_true, decide_eq_true_eq] at hl
    obtain ⟨hlen, hd⟩ := hl
    have hlen := z_beq hlen
    subst hlen
    split at h
    · cases h
      exact lv_ifnullN hx hb hd (by omega) (kt trivial H locs lsC cells slots hk1 hk2 hI hL)
    · cases h
      exact lv_ifnull hx hb hd (kf (fun z => z) H locs lsC cells slots hk1 hk2 hI hL)
    · cases h
  · cases h
theorem z_ssw (hx : p.tables.exec = Jvm.exec) (hb : c.code = cc) (hct : z_okT ow cc ct = true) {t : Nat} {st' : List zA} (h : z_sw ct pc st = some (t, st'))
    (kk : z_G p l e R s mi args below meth c Q K nL A ad N Rf dC dI cA k t ls st' m) : z_G p l e R s mi args below meth c Q K nL A ad N Rf dC dI cA k pc ls st m := by
  intro H locs lsC cells slots hk1 hk2 hI hL
  unfold z_sw at h
  split at h
  · rename_i len d lo hi o hl
    have hl := z_lk_ok hct hl
    simp only [z_lkb, Bool.and_eq_true, decide_eq_true_eq] at hl
    obtain ⟨hd, h1, h2, h3⟩ := hl
    split at h
    · rename_i x t
      cases h
      have kk := kk H locs lsC cells slots hk1 hk2 hI hL
      unfold z_swT at kk
      split at kk
      · rename_i hr
        exact lv_tableOut hx hb hd hr (by omega) kk
      · rename_i hr
        have hlt : (x.toInt - lo).toNat < o.size := by omega
        have ho : o[(x.toInt - lo).toNat]? = some (o.getD (x.toInt - lo).toNat 0) := by simp [hlt]
        have hm : o.getD (x.toInt - lo).toNat 0 ∈ o.toList := by
          have := List.mem_of_getElem? (l := o.toList) (i := (x.toInt - lo).toNat) (a := o.getD (x.toInt - lo).toNat 0) (by simpa using ho)
          exact this
        have := List.all_eq_true.mp h2 _ hm
        rw [decide_eq_true_eq] at this
        exact lv_tableIn hx hb hd (by omega) (by omega) ho (by omega) kk
    · cases h
  · rename_i len d ps hl
    have hl := z_lk_ok hct hl
    simp only [z_lkb, Bool.and_eq_true, decide_eq_true_eq] at hl
    obtain ⟨hd, h1, h2, h3⟩ := hl
    split at h
    · rename_i x t
      cases h
      have kk := kk H locs lsC cells slots hk1 hk2 hI hL
      unfold z_swL at kk
      refine lv_lookup hx hb hd (by simpa using h3) rfl ?_ kk
      rcases z_off_in ps.toList d x.toInt with q | ⟨q, q1, q2⟩
      · rw [q]; omega
      · have := List.all_eq_true.mp h2 _ q1
        rw [decide_eq_true_eq, q2] at this
        omega
    · cases h
  · cases h
end
