theorem z_beq {a b : Nat} (h : Nat.beq a b = true) : a = b := Nat.eq_of_beq_eq_true h
theorem z_fin4_of {a : Nat} (h : Nat.ble a 3 = true) : ((z_fin4 a : Fin 4) : Nat) = a := Nat.mod_eq_of_lt (by have := Nat.le_of_ble_eq_true h; omega)
section
variable {p : Program} {l : Launch} {e : Env} {R : Room} {s : State} {mi : MethodId} {args : Array Value} {below : List Frame} {meth : Method} {c : Code} {Q : State → Prop} {K nL : Nat}
variable {A : Nat → Prop} {ad : Nat → Nat → Nat} {N : Nat → Nat} {Rf : Nat → Nat → Nat → zA} {dC : Nat → ClassId} {dI : Nat → Nat → Nat} {cA : Nat → Nat → ClassId}
variable {cc : ByteArray} {pc nx : Nat} {ls : zL} {m : zM} {st : List zA} {k : Nat} {r : zS} {P : Prop}
theorem z_fs_get {a i b : Nat} (hb : b < (z_C a).2.2) : ((List.range (z_C a).2.2).map (z_fV ad Rf m a i))[b]? = some (z_fV ad Rf m a i b) := by
  rw [List.getElem?_map, List.getElem?_range hb]
  rfl
theorem z_fs_sI {a i b : Nat} {v : Int32} (hf : z_fty a b = 0 ∨ z_fty a b = 3) (hb : b < (z_C a).2.2) : ((List.range (z_C a).2.2).map (z_fV ad Rf m a i)).set b (.int v) = (List.range (z_C a).2.2).map (z_fV ad Rf (z_sI m a i b v) a i) := by
  apply List.ext_getElem?
  intro n
  rw [List.getElem?_set]
  by_cases e : b = n
  · subst e
    rw [if_pos rfl, if_pos (by simpa using hb), z_fs_get hb]
    unfold z_fV
    rcases hf with q | q <;> simp [q, z_sI]
  · rw [if_neg e]
    by_cases hn : n < (z_C a).2.2
    · rw [z_fs_get hn, z_fs_get hn]
      unfold z_fV
      have : (z_sI m a i b v).1 a i n = m.1 a i n := by simp [z_sI, Ne.symm e]
      rw [this]
      rfl
    · rw [List.getElem?_map, List.getElem?_map, List.getElem?_eq_none (by simpa using hn)]
      rfl
theorem z_fs_sL {a i b : Nat} {v : Int64} (hf : z_fty a b = 1) (hb : b < (z_C a).2.2) : ((List.range (z_C a).2.2).map (z_fV ad Rf m a i)).set b (.long v) = (List.range (z_C a).2.2).map (z_fV ad Rf (z_sL m a i b v) a i) := by
  apply List.ext_getElem?
  intro n
  rw [List.getElem?_set]
  by_cases e : b = n
  · subst e
    rw [if_pos rfl, if_pos (by simpa using hb), z_fs_get hb]
    unfold z_fV
    simp [hf, z_sL]
  · rw [if_neg e]
    by_cases hn : n < (z_C a).2.2
    · rw [z_fs_get hn, z_fs_get hn]
      unfold z_fV
      have : (z_sL m a i b v).2.1 a i n = m.2.1 a i n := by simp [z_sL, Ne.symm e]
      rw [this]
      rfl
    · rw [List.getElem?_map, List.getElem?_map, List.getElem?_eq_none (by simpa using hn)]
      rfl
theorem z_fty_ty {a b : Nat} : (z_fty a b = 0 → z_tyf a b = .int) ∧ (z_fty a b = 1 → z_tyf a b = .long) ∧ (z_fty a b = 3 → z_tyf a b = .boolean) := by
  unfold z_fty
  cases z_tyf a b <;> simp
theorem z_nbool {v : Int32} (h : v = 0 ∨ v = 1) : narrow .boolean (.int v) = .int v ∧ fits .boolean (.int v) = true := by
  rcases h with rfl | rfl <;> exact ⟨rfl, rfl⟩
/-- a getfield -/
theorem z_getf {ow : Nat} {a b w v len i : Nat} {t : List zA} {ci : Int32} {cl : Int64} (hx : p.tables.exec = Jvm.exec) (hb : c.code = cc) (hts : ∀ w ∈ z_W, w.before args s = true) (hown : s.vm.findClass (z_cn ow) = some mi.cls) (h0 : z_W0 A N Rf dC dI cA s) (hl : z_lkb ow cc (pc, len, .inr (0, a, b, w, v, ci, cl)) = true) (hi : i < N a)
    (kk : ∀ (H : Heap) (locs : List Loc) (lsC : Array Slot) (cells slots : Nat), cells + k ≤ K → slots + 6 * k ≤ 6 * K → z_I A ad N Rf dC dI cA s.heap m H locs → z_LR ad ls lsC nL → W p l e R s mi args below meth c H locs cells slots Q (F0 mi (pc + len) lsC (z_fV ad Rf m a i b :: t.map (z_cv ad)))) :
    z_G p l e R s mi args below meth c Q K nL A ad N Rf dC dI cA k pc ls (.inr (a, i) :: t) m := by
  intro H locs lsC cells slots hk1 hk2 hI hL
  simp only [z_lkb, Bool.and_eq_true, decide_eq_true_eq] at hl
  obtain ⟨hlen, hd, hfl⟩ := hl
  obtain ⟨hw, hdc, h1, h2, h3⟩ := z_FL_all _ (List.mem_of_getElem? hfl)
  dsimp only at hw hdc h1 h2 h3
  have hlen := z_beq hlen
  subst hlen
  obtain ⟨hc1, hc2, hc3, hc4⟩ := z_cls (k := a) (by omega)
  obtain ⟨q0, hq0⟩ := z_ids_at h0.2.2.2.1 hi
  have hwl := z_wl_at (ad := ad) (Rf := Rf) (cA := cA) (m := m) hq0
  rw [z_cE_obj (by omega)] at hwl
  exact va_get (C := (z_C a).1) (T := (z_C a).2.1) (N := (z_C a).2.2) hx hb hts hc2 hown h0.1 hI.1 q0 hwl hc1 b (by omega) (hts _ hw) (fun x h9 => by rw [hdc] at h9; exact h9) (z_fs_get (by omega)) hd (kk H locs lsC cells slots hk1 hk2 hI hL)
/-- a putfield of an int -/
theorem z_putI {ow : Nat} {a b w v len i : Nat} {t : List zA} {ci x : Int32} {cl : Int64} (hx : p.tables.exec = Jvm.exec) (hb : c.code = cc) (hts : ∀ w ∈ z_W, w.before args s = true) (hown : s.vm.findClass (z_cn ow) = some mi.cls) (h0 : z_W0 A N Rf dC dI cA s) (hl : z_lkb ow cc (pc, len, .inr (1, a, b, w, v, ci, cl)) = true) (hi : i < N a)
    (hf : z_fty a b = 0 ∨ (z_fty a b = 3 ∧ (x = 0 ∨ x = 1)))
    (kk : z_G p l e R s mi args below meth c Q K nL A ad N Rf dC dI cA k (pc + len) ls t (z_sI m a i b x)) :
    z_G p l e R s mi args below meth c Q K nL A ad N Rf dC dI cA k pc ls (.inl (.int x) :: .inr (a, i) :: t) m := by
  intro H locs lsC cells slots hk1 hk2 hI hL
  simp only [z_lkb, Bool.and_eq_true, decide_eq_true_eq, Bool.not_eq_true'] at hl
  obtain ⟨hlen, hd, hfl, hfin⟩ := hl
  obtain ⟨hw, hdc, h1, h2, h3⟩ := z_FL_all _ (List.mem_of_getElem? hfl)
  dsimp only at hw hdc h1 h2 h3
  have hlen := z_beq hlen
  subst hlen
  obtain ⟨hc1, hc2, hc3, hc4⟩ := z_cls (k := a) (by omega)
  obtain ⟨q0, hq0⟩ := z_ids_at h0.2.2.2.1 hi
  have hwl := z_wl_at (ad := ad) (Rf := Rf) (cA := cA) (m := m) hq0
  rw [z_cE_obj (by omega)] at hwl
  have hty : ∃ ty, z_tyf a b = ty ∧ narrow ty (.int x) = .int x ∧ fits ty (.int x) = true := by
    rcases hf with q | ⟨q, q2⟩
    · exact ⟨_, z_fty_ty.1 q, rfl, rfl⟩
    · exact ⟨_, z_fty_ty.2.2 q, z_nbool q2⟩
  obtain ⟨ty, e1, e2, e3⟩ := hty
  refine va_put (C := (z_C a).1) (T := (z_C a).2.1) (N := (z_C a).2.2) hx hb hts hc2 (z_tyf a) hc3 hc4 hown h0.1 hI.1 hI.2.1 hI.2.2 q0 hwl hc1 b (by omega) (hts _ hw) (fun x h9 => by rw [hdc] at h9; exact h9) hfin (by rw [← e1]; exact hc3 b (by omega)) e2 e3 (by simp; omega) hd (fun H1 locs1 g1 g2 g3 => ?_)
  have e : (z_wl ad N Rf cA m).set q0 (ad a i, .inr (a, ((List.range (z_C a).2.2).map (z_fV ad Rf m a i)).set b (.int x))) = z_wl ad N Rf cA (z_sI m a i b x) := by
    rw [← z_wl_set hI.2.1 hq0 (z_cE_sI (j := b) (v := x)), z_cE_obj (by omega), z_fs_sI (by rcases hf with q | q; exact Or.inl q; exact Or.inr q.1) (by omega)]
  rw [show z_cv ad (Sum.inl (Value.int x)) = Value.int x from rfl, e] at g1 g2
  exact kk H1 locs1 lsC cells slots hk1 hk2 ⟨g1, g2, g3⟩ hL
theorem z_putL {ow : Nat} {a b w v len i : Nat} {t : List zA} {ci : Int32} {x cl : Int64} (hx : p.tables.exec = Jvm.exec) (hb : c.code = cc) (hts : ∀ w ∈ z_W, w.before args s = true) (hown : s.vm.findClass (z_cn ow) = some mi.cls) (h0 : z_W0 A N Rf dC dI cA s) (hl : z_lkb ow cc (pc, len, .inr (1, a, b, w, v, ci, cl)) = true) (hi : i < N a)
    (hf : z_fty a b = 1)
    (kk : z_G p l e R s mi args below meth c Q K nL A ad N Rf dC dI cA k (pc + len) ls t (z_sL m a i b x)) :
    z_G p l e R s mi args below meth c Q K nL A ad N Rf dC dI cA k pc ls (.inl (.long x) :: .inr (a, i) :: t) m := by
  intro H locs lsC cells slots hk1 hk2 hI hL
  simp only [z_lkb, Bool.and_eq_true, decide_eq_true_eq, Bool.not_eq_true'] at hl
  obtain ⟨hlen, hd, hfl, hfin⟩ := hl
  obtain ⟨hw, hdc, h1, h2, h3⟩ := z_FL_all _ (List.mem_of_getElem? hfl)
  dsimp only at hw hdc h1 h2 h3
  have hlen := z_beq hlen
  subst hlen
  obtain ⟨hc1, hc2, hc3, hc4⟩ := z_cls (k := a) (by omega)
  obtain ⟨q0, hq0⟩ := z_ids_at h0.2.2.2.1 hi
  have hwl := z_wl_at (ad := ad) (Rf := Rf) (cA := cA) (m := m) hq0
  rw [z_cE_obj (by omega)] at hwl
  have e1 := z_fty_ty.2.1 hf
  refine va_put (ty := .long) (C := (z_C a).1) (T := (z_C a).2.1) (N := (z_C a).2.2) hx hb hts hc2 (z_tyf a) hc3 hc4 hown h0.1 hI.1 hI.2.1 hI.2.2 q0 hwl hc1 b (by omega) (hts _ hw) (fun x h9 => by rw [hdc] at h9; exact h9) hfin (by rw [← e1]; exact hc3 b (by omega)) rfl rfl (by simp; omega) hd (fun H1 locs1 g1 g2 g3 => ?_)
  have e : (z_wl ad N Rf cA m).set q0 (ad a i, .inr (a, ((List.range (z_C a).2.2).map (z_fV ad Rf m a i)).set b (.long x))) = z_wl ad N Rf cA (z_sL m a i b x) := by
    rw [← z_wl_set hI.2.1 hq0 (z_cE_sL (j := b) (v := x)), z_cE_obj (by omega), z_fs_sL hf (by omega)]
  rw [show z_cv ad (Sum.inl (Value.long x)) = Value.long x from rfl, e] at g1 g2
  exact kk H1 locs1 lsC cells slots hk1 hk2 ⟨g1, g2, g3⟩ hL
set_option maxHeartbeats 2000000 in
theorem z_s2 {ow : Nat} {len : Nat} {q : Nat × Nat × Nat × Nat × Nat × Int32 × Int64} (hx : p.tables.exec = Jvm.exec) (hb : c.code = cc) (hts : ∀ w ∈ z_W, w.before args s = true) (hown : s.vm.findClass (z_cn ow) = some mi.cls) (h0 : z_W0 A N Rf dC dI cA s) (hl : z_lkb ow cc (pc, len, .inr q) = true)
    (h : z_ex2 N Rf (pc + len) ls m q st = some (r, P)) (hP : P)
    (kk : z_G p l e R s mi args below meth c Q K nL A ad N Rf dC dI cA k r.1 r.2.1 r.2.2.1 r.2.2.2) : z_G p l e R s mi args below meth c Q K nL A ad N Rf dC dI cA k pc ls st m := by
  unfold z_ex2 at h
  split at h
  · rename_i a b qq
    obtain ⟨w, v, ci, cl⟩ := qq
    split at h
    · rename_i k0 i0 t
      cases hc : Nat.beq k0 a with
      | false => rw [hc] at h; cases h
      | true =>
        rw [hc, cond_true] at h
        have hc := z_beq hc
        subst hc
        split at h
        · rename_i hf
          cases h
          refine z_getf hx hb hts hown h0 hl hP (fun H locs lsC cells slots h1 h2 h3 h4 => ?_)
          rw [show z_fV ad Rf m k0 i0 b = .int (m.1 k0 i0 b) by simp only [z_fV, hf]]
          exact kk H locs lsC cells slots h1 h2 h3 h4
        · rename_i hf
          cases h
          refine z_getf hx hb hts hown h0 hl hP (fun H locs lsC cells slots h1 h2 h3 h4 => ?_)
          rw [show z_fV ad Rf m k0 i0 b = .long (m.2.1 k0 i0 b) by simp only [z_fV, hf]]
          exact kk H locs lsC cells slots h1 h2 h3 h4
        · rename_i hf
          cases h
          refine z_getf hx hb hts hown h0 hl hP (fun H locs lsC cells slots h1 h2 h3 h4 => ?_)
          rw [show z_fV ad Rf m k0 i0 b = .int (m.1 k0 i0 b) by simp only [z_fV, hf]]
          exact kk H locs lsC cells slots h1 h2 h3 h4
        · rename_i hf0 hf1 hf3
          cases h
          refine z_getf hx hb hts hown h0 hl hP (fun H locs lsC cells slots h1 h2 h3 h4 => ?_)
          rw [show z_fV ad Rf m k0 i0 b = z_cv ad (Rf k0 i0 b) by
            unfold z_fV
            split
            · rename_i q; exact absurd q hf0
            · rename_i q; exact absurd q hf1
            · rename_i q; exact absurd q hf3
            · rfl]
          exact kk H locs lsC cells slots h1 h2 h3 h4
    · cases h
  · rename_i a b qq
    obtain ⟨w, v, ci, cl⟩ := qq
    split at h
    · rename_i x k0 i0 t
      cases hc : Nat.beq k0 a with
      | false => rw [hc] at h; cases h
      | true =>
        rw [hc, cond_true] at h
        have hc := z_beq hc
        subst hc
        split at h
        · rename_i hf
          cases h
          exact z_putI hx hb hts hown h0 hl hP (Or.inl hf) kk
        · rename_i hf
          cases h
          exact z_putI hx hb hts hown h0 hl hP.1 (Or.inr ⟨hf, hP.2⟩) kk
        · cases h
    · rename_i x k0 i0 t
      cases hc : Nat.beq k0 a with
      | false => rw [hc] at h; cases h
      | true =>
        rw [hc, cond_true] at h
        have hc := z_beq hc
        subst hc
        split at h
        · rename_i hf
          cases h
          exact z_putL hx hb hts hown h0 hl hP hf kk
        · cases h
    · cases h
  · rename_i a b w v ci cl
    cases h
    intro H locs lsC cells slots hk1 hk2 hI hL
    simp only [z_lkb] at hl
    split at hl <;> simp only [Bool.and_eq_true, decide_eq_true_eq] at hl <;> obtain ⟨hlen, hd, hv⟩ := hl <;> have hlen := z_beq hlen <;> subst hlen
    · exact lv_iconst hx hb hd hv (kk H locs lsC cells slots hk1 hk2 hI hL)
    · exact lv_bipush hx hb hd hv (kk H locs lsC cells slots hk1 hk2 hI hL)
    · exact lv_sipush hx hb hd hv (kk H locs lsC cells slots hk1 hk2 hI hL)
    · exact lv_ldc hx hb hown (hts _ (z_CL_all _ (List.mem_of_getElem? hv))) hd (kk H locs lsC cells slots hk1 hk2 hI hL)
    · exact lv_ldcw hx hb hown (hts _ (z_CL_all _ (List.mem_of_getElem? hv))) hd (kk H locs lsC cells slots hk1 hk2 hI hL)
  · rename_i a b w v ci cl
    cases h
    intro H locs lsC cells slots hk1 hk2 hI hL
    simp only [z_lkb] at hl
    split at hl <;> simp only [Bool.and_eq_true, decide_eq_true_eq] at hl <;> obtain ⟨hlen, hd, hv⟩ := hl <;> have hlen := z_beq hlen <;> subst hlen
    · subst hv; exact lv_lconst hx hb hd rfl (kk H locs lsC cells slots hk1 hk2 hI hL)
    · subst hv; exact lv_lconst hx hb hd rfl (kk H locs lsC cells slots hk1 hk2 hI hL)
    · exact lv_ldc2 hx hb hown (hts _ (z_LL0_all _ (List.mem_of_getElem? hv))) hd (kk H locs lsC cells slots hk1 hk2 hI hL)
  · rename_i a b w v ci cl
    split at h
    · rename_i x hg
      cases h
      intro H locs lsC cells slots hk1 hk2 hI hL
      simp only [z_lkb, Bool.and_eq_true, decide_eq_true_eq] at hl
      obtain ⟨hlen, hd, hv⟩ := hl
      have hlen := z_beq hlen
      subst hlen
      obtain ⟨n, hn⟩ := List.getElem?_of_mem (z_as_in (ad := ad) hg)
      have ha : a < nL := by rw [← hL.1]; exact z_get_lt hg
      refine lv_iinc hx hb hd (z_as_has hL) hn (by rw [hv]) ha rfl (fun ls' h' => ?_)
      exact kk H locs ls' cells slots hk1 hk2 hI (z_LR_st1 (v := .inl (.int (x + ci))) hL rfl h')
    · cases h
  · rename_i a b
    split at h
    · rename_i x hg
      cases h
      intro H locs lsC cells slots hk1 hk2 hI hL
      obtain ⟨b, w, v, ci, cl⟩ := b
      simp only [z_lkb] at hl
      split at hl <;> simp only [Bool.and_eq_true, decide_eq_true_eq] at hl
      · obtain ⟨hlen, h3, hd⟩ := hl
        have hlen := z_beq hlen
        subst hlen
        exact lv_iload_n hx hb hd (z_fin4_of h3) (hL.2.2.2 _ _ hg) (kk H locs lsC cells slots hk1 hk2 hI hL)
      · obtain ⟨hlen, hd⟩ := hl
        have hlen := z_beq hlen
        subst hlen
        exact lv_iload hx hb hd (hL.2.2.2 _ _ hg) (kk H locs lsC cells slots hk1 hk2 hI hL)
    · cases h
  · rename_i a b
    split at h
    · rename_i x hg
      cases h
      intro H locs lsC cells slots hk1 hk2 hI hL
      obtain ⟨b, w, v, ci, cl⟩ := b
      simp only [z_lkb] at hl
      split at hl <;> simp only [Bool.and_eq_true, decide_eq_true_eq] at hl
      · obtain ⟨hlen, h3, hd⟩ := hl
        have hlen := z_beq hlen
        subst hlen
        exact lv_lload_n hx hb hd (z_fin4_of h3) (hL.2.2.2 _ _ hg) (kk H locs lsC cells slots hk1 hk2 hI hL)
      · obtain ⟨hlen, hd⟩ := hl
        have hlen := z_beq hlen
        subst hlen
        exact lv_lload hx hb hd (hL.2.2.2 _ _ hg) (kk H locs lsC cells slots hk1 hk2 hI hL)
    · cases h
  · rename_i a b
    split at h
    · rename_i x hg
      cases h
      intro H locs lsC cells slots hk1 hk2 hI hL
      obtain ⟨b, w, v, ci, cl⟩ := b
      simp only [z_lkb] at hl
      split at hl <;> simp only [Bool.and_eq_true, decide_eq_true_eq] at hl
      · obtain ⟨hlen, h3, hd⟩ := hl
        have hlen := z_beq hlen
        subst hlen
        exact lv_aload_n hx hb hd (z_fin4_of h3) (hL.2.2.2 _ _ hg) (kk H locs lsC cells slots hk1 hk2 hI hL)
      · obtain ⟨hlen, hd⟩ := hl
        have hlen := z_beq hlen
        subst hlen
        exact lv_aload hx hb hd (hL.2.2.2 _ _ hg) (kk H locs lsC cells slots hk1 hk2 hI hL)
    · cases h
  · rename_i a b
    split at h
    · rename_i x hg
      cases h
      intro H locs lsC cells slots hk1 hk2 hI hL
      obtain ⟨b, w, v, ci, cl⟩ := b
      simp only [z_lkb, Bool.and_eq_true, decide_eq_true_eq] at hl
      obtain ⟨hlen, hd⟩ := hl
      have hlen := z_beq hlen
      subst hlen
      exact lv_dload hx hb hd (hL.2.2.2 _ _ hg) (kk H locs lsC cells slots hk1 hk2 hI hL)
    · cases h
  · rename_i a b
    split at h
    · rename_i x t
      cases hc : Nat.ble (a + 1) ls.length with
      | false => rw [hc] at h; cases h
      | true =>
        rw [hc] at h
        cases h
        intro H locs lsC cells slots hk1 hk2 hI hL
        have ha : a < nL := by rw [← hL.1]; exact Nat.le_of_ble_eq_true hc
        obtain ⟨b, w, v, ci, cl⟩ := b
        simp only [z_lkb] at hl
        split at hl <;> simp only [Bool.and_eq_true, decide_eq_true_eq] at hl
        · obtain ⟨hlen, h3, hd⟩ := hl
          have hlen := z_beq hlen
          subst hlen
          exact lv_istore_n hx hb hd (z_fin4_of h3) (z_as_has hL) ha rfl (fun ls' h' => kk H locs ls' cells slots hk1 hk2 hI (z_LR_st1 (v := .inl (.int x)) hL rfl h'))
        · obtain ⟨hlen, hd⟩ := hl
          have hlen := z_beq hlen
          subst hlen
          exact lv_istore hx hb hd (z_as_has hL) ha rfl (fun ls' h' => kk H locs ls' cells slots hk1 hk2 hI (z_LR_st1 (v := .inl (.int x)) hL rfl h'))
    · cases h
  · rename_i a b
    split at h
    · rename_i x t
      cases hc : Nat.ble (a + 2) ls.length with
      | false => rw [hc] at h; cases h
      | true =>
        rw [hc] at h
        cases h
        intro H locs lsC cells slots hk1 hk2 hI hL
        have ha2 := Nat.le_of_ble_eq_true hc
        have ha : a + 1 < nL := by rw [← hL.1]; omega
        obtain ⟨b, w, v, ci, cl⟩ := b
        simp only [z_lkb] at hl
        split at hl <;> simp only [Bool.and_eq_true, decide_eq_true_eq] at hl
        · obtain ⟨hlen, h3, hd⟩ := hl
          have hlen := z_beq hlen
          subst hlen
          exact lv_lstore_n hx hb hd (z_fin4_of h3) (z_as_has hL) ha rfl (fun ls' h' => kk H locs ls' cells slots hk1 hk2 hI (z_LR_st2 (v := .inl (.long x)) hL ha2 rfl h'))
        · obtain ⟨hlen, hd⟩ := hl
          have hlen := z_beq hlen
          subst hlen
          exact lv_lstore hx hb hd (z_as_has hL) ha rfl (fun ls' h' => kk H locs ls' cells slots hk1 hk2 hI (z_LR_st2 (v := .inl (.long x)) hL ha2 rfl h'))
    · cases h
  · rename_i a b
    split at h
    · rename_i x t
      cases hc : Nat.ble (a + 1) ls.length with
      | false => rw [hc] at h; cases h
      | true =>
        rw [hc] at h
        cases h
        intro H locs lsC cells slots hk1 hk2 hI hL
        have ha : a < nL := by rw [← hL.1]; exact Nat.le_of_ble_eq_true hc
        obtain ⟨b, w, v, ci, cl⟩ := b
        simp only [z_lkb] at hl
        split at hl <;> simp only [Bool.and_eq_true, decide_eq_true_eq] at hl
        · obtain ⟨hlen, h3, hd⟩ := hl
          have hlen := z_beq hlen
          subst hlen
          exact lv_astore_n hx hb hd (z_fin4_of h3) (z_as_has hL) ha rfl (fun ls' h' => kk H locs ls' cells slots hk1 hk2 hI (z_LR_st1 (v := .inr x) hL rfl h'))
        · obtain ⟨hlen, hd⟩ := hl
          have hlen := z_beq hlen
          subst hlen
          exact lv_astore hx hb hd (z_as_has hL) ha rfl (fun ls' h' => kk H locs ls' cells slots hk1 hk2 hI (z_LR_st1 (v := .inr x) hL rfl h'))
    · cases h
  · rename_i a b
    split at h
    · rename_i x t
      cases hc : Nat.ble (a + 2) ls.length with
      | false => rw [hc] at h; cases h
      | true =>
        rw [hc] at h
        cases h
        intro H locs lsC cells slots hk1 hk2 hI hL
        have ha2 := Nat.le_of_ble_eq_true hc
        have ha : a + 1 < nL := by rw [← hL.1]; omega
        obtain ⟨b, w, v, ci, cl⟩ := b
        simp only [z_lkb, Bool.and_eq_true, decide_eq_true_eq] at hl
        obtain ⟨hlen, hd⟩ := hl
        have hlen := z_beq hlen
        subst hlen
        exact lv_dstore hx hb hd (z_as_has hL) ha rfl (fun ls' h' => kk H locs ls' cells slots hk1 hk2 hI (z_LR_st2 (v := .inl (.double x)) hL ha2 rfl h'))
    · cases h
  · rename_i a b
    cases h
    intro H locs lsC cells slots hk1 hk2 hI hL
    obtain ⟨b, w, v, ci, cl⟩ := b
    simp only [z_lkb, Bool.and_eq_true, decide_eq_true_eq] at hl
    obtain ⟨hlen, hd⟩ := hl
    exact lv_goto hx hb hd (by omega) (kk H locs lsC cells slots hk1 hk2 hI hL)
  · cases h
end
