section
variable {p : Program} {l : Launch} {e : Env} {R : Room} {s : State} {mi : MethodId} {args : Array Value} {below : List Frame} {meth : Method} {c : Code} {Q : State → Prop} {K nL : Nat}
variable {A : Nat → Prop} {ad : Nat → Nat → Nat} {N : Nat → Nat} {Rf : Nat → Nat → Nat → zA} {dC : Nat → ClassId} {dI : Nat → Nat → Nat} {cA : Nat → Nat → ClassId}
variable {cc : ByteArray} {pc nx : Nat} {ls : zL} {m : zM} {st : List zA} {k : Nat} {r : zS} {P : Prop}
theorem z_c2_1 {v : zA} (h : z_c2 v = false) : (z_cv ad v).category = 1 := by
  rcases v with v | q
  · cases v <;> first | rfl | cases h
  · rfl
theorem z_rf_cv {x : zA} (h : x = .inl .null ∨ ∃ q, x = .inr q) : va_rf (z_rf ad x) = z_cv ad x := by
  rcases h with rfl | ⟨q, rfl⟩ <;> rfl
set_option maxHeartbeats 2000000 in
theorem z_s1 {i : Instr} (hx : p.tables.exec = Jvm.exec) (hb : c.code = cc) (h0 : z_W0 A N Rf dC dI cA s) (h : z_ex1 N Rf (pc + 1) ls m i st = some (r, P)) (hd : decode cc pc = .ok (i, 1)) (hP : P)
    (kk : z_G p l e R s mi args below meth c Q K nL A ad N Rf dC dI cA k r.1 r.2.1 r.2.2.1 r.2.2.2) : z_G p l e R s mi args below meth c Q K nL A ad N Rf dC dI cA k pc ls st m := by
  intro H locs lsC cells slots hk1 hk2 hI hL
  unfold z_ex1 at h
  split at h
  · obtain ⟨x, y, t, rfl, rfl⟩ := z_II_inv h; exact lv_iadd hx hb hd (kk H locs lsC cells slots hk1 hk2 hI hL)
  · obtain ⟨x, y, t, rfl, rfl⟩ := z_II_inv h; exact lv_isub hx hb hd (kk H locs lsC cells slots hk1 hk2 hI hL)
  · obtain ⟨x, y, t, rfl, rfl⟩ := z_II_inv h; exact lv_imul hx hb hd (kk H locs lsC cells slots hk1 hk2 hI hL)
  · obtain ⟨x, y, t, rfl, rfl⟩ := z_II_inv h; exact lv_iand hx hb hd (kk H locs lsC cells slots hk1 hk2 hI hL)
  · obtain ⟨x, y, t, rfl, rfl⟩ := z_II_inv h; exact lv_ior hx hb hd (kk H locs lsC cells slots hk1 hk2 hI hL)
  · obtain ⟨x, y, t, rfl, rfl⟩ := z_II_inv h; exact lv_ixor hx hb hd (kk H locs lsC cells slots hk1 hk2 hI hL)
  · obtain ⟨x, y, t, rfl, rfl⟩ := z_II_inv h; exact lv_iushr hx hb hd rfl (kk H locs lsC cells slots hk1 hk2 hI hL)
  · obtain ⟨x, y, t, rfl, rfl, rfl⟩ := z_IIg_inv h; exact lv_idiv hx hb hd hP (kk H locs lsC cells slots hk1 hk2 hI hL)
  · obtain ⟨x, y, t, rfl, rfl, rfl⟩ := z_IIg_inv h; exact lv_irem hx hb hd hP (kk H locs lsC cells slots hk1 hk2 hI hL)
  · obtain ⟨x, t, rfl, rfl⟩ := z_I_inv h; exact lv_ineg hx hb hd (kk H locs lsC cells slots hk1 hk2 hI hL)
  · obtain ⟨x, y, t, rfl, rfl⟩ := z_LL_inv h; exact lv_ladd hx hb hd (kk H locs lsC cells slots hk1 hk2 hI hL)
  · obtain ⟨x, y, t, rfl, rfl⟩ := z_LL_inv h; exact lv_lsub hx hb hd (kk H locs lsC cells slots hk1 hk2 hI hL)
  · obtain ⟨x, y, t, rfl, rfl⟩ := z_LL_inv h; exact lv_land hx hb hd (kk H locs lsC cells slots hk1 hk2 hI hL)
  · obtain ⟨x, y, t, rfl, rfl⟩ := z_LL_inv h; exact lv_lor hx hb hd (kk H locs lsC cells slots hk1 hk2 hI hL)
  · obtain ⟨x, y, t, rfl, rfl⟩ := z_LL_inv h; exact lv_lxor hx hb hd (kk H locs lsC cells slots hk1 hk2 hI hL)
  · obtain ⟨x, y, t, rfl, rfl⟩ := z_LI_inv h; exact lv_lshl hx hb hd rfl (kk H locs lsC cells slots hk1 hk2 hI hL)
  · obtain ⟨x, y, t, rfl, rfl⟩ := z_LI_inv h; exact lv_lshr hx hb hd rfl (kk H locs lsC cells slots hk1 hk2 hI hL)
  · obtain ⟨x, y, t, rfl, rfl⟩ := z_LI_inv h; exact lv_lushr hx hb hd rfl (kk H locs lsC cells slots hk1 hk2 hI hL)
  · split at h
    · cases h; exact W.lcmp hx hb hd (kk H locs lsC cells slots hk1 hk2 hI hL)
    · cases h
  · obtain ⟨x, t, rfl, rfl⟩ := z_I_inv h; exact lv_i2l hx hb hd rfl (kk H locs lsC cells slots hk1 hk2 hI hL)
  · obtain ⟨x, t, rfl, rfl⟩ := z_I_inv h; exact lv_i2c hx hb hd rfl (kk H locs lsC cells slots hk1 hk2 hI hL)
  · obtain ⟨x, t, rfl, rfl⟩ := z_I_inv h; exact lv_i2d hx hb hd (kk H locs lsC cells slots hk1 hk2 hI hL)
  · split at h
    · cases h; exact lv_l2i hx hb hd rfl (kk H locs lsC cells slots hk1 hk2 hI hL)
    · cases h
  · split at h
    · cases h; exact lv_ddiv hx hb hd hP (kk H locs lsC cells slots hk1 hk2 hI hL)
    · cases h
  · split at h
    · cases h; exact lv_dcmp hx hb hd (kk H locs lsC cells slots hk1 hk2 hI hL)
    · cases h
  · split at h
    · rename_i v t
      cases hc : z_c2 v with
      | true => rw [hc] at h; cases h
      | false => rw [hc] at h; cases h; exact lv_dup hx hb hd (z_c2_1 hc) (kk H locs lsC cells slots hk1 hk2 hI hL)
    · cases h
  · split at h
    · rename_i v t
      cases hc : z_c2 v with
      | true => rw [hc] at h; cases h
      | false => rw [hc] at h; cases h; exact lv_pop hx hb hd (z_c2_1 hc) (kk H locs lsC cells slots hk1 hk2 hI hL)
    · cases h
  · split at h
    · rename_i v w t
      cases hc : z_c2 v || z_c2 w with
      | true => rw [hc] at h; cases h
      | false => rw [hc] at h; cases h; rw [Bool.or_eq_false_iff] at hc; exact lv_dup_x1 hx hb hd (z_c2_1 hc.1) (z_c2_1 hc.2) (kk H locs lsC cells slots hk1 hk2 hI hL)
    · cases h
  · split at h
    · rename_i v w t
      cases hc : z_c2 v || z_c2 w with
      | true => rw [hc] at h; cases h
      | false => rw [hc] at h; cases h; rw [Bool.or_eq_false_iff] at hc; exact lv_dup2_11 hx hb hd (z_c2_1 hc.1) (z_c2_1 hc.2) (kk H locs lsC cells slots hk1 hk2 hI hL)
    · cases h
  · cases h; exact lv_null hx hb hd (kk H locs lsC cells slots hk1 hk2 hI hL)
  · split at h
    · rename_i k0 i0 t
      cases hc : Nat.ble 20 k0 with
      | false => rw [hc] at h; cases h
      | true =>
        rw [hc] at h; cases h
        have hk := Nat.le_of_ble_eq_true hc
        obtain ⟨q0, hq0⟩ := z_ids_at h0.2.2.2.1 hP
        have hw := z_wl_at (ad := ad) (Rf := Rf) (cA := cA) (m := m) hq0
        rw [z_cE_arr hk] at hw
        exact va_alen hx hb (z_K h0 hP hk) hI.1 q0 0 hw rfl rfl hd (kk H locs lsC cells slots hk1 hk2 hI hL)
    · cases h
  · obtain ⟨x, k0, i0, t, rfl, ht, hk, rfl, rfl⟩ := z_al_inv h
    obtain ⟨q0, hq0⟩ := z_ids_at h0.2.2.2.1 hP.1
    have hw := z_wl_at (ad := ad) (Rf := Rf) (cA := cA) (m := m) hq0
    have hK := z_K h0 hP.1 hk
    simp only [z_cE_arr hk, z_aR, z_aT, ht] at hw hK
    exact va_iald hx hb hK hI.1 q0 0 hw rfl hP.2 hd (kk H locs lsC cells slots hk1 hk2 hI hL)
  · obtain ⟨x, k0, i0, t, rfl, ht, hk, rfl, rfl⟩ := z_al_inv h
    obtain ⟨q0, hq0⟩ := z_ids_at h0.2.2.2.1 hP.1
    have hw := z_wl_at (ad := ad) (Rf := Rf) (cA := cA) (m := m) hq0
    have hK := z_K h0 hP.1 hk
    simp only [z_cE_arr hk, z_aR, z_aT, ht] at hw hK
    exact va_cald hx hb hK hI.1 q0 0 hw rfl hP.2 hd (kk H locs lsC cells slots hk1 hk2 hI hL)
  · obtain ⟨x, k0, i0, t, rfl, ht, hk, rfl, rfl⟩ := z_al_inv h
    obtain ⟨q0, hq0⟩ := z_ids_at h0.2.2.2.1 hP.1
    have hw := z_wl_at (ad := ad) (Rf := Rf) (cA := cA) (m := m) hq0
    have hK := z_K h0 hP.1 hk
    simp only [z_cE_arr hk, z_aR, z_aT, ht] at hw hK
    exact va_lald hx hb hK hI.1 q0 0 hw rfl hP.2 hd (kk H locs lsC cells slots hk1 hk2 hI hL)
  · obtain ⟨x, k0, i0, t, rfl, ht, hk, rfl, rfl⟩ := z_al_inv h
    obtain ⟨q0, hq0⟩ := z_ids_at h0.2.2.2.1 hP.1
    have hw := z_wl_at (ad := ad) (Rf := Rf) (cA := cA) (m := m) hq0
    have hK := z_K h0 hP.1 hk
    simp only [z_cE_arr hk, z_aR, z_aT, ht] at hw hK
    exact va_dald hx hb hK hI.1 q0 0 hw rfl hP.2 hd (kk H locs lsC cells slots hk1 hk2 hI hL)
  · obtain ⟨x, k0, i0, t, rfl, ht, hk, rfl, rfl⟩ := z_al_inv h
    obtain ⟨q0, hq0⟩ := z_ids_at h0.2.2.2.1 hP.1
    have hw := z_wl_at (ad := ad) (Rf := Rf) (cA := cA) (m := m) hq0
    have hK := z_K h0 hP.1 hk
    simp only [z_cE_arr hk, z_aR, z_aT, ht] at hw hK
    refine va_aldq hx hb hK hI.1 q0 0 hw rfl hP.2 hd ?_
    rw [z_rf_cv (h0.2.2.1 k0 i0 _ ht)]
    exact kk H locs lsC cells slots hk1 hk2 hI hL
  · split at h
    · rename_i v x k0 i0 t
      cases hc : (Nat.beq (z_aty k0) 0 && Nat.ble 20 k0) with
      | false => rw [hc] at h; cases h
      | true =>
        rw [hc] at h; cases h
        rw [Bool.and_eq_true] at hc
        have ht := Nat.eq_of_beq_eq_true hc.1
        have hk := Nat.le_of_ble_eq_true hc.2
        obtain ⟨q0, hq0⟩ := z_ids_at h0.2.2.2.1 hP.1
        have hw := z_wl_at (ad := ad) (Rf := Rf) (cA := cA) (m := m) hq0
        have hK := z_K h0 hP.1 hk
        simp only [z_cE_arr hk, z_aR, z_aT, ht] at hw hK
        refine va_iast hx hb hK hI.1 hI.2.1 hI.2.2 q0 0 hw rfl hP.2 hd (fun H1 locs1 g1 g2 g3 => ?_)
        have e : (z_wl ad N Rf cA m).set q0 (ad k0 i0, .inl (cA k0 i0, z_alen k0, .inl (upd (m.1 k0 i0) x.toNatClampNeg v))) = z_wl ad N Rf cA (z_sI m k0 i0 x.toNatClampNeg v) := by
          rw [← z_wl_set hI.2.1 hq0 (z_cE_sI (j := x.toNatClampNeg) (v := v)), z_cE_arr hk]
          simp only [z_aR, ht]
          congr 5
          refine congrArg Sum.inl (funext fun j => ?_)
          simp [upd, z_sI]
        rw [e] at g1 g2
        exact kk H1 locs1 lsC cells slots hk1 hk2 ⟨g1, g2, g3⟩ hL
    · cases h
  · split at h
    · rename_i v x k0 i0 t
      cases hc : (Nat.beq (z_aty k0) 3 && Nat.ble 20 k0) with
      | false => rw [hc] at h; cases h
      | true =>
        rw [hc] at h; cases h
        rw [Bool.and_eq_true] at hc
        have ht := Nat.eq_of_beq_eq_true hc.1
        have hk := Nat.le_of_ble_eq_true hc.2
        obtain ⟨q0, hq0⟩ := z_ids_at h0.2.2.2.1 hP.1
        have hw := z_wl_at (ad := ad) (Rf := Rf) (cA := cA) (m := m) hq0
        have hK := z_K h0 hP.1 hk
        simp only [z_cE_arr hk, z_aR, z_aT, ht] at hw hK
        refine va_cast hx hb hK hI.1 hI.2.1 hI.2.2 q0 0 hw rfl hP.2 hd (fun H1 locs1 g1 g2 g3 => ?_)
        have e : (z_wl ad N Rf cA m).set q0 (ad k0 i0, .inl (cA k0 i0, z_alen k0, .inl (upd (m.1 k0 i0) x.toNatClampNeg (vp_nar .char v)))) = z_wl ad N Rf cA (z_sI m k0 i0 x.toNatClampNeg (vp_nar .char v)) := by
          rw [← z_wl_set hI.2.1 hq0 (z_cE_sI (j := x.toNatClampNeg) (v := vp_nar .char v)), z_cE_arr hk]
          simp only [z_aR, ht]
          congr 5
          refine congrArg Sum.inl (funext fun j => ?_)
          simp [upd, z_sI]
        rw [e] at g1 g2
        exact kk H1 locs1 lsC cells slots hk1 hk2 ⟨g1, g2, g3⟩ hL
    · cases h
  · split at h
    · rename_i v x k0 i0 t
      cases hc : (Nat.beq (z_aty k0) 1 && Nat.ble 20 k0) with
      | false => rw [hc] at h; cases h
      | true =>
        rw [hc] at h; cases h
        rw [Bool.and_eq_true] at hc
        have ht := Nat.eq_of_beq_eq_true hc.1
        have hk := Nat.le_of_ble_eq_true hc.2
        obtain ⟨q0, hq0⟩ := z_ids_at h0.2.2.2.1 hP.1
        have hw := z_wl_at (ad := ad) (Rf := Rf) (cA := cA) (m := m) hq0
        have hK := z_K h0 hP.1 hk
        simp only [z_cE_arr hk, z_aR, z_aT, ht] at hw hK
        refine va_last hx hb hK hI.1 hI.2.1 hI.2.2 q0 0 hw rfl hP.2 hd (fun H1 locs1 g1 g2 g3 => ?_)
        have e : (z_wl ad N Rf cA m).set q0 (ad k0 i0, .inl (cA k0 i0, z_alen k0, .inr (.inl (vp_updL (m.2.1 k0 i0) x.toNatClampNeg v)))) = z_wl ad N Rf cA (z_sL m k0 i0 x.toNatClampNeg v) := by
          rw [← z_wl_set hI.2.1 hq0 (z_cE_sL (j := x.toNatClampNeg) (v := v)), z_cE_arr hk]
          simp only [z_aR, ht]
          congr 6
          refine congrArg Sum.inl (funext fun j => ?_)
          simp [vp_updL, z_sL]
        rw [e] at g1 g2
        exact kk H1 locs1 lsC cells slots hk1 hk2 ⟨g1, g2, g3⟩ hL
    · cases h
  · split at h
    · rename_i v x k0 i0 t
      cases hc : (Nat.beq (z_aty k0) 2 && Nat.ble 20 k0) with
      | false => rw [hc] at h; cases h
      | true =>
        rw [hc] at h; cases h
        rw [Bool.and_eq_true] at hc
        have ht := Nat.eq_of_beq_eq_true hc.1
        have hk := Nat.le_of_ble_eq_true hc.2
        obtain ⟨q0, hq0⟩ := z_ids_at h0.2.2.2.1 hP.1
        have hw := z_wl_at (ad := ad) (Rf := Rf) (cA := cA) (m := m) hq0
        have hK := z_K h0 hP.1 hk
        simp only [z_cE_arr hk, z_aR, z_aT, ht] at hw hK
        refine va_dast hx hb hK hI.1 hI.2.1 hI.2.2 q0 0 hw rfl hP.2 hd (fun H1 locs1 g1 g2 g3 => ?_)
        have e : (z_wl ad N Rf cA m).set q0 (ad k0 i0, .inl (cA k0 i0, z_alen k0, .inr (.inr (.inr (.inl (vf_upd (m.2.2 k0 i0) x.toNatClampNeg v)))))) = z_wl ad N Rf cA (z_sD m k0 i0 x.toNatClampNeg v) := by
          rw [← z_wl_set hI.2.1 hq0 (z_cE_sD (j := x.toNatClampNeg) (v := v)), z_cE_arr hk]
          simp only [z_aR, ht]
          congr 8
          refine congrArg Sum.inl (funext fun j => ?_)
          simp [vf_upd, z_sD]
        rw [e] at g1 g2
        exact kk H1 locs1 lsC cells slots hk1 hk2 ⟨g1, g2, g3⟩ hL
    · cases h
  · cases h
end
