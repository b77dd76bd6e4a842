/-! Flows: an outlet flows to no cell. -/
noncomputable def zG.fd (a : zG) (c : Nat) : Option Nat := if a.ou c = true then none else a.dr c 4
noncomputable def zG.am (a : zG) (c : Nat) : Nat := if a.ou c = true then 0 else a.nc c 4
noncomputable def zG.to (a : zG) (c : Nat) : Option Nat := (a.fd c).bind (a.nb c)
def zFw (a : zG) (c : Nat) (m : zM) : Prop := m.1 20 37 c = zo (a.fd c) ∧ m.1 20 38 c = Int32.ofNat (a.am c) ∧ m.1 20 39 c = zo (a.to c)
section
variable {a : zG} {g : Nat}
theorem s_choose (v : zGV a) (hg : g < 11) {c : Nat} (hc : c < a.n) {m : zM} (r : zGR m g a) (hq : zFq a m) : ∃ m', f_X3_choose g (Int32.ofNat c) m = some m' ∧ zFr (fun k i j => zPc k i j ∧ j = c) m m' ∧ zFw a c m' := by
  have n64 := v.n64
  have hc' : c < 64 := by omega
  unfold f_X3_choose
  rw [s_put 20 37 hc', Option.bind_some, s_put 20 38 hc', Option.bind_some, s_put 20 39 hc', Option.bind_some]
  have f1 : zFr (fun k i j => zPc k i j ∧ j = c) m (z_sI (z_sI (z_sI m 20 37 c (-1)) 20 38 c 0) 20 39 c (-1)) :=
    zFr.sI (zFr.sI (zFr.sI (zFr.refl m) _ ⟨⟨rfl, .inl rfl⟩, rfl⟩) _ ⟨⟨rfl, .inr (.inl rfl)⟩, rfl⟩) _ ⟨⟨rfl, .inr (.inr rfl)⟩, rfl⟩
  have f2 := f1.mono (Q := zPc) fun k i j w => w.1
  have r1 : zGR (z_sI (z_sI (z_sI m 20 37 c (-1)) 20 38 c 0) 20 39 c (-1)) g a := r.keep f2 fun k i j w => by unfold zGp at w; unfold zPc; omega
  have hq1 := hq.keep f2
  have e37 : (z_sI (z_sI (z_sI m 20 37 c (-1)) 20 38 c 0) 20 39 c (-1)).1 20 37 c = -1 := by
    rw [zm_I, if_neg (by omega), zm_I, if_neg (by omega), zm_I, if_pos ⟨rfl, rfl, rfl⟩]
  have e38 : (z_sI (z_sI (z_sI m 20 37 c (-1)) 20 38 c 0) 20 39 c (-1)).1 20 38 c = 0 := by
    rw [zm_I, if_neg (by omega), zm_I, if_pos ⟨rfl, rfl, rfl⟩]
  have e39 : (z_sI (z_sI (z_sI m 20 37 c (-1)) 20 38 c 0) 20 39 c (-1)).1 20 39 c = -1 := by
    rw [zm_I, if_pos ⟨rfl, rfl, rfl⟩]
  rw [s_outlet v r1 hc, Option.bind_some]
  by_cases ho : a.ou c = true
  · rw [ho, if_neg (by decide)]
    refine ⟨_, rfl, f1, ?_⟩
    unfold zFw zG.to zG.fd zG.am
    rw [if_pos ho, if_pos ho]
    exact ⟨e37, e38, e39⟩
  · have ho' : a.ou c = false := by cases q : a.ou c <;> simp_all
    rw [ho', if_pos (by decide), s_la v r1 hq1.1 hc, Option.bind_some]
    obtain ⟨m', p1, p2, p3⟩ := s_ch_47 v hg hc zF 0 _ (Nat.zero_le _) (Nat.lt_of_lt_of_le (by omega : 4 - 0 < 5) (zF_ge (by decide))) r1 hq1 ⟨e37, e38, e39⟩
    refine ⟨m', p1, f1.trans p2, ?_⟩
    unfold zFw zG.to zG.fd zG.am
    rw [if_neg ho, if_neg ho]
    exact p3
end
