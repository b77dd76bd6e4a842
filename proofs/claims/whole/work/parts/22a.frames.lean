abbrev p_J7_fill_53178 (k0 i0 : Nat) (k i j : Nat) : Prop := (k = k0 ∧ i = i0)
theorem q_J7_fill_53178_5 (k0 i0 : Nat) (m0 : zM) : ∀ (j : Nat) (x1 : Int32) (x2 : Int32) (x3 : Int32) (m : zM), zFr (p_J7_fill_53178 k0 i0) m0 m → zFK (p_J7_fill_53178 k0 i0) m0 (f_J7_fill_53178_5 k0 i0 j x1 x2 x3 m) id := by
  intro j
  induction j with
  | zero =>
    intro _ _ _ _ _
    exact zq_none
  | succ j ih =>
    intro x1 x2 x3 m hm
    unfold f_J7_fill_53178_5
    refine zq_if ?_ ?_
    · exact zq_some (hm)
    · refine zq_gd ?_
      exact ih x1 (x2 + (1 : Int32)) x3 (z_sI m k0 i0 (Int32.toNatClampNeg x2) x1) (zFr.sI (hm) _ ⟨rfl, rfl⟩)
theorem q_J7_fill_53178 (k0 i0 : Nat) (x1 : Int32) (m : zM) : zFK (p_J7_fill_53178 k0 i0) m (f_J7_fill_53178 k0 i0 x1 m) id := by
  unfold f_J7_fill_53178
  exact q_J7_fill_53178_5 k0 i0 m zF x1 (0 : Int32) (Int32.ofNat (z_alen k0)) m (zFr.refl m)
abbrev p_X7_put (k0 i0 : Nat) (k i j : Nat) : Prop := (k = k0 ∧ i = i0)
theorem q_X7_put (k0 i0 : Nat) (x1 : Int32) (x2 : Int32) (m : zM) : zFK (p_X7_put k0 i0) m (f_X7_put k0 i0 x1 x2 m) id := by
  unfold f_X7_put
  refine zq_if ?_ ?_
  · exact zq_some (zFr.refl m)
  · refine zq_if ?_ ?_
    · exact zq_some (zFr.refl m)
    · refine zq_gd ?_
      exact zq_some (zFr.sI (zFr.refl m) _ ⟨rfl, rfl⟩)
abbrev p_X7_put_ (k0 i0 : Nat) (k i j : Nat) : Prop := (k = k0 ∧ i = i0)
theorem q_X7_put_ (k0 i0 : Nat) (x1 : Int32) (x2 : Int64) (m : zM) : zFK (p_X7_put_ k0 i0) m (f_X7_put_ k0 i0 x1 x2 m) id := by
  unfold f_X7_put_
  refine zq_if ?_ ?_
  · exact zq_some (zFr.refl m)
  · refine zq_if ?_ ?_
    · exact zq_some (zFr.refl m)
    · refine zq_gd ?_
      exact zq_some (zFr.sL (zFr.refl m) _ ⟨rfl, rfl⟩)
abbrev p_X7_add (k0 i0 : Nat) (k i j : Nat) : Prop := (k = k0 ∧ i = i0)
theorem q_X7_add (k0 i0 : Nat) (x1 : Int32) (x2 : Int32) (m : zM) : zFK (p_X7_add k0 i0) m (f_X7_add k0 i0 x1 x2 m) id := by
  unfold f_X7_add
  refine zq_if ?_ ?_
  · exact zq_some (zFr.refl m)
  · refine zq_if ?_ ?_
    · exact zq_some (zFr.refl m)
    · refine zq_gd ?_
      exact zq_some (zFr.sI (zFr.refl m) _ ⟨rfl, rfl⟩)
abbrev p_X7_copy (k0 i0 : Nat) (k1 i1 : Nat) (k i j : Nat) : Prop := (k = k1 ∧ i = i1)
theorem q_X7_copy_2 (k0 i0 : Nat) (k1 i1 : Nat) (m0 : zM) : ∀ (j : Nat) (x2 : Int32) (m : zM), zFr (p_X7_copy k0 i0 k1 i1) m0 m → zFK (p_X7_copy k0 i0 k1 i1) m0 (f_X7_copy_2 k0 i0 k1 i1 j x2 m) id := by
  intro j
  induction j with
  | zero =>
    intro _ _ _
    exact zq_none
  | succ j ih =>
    intro x2 m hm
    unfold f_X7_copy_2
    refine zq_if ?_ ?_
    · exact zq_some (hm)
    · refine zq_if ?_ ?_
      · exact zq_some (hm)
      · refine zq_gd ?_
        refine zq_gd ?_
        exact ih (x2 + (1 : Int32)) (z_sI m k1 i1 (Int32.toNatClampNeg x2) (m.1 k0 i0 (Int32.toNatClampNeg x2))) (zFr.sI (hm) _ ⟨rfl, rfl⟩)
theorem q_X7_copy (k0 i0 : Nat) (k1 i1 : Nat) (m : zM) : zFK (p_X7_copy k0 i0 k1 i1) m (f_X7_copy k0 i0 k1 i1 m) id := by
  unfold f_X7_copy
  exact q_X7_copy_2 k0 i0 k1 i1 m zF (0 : Int32) m (zFr.refl m)
abbrev p_X4_markOutlet (g0 : Nat) (k i j : Nat) : Prop := (k = 6 ∧ i = g0 ∧ j = 3)
theorem q_X4_markOutlet_28 (g0 : Nat) (m0 : zM) (s1 : Int64) (m : zM) (hm : zFr (p_X4_markOutlet g0) m0 m) : zFK (p_X4_markOutlet g0) m0 (f_X4_markOutlet_28 g0 s1 m) id := by
  unfold f_X4_markOutlet_28
  exact zq_some (zFr.sL (hm) _ ⟨rfl, rfl, rfl⟩)
theorem q_X4_markOutlet (g0 : Nat) (x1 : Int32) (x2 : Int32) (m : zM) : zFK (p_X4_markOutlet g0) m (f_X4_markOutlet g0 x1 x2 m) id := by
  unfold f_X4_markOutlet
  refine zq_if ?_ ?_
  · exact q_X4_markOutlet_28 g0 m ((m.2.1 6 g0 3) &&& ((z_shl (1 : Int64) x1) ^^^ (-1 : Int64))) m (zFr.refl m)
  · exact q_X4_markOutlet_28 g0 m ((m.2.1 6 g0 3) ||| (z_shl (1 : Int64) x1)) m (zFr.refl m)
abbrev p_X9_add (k i j : Nat) : Prop := (k = 34 ∧ i = 0) ∨ (k = 10 ∧ i = 0 ∧ j = 1)
theorem q_X9_add (x1 : Int32) (m : zM) : zFK (p_X9_add) m (f_X9_add x1 m) id := by
  unfold f_X9_add
  refine zq_if ?_ ?_
  · exact zq_some (zFr.refl m)
  · refine zq_if ?_ ?_
    · exact zq_some (zFr.refl m)
    · refine zq_gd ?_
      exact zq_some (zFr.sI (zFr.sI (zFr.refl m) _ (Or.inl ⟨rfl, rfl⟩)) _ (Or.inr ⟨rfl, rfl, rfl⟩))
abbrev p_X11_errorPosition (k i j : Nat) : Prop := False
theorem q_X11_errorPosition (m : zM) : zFK (p_X11_errorPosition) m (f_X11_errorPosition m) (fun a => a.2) := by
  unfold f_X11_errorPosition
  refine zq_if ?_ ?_
  · exact zq_some (zFr.refl m)
  · exact zq_some (zFr.refl m)
abbrev p_X11_requireRange (k i j : Nat) : Prop := False
theorem q_X11_requireRange (x0 : Int32) (x1 : Int32) (x2 : Int32) (m : zM) : zFK (p_X11_requireRange) m (f_X11_requireRange x0 x1 x2 m) (fun a => a.2) := by
  unfold f_X11_requireRange
  refine zq_if ?_ ?_
  · exact zq_some (zFr.refl m)
  · refine zq_if ?_ ?_
    · exact zq_some (zFr.refl m)
    · exact zq_some (zFr.refl m)
abbrev p_X12_raises (k i j : Nat) : Prop := (k = 13 ∧ i = 0 ∧ j = 0)
theorem q_X12_raises (x1 : Int32) (m : zM) : zFK (p_X12_raises) m (f_X12_raises x1 m) (fun a => a.2) := by
  unfold f_X12_raises
  exact zq_some (zFr.sI (zFr.refl m) _ ⟨rfl, rfl, rfl⟩)
abbrev p_X12_lays (k i j : Nat) : Prop := (k = 23 ∧ i = 0)
theorem q_X12_lays_71 (m0 : zM) (c16 : Int32 → zM → Option (zM)) (hc16 : ∀ (x3 : Int32) (m : zM), zFr (p_X12_lays) m0 m → zFK (p_X12_lays) m0 (c16 x3 m) id) (x3 : Int32) (s1 : Int32) (s2 : Int32) (m : zM) (hm : zFr (p_X12_lays) m0 m) : zFK (p_X12_lays) m0 (f_X12_lays_71 c16 x3 s1 s2 m) id := by
  unfold f_X12_lays_71
  refine zq_gd ?_
  exact hc16 (x3 + (1 : Int32)) (z_sI m 23 0 (Int32.toNatClampNeg s1) s2) (zFr.sI (hm) _ ⟨rfl, rfl⟩)
theorem q_X12_lays_16 (m0 : zM) : ∀ (j : Nat) (x3 : Int32) (m : zM), zFr (p_X12_lays) m0 m → zFK (p_X12_lays) m0 (f_X12_lays_16 j x3 m) id := by
  intro j
  induction j with
  | zero =>
    intro _ _ _
    exact zq_none
  | succ j ih =>
    intro x3 m hm
    unfold f_X12_lays_16
    refine zq_if ?_ ?_
    · exact zq_some (hm)
    · refine zq_gd ?_
      refine zq_gd ?_
      refine zq_gd ?_
      refine zq_if ?_ ?_
      · exact q_X12_lays_71 m0 (f_X12_lays_16 j) ih x3 ((195 : Int32) + x3) (1 : Int32) (z_sI (z_sI (z_sI m 23 0 (Int32.toNatClampNeg ((3 : Int32) + x3)) (50 : Int32)) 23 0 (Int32.toNatClampNeg ((67 : Int32) + x3)) (1 : Int32)) 23 0 (Int32.toNatClampNeg ((131 : Int32) + x3)) (0 : Int32)) (zFr.sI (zFr.sI (zFr.sI (hm) _ ⟨rfl, rfl⟩) _ ⟨rfl, rfl⟩) _ ⟨rfl, rfl⟩)
      · exact q_X12_lays_71 m0 (f_X12_lays_16 j) ih x3 ((195 : Int32) + x3) (0 : Int32) (z_sI (z_sI (z_sI m 23 0 (Int32.toNatClampNeg ((3 : Int32) + x3)) (50 : Int32)) 23 0 (Int32.toNatClampNeg ((67 : Int32) + x3)) (1 : Int32)) 23 0 (Int32.toNatClampNeg ((131 : Int32) + x3)) (0 : Int32)) (zFr.sI (zFr.sI (zFr.sI (hm) _ ⟨rfl, rfl⟩) _ ⟨rfl, rfl⟩) _ ⟨rfl, rfl⟩)
theorem q_X12_lays (x1 : Int32) (x2 : Int32) (m : zM) : zFK (p_X12_lays) m (f_X12_lays x1 x2 m) id := by
  unfold f_X12_lays
  refine zq_gd ?_
  refine zq_gd ?_
  exact q_X12_lays_16 m zF (0 : Int32) (z_sI (z_sI m 23 0 (Int32.toNatClampNeg (0 : Int32)) x1) 23 0 (Int32.toNatClampNeg (1 : Int32)) x2) (zFr.sI (zFr.sI (zFr.refl m) _ ⟨rfl, rfl⟩) _ ⟨rfl, rfl⟩)
abbrev p_X12_changes (k i j : Nat) : Prop := (k = 13 ∧ i = 0 ∧ j = 3) ∨ (k = 24 ∧ i = 0)
theorem q_X12_changes_52 (m0 : zM) : ∀ (j : Nat) (x1 : Int32) (m : zM), zFr (p_X12_changes) m0 m → zFK (p_X12_changes) m0 (f_X12_changes_52 j x1 m) id := by
  intro j
  induction j with
  | zero =>
    intro _ _ _
    exact zq_none
  | succ j ih =>
    intro x1 m hm
    unfold f_X12_changes_52
    refine zq_if ?_ ?_
    · exact zq_some (zFr.sI (hm) _ (Or.inl ⟨rfl, rfl, rfl⟩))
    · refine zq_gd ?_
      refine zq_gd ?_
      exact ih (x1 + (1 : Int32)) (z_sI m 24 0 (Int32.toNatClampNeg (((259 : Int32) * (m.1 13 0 3)) + x1)) (m.1 23 0 (Int32.toNatClampNeg x1))) (zFr.sI (hm) _ (Or.inr ⟨rfl, rfl⟩))
theorem q_X12_changes_50 (m0 : zM) (m : zM) (hm : zFr (p_X12_changes) m0 m) : zFK (p_X12_changes) m0 (f_X12_changes_50 m) id := by
  unfold f_X12_changes_50
  exact q_X12_changes_52 m0 zF (0 : Int32) m (hm)
theorem q_X12_changes_11 (m0 : zM) : ∀ (j : Nat) (x1 : Int32) (m : zM), zFr (p_X12_changes) m0 m → zFK (p_X12_changes) m0 (f_X12_changes_11 j x1 m) id := by
  intro j
  induction j with
  | zero =>
    intro _ _ _
    exact zq_none
  | succ j ih =>
    intro x1 m hm
    unfold f_X12_changes_11
    refine zq_if ?_ ?_
    · exact q_X12_changes_50 m0 (z_sI m 13 0 3 ((m.1 13 0 3) - (1 : Int32))) (zFr.sI (hm) _ (Or.inl ⟨rfl, rfl, rfl⟩))
    · refine zq_gd ?_
      refine zq_gd ?_
      exact ih (x1 + (1 : Int32)) (z_sI m 24 0 (Int32.toNatClampNeg x1) (m.1 24 0 (Int32.toNatClampNeg ((259 : Int32) + x1)))) (zFr.sI (hm) _ (Or.inr ⟨rfl, rfl⟩))
theorem q_X12_changes (m : zM) : zFK (p_X12_changes) m (f_X12_changes m) id := by
  unfold f_X12_changes
  refine zq_if ?_ ?_
  · exact q_X12_changes_11 m zF (0 : Int32) m (zFr.refl m)
  · exact q_X12_changes_50 m m (zFr.refl m)
abbrev p_X4_startAfresh (g0 : Nat) (k i j : Nat) : Prop := (k = 6 ∧ i = g0 ∧ j = 0) ∨ (k = 6 ∧ i = g0 ∧ j = 1) ∨ (k = 6 ∧ i = g0 ∧ j = 3) ∨ (k = 20 ∧ i = 3 * g0) ∨ (k = 20 ∧ i = 3 * g0 + 1) ∨ (k = 20 ∧ i = 3 * g0 + 2)
theorem q_X4_startAfresh (g0 : Nat) (x1 : Int32) (x2 : Int32) (m : zM) : zFK (p_X4_startAfresh g0) m (f_X4_startAfresh g0 x1 x2 m) id := by
  unfold f_X4_startAfresh
  refine zq_call (q_J7_fill_53178 20 (3 * g0) (50 : Int32) (z_sL (z_sI (z_sI m 6 g0 0 x1) 6 g0 1 x2) 6 g0 3 (1 : Int64))) (fun _ _ _ => (fun h => (Or.inr (Or.inr (Or.inr (Or.inl h)))))) (zFr.sL (zFr.sI (zFr.sI (zFr.refl m) _ (Or.inl ⟨rfl, rfl, rfl⟩)) _ (Or.inr (Or.inl ⟨rfl, rfl, rfl⟩))) _ (Or.inr (Or.inr (Or.inl ⟨rfl, rfl, rfl⟩)))) (fun r1 gr1 => ?_)
  refine zq_call (q_J7_fill_53178 20 (3 * g0 + 1) (1 : Int32) r1) (fun _ _ _ => (fun h => (Or.inr (Or.inr (Or.inr (Or.inr (Or.inl h))))))) (gr1) (fun r2 gr2 => ?_)
  refine zq_call (q_J7_fill_53178 20 (3 * g0 + 2) (0 : Int32) r2) (fun _ _ _ => (fun h => (Or.inr (Or.inr (Or.inr (Or.inr (Or.inr h))))))) (gr2) (fun r3 gr3 => ?_)
  exact zq_some (gr3)
abbrev p_X4_copyFrom (g0 : Nat) (g1 : Nat) (k i j : Nat) : Prop := (k = 6 ∧ i = g0 ∧ j = 0) ∨ (k = 6 ∧ i = g0 ∧ j = 1) ∨ (k = 6 ∧ i = g0 ∧ j = 2) ∨ (k = 6 ∧ i = g0 ∧ j = 3) ∨ (k = 20 ∧ i = 3 * g0) ∨ (k = 20 ∧ i = 3 * g0 + 1) ∨ (k = 20 ∧ i = 3 * g0 + 2)
theorem q_X4_copyFrom (g0 : Nat) (g1 : Nat) (m : zM) : zFK (p_X4_copyFrom g0 g1) m (f_X4_copyFrom g0 g1 m) id := by
  unfold f_X4_copyFrom
  refine zq_call (q_X7_copy 20 (3 * g1) 20 (3 * g0) (z_sL (z_sI (z_sI (z_sI m 6 g0 0 (m.1 6 g1 0)) 6 g0 1 ((z_sI m 6 g0 0 (m.1 6 g1 0)).1 6 g1 1)) 6 g0 2 ((z_sI (z_sI m 6 g0 0 (m.1 6 g1 0)) 6 g0 1 ((z_sI m 6 g0 0 (m.1 6 g1 0)).1 6 g1 1)).1 6 g1 2)) 6 g0 3 ((z_sI (z_sI (z_sI m 6 g0 0 (m.1 6 g1 0)) 6 g0 1 ((z_sI m 6 g0 0 (m.1 6 g1 0)).1 6 g1 1)) 6 g0 2 ((z_sI (z_sI m 6 g0 0 (m.1 6 g1 0)) 6 g0 1 ((z_sI m 6 g0 0 (m.1 6 g1 0)).1 6 g1 1)).1 6 g1 2)).2.1 6 g1 3))) (fun _ _ _ => (fun h => (Or.inr (Or.inr (Or.inr (Or.inr (Or.inl h))))))) (zFr.sL (zFr.sI (zFr.sI (zFr.sI (zFr.refl m) _ (Or.inl ⟨rfl, rfl, rfl⟩)) _ (Or.inr (Or.inl ⟨rfl, rfl, rfl⟩))) _ (Or.inr (Or.inr (Or.inl ⟨rfl, rfl, rfl⟩)))) _ (Or.inr (Or.inr (Or.inr (Or.inl ⟨rfl, rfl, rfl⟩))))) (fun r1 gr1 => ?_)
  refine zq_call (q_X7_copy 20 (3 * g1 + 1) 20 (3 * g0 + 1) r1) (fun _ _ _ => (fun h => (Or.inr (Or.inr (Or.inr (Or.inr (Or.inr (Or.inl h)))))))) (gr1) (fun r2 gr2 => ?_)
  refine zq_call (q_X7_copy 20 (3 * g1 + 2) 20 (3 * g0 + 2) r2) (fun _ _ _ => (fun h => (Or.inr (Or.inr (Or.inr (Or.inr (Or.inr (Or.inr h)))))))) (gr2) (fun r3 gr3 => ?_)
  exact zq_some (gr3)
abbrev p_X4_raiseRectangle (g0 : Nat) (k i j : Nat) : Prop := (k = 20 ∧ i = 3 * g0)
theorem q_X4_raiseRectangle_78 (g0 : Nat) (m0 : zM) (c67 : Int32 → Int32 → Int32 → Int32 → Int32 → Int32 → zM → Option (Int32 × zM)) (hc67 : ∀ (x3 : Int32) (x4 : Int32) (x5 : Int32) (x7 : Int32) (x8 : Int32) (x9 : Int32) (m : zM), zFr (p_X4_raiseRectangle g0) m0 m → zFK (p_X4_raiseRectangle g0) m0 (c67 x3 x4 x5 x7 x8 x9 m) (fun a => a.2)) : ∀ (j : Nat) (x3 : Int32) (x4 : Int32) (x5 : Int32) (x7 : Int32) (x8 : Int32) (x9 : Int32) (x10 : Int32) (m : zM), zFr (p_X4_raiseRectangle g0) m0 m → zFK (p_X4_raiseRectangle g0) m0 (f_X4_raiseRectangle_78 g0 c67 j x3 x4 x5 x7 x8 x9 x10 m) (fun a => a.2) := by
  intro j
  induction j with
  | zero =>
    intro _ _ _ _ _ _ _ _ _
    exact zq_none
  | succ j ih =>
    intro x3 x4 x5 x7 x8 x9 x10 m hm
    unfold f_X4_raiseRectangle_78
    refine zq_if ?_ ?_
    · exact hc67 x3 x4 x5 x7 x8 (x9 + (1 : Int32)) m (hm)
    · refine zq_bind (fun r2 => ?_)
      refine zq_bind (fun r3 => ?_)
      refine zq_bind (fun r4 => ?_)
      refine zq_call (q_X7_put 20 (3 * g0) ((x9 * (m.1 6 g0 0)) + x10) r4 m) (fun _ _ _ => (fun h => h)) (hm) (fun r5 gr5 => ?_)
      refine zq_if ?_ ?_
      · exact ih x3 x4 x5 x7 x8 x9 (x10 + (1 : Int32)) r5 (gr5)
      · exact ih x3 x4 x5 x7 (x8 + (1 : Int32)) x9 (x10 + (1 : Int32)) r5 (gr5)
theorem q_X4_raiseRectangle_67 (g0 : Nat) (m0 : zM) : ∀ (j : Nat) (x3 : Int32) (x4 : Int32) (x5 : Int32) (x7 : Int32) (x8 : Int32) (x9 : Int32) (m : zM), zFr (p_X4_raiseRectangle g0) m0 m → zFK (p_X4_raiseRectangle g0) m0 (f_X4_raiseRectangle_67 g0 j x3 x4 x5 x7 x8 x9 m) (fun a => a.2) := by
  intro j
  induction j with
  | zero =>
    intro _ _ _ _ _ _ _ _
    exact zq_none
  | succ j ih =>
    intro x3 x4 x5 x7 x8 x9 m hm
    unfold f_X4_raiseRectangle_67
    refine zq_if ?_ ?_
    · exact zq_some (hm)
    · exact q_X4_raiseRectangle_78 g0 m0 (f_X4_raiseRectangle_67 g0 j) ih zF x3 x4 x5 x7 x8 x9 x4 m (hm)
theorem q_X4_raiseRectangle (g0 : Nat) (x1 : Int32) (x2 : Int32) (x3 : Int32) (m : zM) : zFK (p_X4_raiseRectangle g0) m (f_X4_raiseRectangle g0 x1 x2 x3 m) (fun a => a.2) := by
  unfold f_X4_raiseRectangle
  refine zq_bind (fun r1 => ?_)
  refine zq_bind (fun r2 => ?_)
  refine zq_bind (fun r3 => ?_)
  refine zq_bind (fun r4 => ?_)
  refine zq_bind (fun r5 => ?_)
  refine zq_bind (fun r6 => ?_)
  refine zq_bind (fun r7 => ?_)
  refine zq_bind (fun r8 => ?_)
  refine zq_bind (fun r9 => ?_)
  refine zq_bind (fun r10 => ?_)
  refine zq_bind (fun r11 => ?_)
  refine zq_bind (fun r12 => ?_)
  exact q_X4_raiseRectangle_67 g0 m zF x3 r3 r6 r12 (0 : Int32) r9 m (zFr.refl m)
abbrev p_X0_keepOwn (g1 : Nat) (k i j : Nat) : Prop := (k = 20 ∧ i = 56)
theorem q_X0_keepOwn_8 (g1 : Nat) (m0 : zM) : ∀ (j : Nat) (x2 : Int32) (x3 : Int32) (x4 : Int32) (m : zM), zFr (p_X0_keepOwn g1) m0 m → zFK (p_X0_keepOwn g1) m0 (f_X0_keepOwn_8 g1 j x2 x3 x4 m) id := by
  intro j
  induction j with
  | zero =>
    intro _ _ _ _ _
    exact zq_none
  | succ j ih =>
    intro x2 x3 x4 m hm
    unfold f_X0_keepOwn_8
    refine zq_if ?_ ?_
    · exact zq_some (hm)
    · refine zq_bind (fun r2 => ?_)
      refine zq_if ?_ ?_
      · refine zq_bind (fun r4 => ?_)
        refine zq_call (q_X7_put 20 56 x4 r4 m) (fun _ _ _ => (fun h => h)) (hm) (fun r5 gr5 => ?_)
        exact ih x2 x3 (x4 + (1 : Int32)) r5 (gr5)
      · exact ih x2 x3 (x4 + (1 : Int32)) m (hm)
theorem q_X0_keepOwn (g1 : Nat) (x2 : Int32) (m : zM) : zFK (p_X0_keepOwn g1) m (f_X0_keepOwn g1 x2 m) id := by
  unfold f_X0_keepOwn
  refine zq_bind (fun r1 => ?_)
  exact q_X0_keepOwn_8 g1 m zF x2 r1 (0 : Int32) m (zFr.refl m)
abbrev p_X0_carve (g1 : Nat) (k i j : Nat) : Prop := (k = 20 ∧ i = 3 * g1)
theorem q_X0_carve_21 (g1 : Nat) (m0 : zM) : ∀ (j : Nat) (x2 : Int32) (x3 : Int32) (x4 : Int32) (m : zM), zFr (p_X0_carve g1) m0 m → zFK (p_X0_carve g1) m0 (f_X0_carve_21 g1 j x2 x3 x4 m) (fun a => a.2) := by
  intro j
  induction j with
  | zero =>
    intro _ _ _ _ _
    exact zq_none
  | succ j ih =>
    intro x2 x3 x4 m hm
    unfold f_X0_carve_21
    refine zq_if ?_ ?_
    · exact zq_some (hm)
    · refine zq_bind (fun r2 => ?_)
      refine zq_bind (fun r3 => ?_)
      refine zq_bind (fun r4 => ?_)
      refine zq_call (q_X7_put 20 (3 * g1) r2 r4 m) (fun _ _ _ => (fun h => h)) (hm) (fun r5 gr5 => ?_)
      refine zq_if ?_ ?_
      · exact ih x2 r4 (x4 + (1 : Int32)) r5 (gr5)
      · exact ih (x2 + (1 : Int32)) r4 (x4 + (1 : Int32)) r5 (gr5)
theorem q_X0_carve (g1 : Nat) (m : zM) : zFK (p_X0_carve g1) m (f_X0_carve g1 m) (fun a => a.2) := by
  unfold f_X0_carve
  refine zq_bind (fun r1 => ?_)
  refine zq_bind (fun r2 => ?_)
  exact q_X0_carve_21 g1 m zF (0 : Int32) r2 (1 : Int32) m (zFr.refl m)
abbrev p_X1_begin (k i j : Nat) : Prop := (k = 21 ∧ i = 0) ∨ (k = 21 ∧ i = 1) ∨ (k = 21 ∧ i = 2) ∨ (k = 31 ∧ i = 0) ∨ (k = 31 ∧ i = 1) ∨ (k = 3 ∧ i = 0 ∧ j = 0)
theorem q_X1_begin (x1 : Int64) (x3 : Int32) (m : zM) : zFK (p_X1_begin) m (f_X1_begin x1 x3 m) id := by
  unfold f_X1_begin
  refine zq_call (q_X7_put 21 0 (m.1 3 0 0) x3 m) (fun _ _ _ => (fun h => (Or.inl h))) (zFr.refl m) (fun r1 gr1 => ?_)
  refine zq_call (q_X7_put 21 1 (r1.1 3 0 0) x3 r1) (fun _ _ _ => (fun h => (Or.inr (Or.inl h)))) (gr1) (fun r2 gr2 => ?_)
  refine zq_call (q_X7_put 21 2 (r2.1 3 0 0) (-1 : Int32) r2) (fun _ _ _ => (fun h => (Or.inr (Or.inr (Or.inl h))))) (gr2) (fun r3 gr3 => ?_)
  refine zq_call (q_X7_put_ 31 0 (r3.1 3 0 0) x1 r3) (fun _ _ _ => (fun h => (Or.inr (Or.inr (Or.inr (Or.inl h)))))) (gr3) (fun r4 gr4 => ?_)
  refine zq_call (q_X7_put_ 31 1 (r4.1 3 0 0) x1 r4) (fun _ _ _ => (fun h => (Or.inr (Or.inr (Or.inr (Or.inr (Or.inl h))))))) (gr4) (fun r5 gr5 => ?_)
  exact zq_some (zFr.sI (gr5) _ (Or.inr (Or.inr (Or.inr (Or.inr (Or.inr ⟨rfl, rfl, rfl⟩))))))
abbrev p_X2_findDepths (g1 : Nat) (k i j : Nat) : Prop := (k = 4 ∧ i = 0 ∧ j = 5) ∨ (k = 20 ∧ i = 34)
theorem q_X2_findDepths_12 (g1 : Nat) (m0 : zM) : ∀ (j : Nat) (x2 : Int32) (x3 : Int32) (m : zM), zFr (p_X2_findDepths g1) m0 m → zFK (p_X2_findDepths g1) m0 (f_X2_findDepths_12 g1 j x2 x3 m) id := by
  intro j
  induction j with
  | zero =>
    intro _ _ _ _
    exact zq_none
  | succ j ih =>
    intro x2 x3 m hm
    unfold f_X2_findDepths_12
    refine zq_if ?_ ?_
    · exact zq_some (hm)
    · refine zq_bind (fun r2 => ?_)
      refine zq_bind (fun r3 => ?_)
      refine zq_call (q_X7_put 20 34 x3 (r2 - r3) m) (fun _ _ _ => (fun h => (Or.inr h))) (hm) (fun r4 gr4 => ?_)
      refine zq_if ?_ ?_
      · exact ih x2 (x3 + (1 : Int32)) r4 (gr4)
      · exact ih x2 (x3 + (1 : Int32)) (z_sL r4 4 0 5 ((r4.2.1 4 0 5) ||| (z_shl (1 : Int64) x3))) (zFr.sL (gr4) _ (Or.inl ⟨rfl, rfl, rfl⟩))
theorem q_X2_findDepths (g1 : Nat) (m : zM) : zFK (p_X2_findDepths g1) m (f_X2_findDepths g1 m) id := by
  unfold f_X2_findDepths
  refine zq_bind (fun r1 => ?_)
  exact q_X2_findDepths_12 g1 m zF r1 (0 : Int32) (z_sL m 4 0 5 (0 : Int64)) (zFr.sL (zFr.refl m) _ (Or.inl ⟨rfl, rfl, rfl⟩))
abbrev p_X2_numberLake (k i j : Nat) : Prop := (k = 20 ∧ i = 35)
theorem q_X2_numberLake_2 (m0 : zM) : ∀ (j : Nat) (x1 : Int64) (x3 : Int32) (m : zM), zFr (p_X2_numberLake) m0 m → zFK (p_X2_numberLake) m0 (f_X2_numberLake_2 j x1 x3 m) id := by
  intro j
  induction j with
  | zero =>
    intro _ _ _ _
    exact zq_none
  | succ j ih =>
    intro x1 x3 m hm
    unfold f_X2_numberLake_2
    refine zq_if ?_ ?_
    · exact zq_some (hm)
    · refine zq_bind (fun r2 => ?_)
      refine zq_if ?_ ?_
      · exact ih x1 (x3 + (1 : Int32)) m (hm)
      · refine zq_call (q_X7_put 20 35 x3 (m.1 4 0 4) m) (fun _ _ _ => (fun h => h)) (hm) (fun r4 gr4 => ?_)
        exact ih x1 (x3 + (1 : Int32)) r4 (gr4)
theorem q_X2_numberLake (x1 : Int64) (m : zM) : zFK (p_X2_numberLake) m (f_X2_numberLake x1 m) id := by
  unfold f_X2_numberLake
  exact q_X2_numberLake_2 m zF x1 (0 : Int32) m (zFr.refl m)
abbrev p_X3_findSequence (k i j : Nat) : Prop := (k = 20 ∧ i = 41) ∨ (k = 20 ∧ i = 40)
theorem q_X3_findSequence_83 (m0 : zM) : ∀ (j : Nat) (x1 : Int32) (x2 : Int32) (m : zM), zFr (p_X3_findSequence) m0 m → zFK (p_X3_findSequence) m0 (f_X3_findSequence_83 j x1 x2 m) id := by
  intro j
  induction j with
  | zero =>
    intro _ _ _ _
    exact zq_none
  | succ j ih =>
    intro x1 x2 m hm
    unfold f_X3_findSequence_83
    refine zq_if ?_ ?_
    · exact zq_some (hm)
    · refine zq_bind (fun r2 => ?_)
      refine zq_bind (fun r3 => ?_)
      refine zq_call (q_X7_add 20 41 r3 (-1 : Int32) m) (fun _ _ _ => (fun h => (Or.inl h))) (hm) (fun r4 gr4 => ?_)
      refine zq_if ?_ ?_
      · exact ih x1 (x2 + (1 : Int32)) r4 (gr4)
      · refine zq_bind (fun r6 => ?_)
        refine zq_if ?_ ?_
        · refine zq_call (q_X7_put 20 40 x1 r3 r4) (fun _ _ _ => (fun h => (Or.inr h))) (gr4) (fun r8 gr8 => ?_)
          exact ih (x1 + (1 : Int32)) (x2 + (1 : Int32)) r8 (gr8)
        · exact ih x1 (x2 + (1 : Int32)) r4 (gr4)
theorem q_X3_findSequence_44 (m0 : zM) : ∀ (j : Nat) (x1 : Int32) (x2 : Int32) (m : zM), zFr (p_X3_findSequence) m0 m → zFK (p_X3_findSequence) m0 (f_X3_findSequence_44 j x1 x2 m) id := by
  intro j
  induction j with
  | zero =>
    intro _ _ _ _
    exact zq_none
  | succ j ih =>
    intro x1 x2 m hm
    unfold f_X3_findSequence_44
    refine zq_if ?_ ?_
    · exact q_X3_findSequence_83 m0 zF x1 (0 : Int32) m (hm)
    · refine zq_bind (fun r2 => ?_)
      refine zq_if ?_ ?_
      · refine zq_call (q_X7_put 20 40 x1 x2 m) (fun _ _ _ => (fun h => (Or.inr h))) (hm) (fun r4 gr4 => ?_)
        exact ih (x1 + (1 : Int32)) (x2 + (1 : Int32)) r4 (gr4)
      · exact ih x1 (x2 + (1 : Int32)) m (hm)
theorem q_X3_findSequence_10 (m0 : zM) : ∀ (j : Nat) (x1 : Int32) (m : zM), zFr (p_X3_findSequence) m0 m → zFK (p_X3_findSequence) m0 (f_X3_findSequence_10 j x1 m) id := by
  intro j
  induction j with
  | zero =>
    intro _ _ _
    exact zq_none
  | succ j ih =>
    intro x1 m hm
    unfold f_X3_findSequence_10
    refine zq_if ?_ ?_
    · exact q_X3_findSequence_44 m0 zF (0 : Int32) (0 : Int32) m (hm)
    · refine zq_bind (fun r2 => ?_)
      refine zq_call (q_X7_add 20 41 r2 (1 : Int32) m) (fun _ _ _ => (fun h => (Or.inl h))) (hm) (fun r3 gr3 => ?_)
      exact ih (x1 + (1 : Int32)) r3 (gr3)
theorem q_X3_findSequence (m : zM) : zFK (p_X3_findSequence) m (f_X3_findSequence m) id := by
  unfold f_X3_findSequence
  refine zq_call (q_J7_fill_53178 20 41 (0 : Int32) m) (fun _ _ _ => (fun h => (Or.inl h))) (zFr.refl m) (fun r1 gr1 => ?_)
  exact q_X3_findSequence_10 m zF (0 : Int32) r1 (gr1)
abbrev p_X3_findMouths (k i j : Nat) : Prop := (k = 20 ∧ i = 42) ∨ (k = 20 ∧ i = 43)
theorem q_X3_findMouths_78 (m0 : zM) (c7 : Int32 → zM → Option (zM)) (hc7 : ∀ (x1 : Int32) (m : zM), zFr (p_X3_findMouths) m0 m → zFK (p_X3_findMouths) m0 (c7 x1 m) id) (x1 : Int32) (s1 : Int32) (s2 : Int32) (m : zM) (hm : zFr (p_X3_findMouths) m0 m) : zFK (p_X3_findMouths) m0 (f_X3_findMouths_78 c7 x1 s1 s2 m) id := by
  unfold f_X3_findMouths_78
  refine zq_call (q_X7_put 20 43 s1 s2 m) (fun _ _ _ => (fun h => (Or.inr h))) (hm) (fun r1 gr1 => ?_)
  exact hc7 (x1 + (-1 : Int32)) r1 (gr1)
theorem q_X3_findMouths_51 (m0 : zM) (c7 : Int32 → zM → Option (zM)) (hc7 : ∀ (x1 : Int32) (m : zM), zFr (p_X3_findMouths) m0 m → zFK (p_X3_findMouths) m0 (c7 x1 m) id) (x1 : Int32) (x2 : Int32) (x3 : Int32) (s1 : Int32) (s2 : Int32) (m : zM) (hm : zFr (p_X3_findMouths) m0 m) : zFK (p_X3_findMouths) m0 (f_X3_findMouths_51 c7 x1 x2 x3 s1 s2 m) id := by
  unfold f_X3_findMouths_51
  refine zq_call (q_X7_put 20 42 s1 s2 m) (fun _ _ _ => (fun h => (Or.inl h))) (hm) (fun r1 gr1 => ?_)
  refine zq_if ?_ ?_
  · exact q_X3_findMouths_78 m0 c7 hc7 x1 x2 (0 : Int32) r1 (gr1)
  · refine zq_bind (fun r3 => ?_)
    exact q_X3_findMouths_78 m0 c7 hc7 x1 x2 (r3 + (1 : Int32)) r1 (gr1)
theorem q_X3_findMouths_7 (m0 : zM) : ∀ (j : Nat) (x1 : Int32) (m : zM), zFr (p_X3_findMouths) m0 m → zFK (p_X3_findMouths) m0 (f_X3_findMouths_7 j x1 m) id := by
  intro j
  induction j with
  | zero =>
    intro _ _ _
    exact zq_none
  | succ j ih =>
    intro x1 m hm
    unfold f_X3_findMouths_7
    refine zq_if ?_ ?_
    · exact zq_some (hm)
    · refine zq_bind (fun r2 => ?_)
      refine zq_bind (fun r3 => ?_)
      refine zq_if ?_ ?_
      · exact q_X3_findMouths_51 m0 (f_X3_findMouths_7 j) ih x1 r2 r3 r2 r2 m (hm)
      · refine zq_bind (fun r5 => ?_)
        exact q_X3_findMouths_51 m0 (f_X3_findMouths_7 j) ih x1 r2 r3 r2 r5 m (hm)
theorem q_X3_findMouths (m : zM) : zFK (p_X3_findMouths) m (f_X3_findMouths m) id := by
  unfold f_X3_findMouths
  exact q_X3_findMouths_7 m zF ((m.1 5 0 0) - (1 : Int32)) m (zFr.refl m)
abbrev p_X8_findCells (g1 : Nat) (k i j : Nat) : Prop := (k = 9 ∧ i = 0 ∧ j = 0)
theorem q_X8_findCells_13 (g1 : Nat) (m0 : zM) : ∀ (j : Nat) (x3 : Int32) (x4 : Int32) (m : zM), zFr (p_X8_findCells g1) m0 m → zFK (p_X8_findCells g1) m0 (f_X8_findCells_13 g1 j x3 x4 m) id := by
  intro j
  induction j with
  | zero =>
    intro _ _ _ _
    exact zq_none
  | succ j ih =>
    intro x3 x4 m hm
    unfold f_X8_findCells_13
    refine zq_if ?_ ?_
    · exact zq_some (hm)
    · refine zq_bind (fun r2 => ?_)
      refine zq_if ?_ ?_
      · exact ih x3 (x4 + (1 : Int32)) m (hm)
      · exact ih x3 (x4 + (1 : Int32)) (z_sL m 9 0 0 ((m.2.1 9 0 0) ||| (z_shl (1 : Int64) x4))) (zFr.sL (hm) _ ⟨rfl, rfl, rfl⟩)
theorem q_X8_findCells (g1 : Nat) (m : zM) : zFK (p_X8_findCells g1) m (f_X8_findCells g1 m) id := by
  unfold f_X8_findCells
  refine zq_bind (fun r1 => ?_)
  exact q_X8_findCells_13 g1 m zF r1 (0 : Int32) (z_sL m 9 0 0 (0 : Int64)) (zFr.sL (zFr.refl m) _ ⟨rfl, rfl, rfl⟩)
abbrev p_X8_feed (k i j : Nat) : Prop := (k = 20 ∧ i = 49) ∨ (k = 20 ∧ i = 51) ∨ (k = 20 ∧ i = 50)
theorem q_X8_feed (x1 : Int32) (x2 : Int32) (m : zM) : zFK (p_X8_feed) m (f_X8_feed x1 x2 m) id := by
  unfold f_X8_feed
  refine zq_bind (fun r1 => ?_)
  refine zq_if ?_ ?_
  · exact zq_some (zFr.refl m)
  · refine zq_call (q_X7_add 20 49 x1 (1 : Int32) m) (fun _ _ _ => (fun h => (Or.inl h))) (zFr.refl m) (fun r3 gr3 => ?_)
    refine zq_bind (fun r4 => ?_)
    refine zq_if ?_ ?_
    · refine zq_bind (fun r6 => ?_)
      refine zq_if ?_ ?_
      · refine zq_call (q_X7_add 20 51 x1 (1 : Int32) r3) (fun _ _ _ => (fun h => (Or.inr (Or.inl h)))) (gr3) (fun r8 gr8 => ?_)
        exact zq_some (gr8)
      · exact zq_some (gr3)
    · refine zq_call (q_X7_put 20 50 x1 x2 r3) (fun _ _ _ => (fun h => (Or.inr (Or.inr h)))) (gr3) (fun r9 gr9 => ?_)
      refine zq_call (q_X7_put 20 51 x1 (1 : Int32) r9) (fun _ _ _ => (fun h => (Or.inr (Or.inl h)))) (gr9) (fun r10 gr10 => ?_)
      exact zq_some (gr10)
abbrev p_X9_carryOutCommand (g1 : Nat) (k i j : Nat) : Prop := (k = 20 ∧ i = 3 * g1) ∨ (k = 20 ∧ i = 3 * g1 + 1) ∨ (k = 20 ∧ i = 3 * g1 + 2) ∨ (k = 6 ∧ i = g1 ∧ j = 3)
theorem q_X9_carryOutCommand_112 (g1 : Nat) (m0 : zM) (s1 : Int32) (s2 : Int32) (m : zM) (hm : zFr (p_X9_carryOutCommand g1) m0 m) : zFK (p_X9_carryOutCommand g1) m0 (f_X9_carryOutCommand_112 g1 s1 s2 m) id := by
  unfold f_X9_carryOutCommand_112
  refine zq_call (q_X4_markOutlet g1 s1 s2 m) (fun _ _ _ => (fun h => (Or.inr (Or.inr (Or.inr h))))) (hm) (fun r1 gr1 => ?_)
  exact zq_some (gr1)
theorem q_X9_carryOutCommand (g1 : Nat) (m : zM) : zFK (p_X9_carryOutCommand g1) m (f_X9_carryOutCommand g1 m) id := by
  unfold f_X9_carryOutCommand
  refine zq_if ?_ ?_
  · refine zq_call (q_X7_put 20 (3 * g1) (m.1 10 0 5) (m.1 10 0 6) m) (fun _ _ _ => (fun h => (Or.inl h))) (zFr.refl m) (fun r1 gr1 => ?_)
    exact zq_some (gr1)
  refine zq_if ?_ ?_
  · refine zq_call (q_X7_put 20 (3 * g1 + 1) (m.1 10 0 5) (m.1 10 0 6) m) (fun _ _ _ => (fun h => (Or.inr (Or.inl h)))) (zFr.refl m) (fun r2 gr2 => ?_)
    exact zq_some (gr2)
  refine zq_if ?_ ?_
  · refine zq_call (q_X7_put 20 (3 * g1 + 2) (m.1 10 0 5) (m.1 10 0 6) m) (fun _ _ _ => (fun h => (Or.inr (Or.inr (Or.inl h))))) (zFr.refl m) (fun r3 gr3 => ?_)
    exact zq_some (gr3)
  · refine zq_if ?_ ?_
    · exact q_X9_carryOutCommand_112 g1 m (m.1 10 0 5) (1 : Int32) m (zFr.refl m)
    · exact q_X9_carryOutCommand_112 g1 m (m.1 10 0 5) (0 : Int32) m (zFr.refl m)
abbrev p_X9_readMark (k i j : Nat) : Prop := (k = 10 ∧ i = 0 ∧ j = 6) ∨ (k = 10 ∧ i = 0 ∧ j = 3)
theorem q_X9_readMark_38 (m0 : zM) (s1 : Int32) (m : zM) (hm : zFr (p_X9_readMark) m0 m) : zFK (p_X9_readMark) m0 (f_X9_readMark_38 s1 m) (fun a => a.2) := by
  unfold f_X9_readMark_38
  exact zq_some (zFr.sI (zFr.sI (hm) _ (Or.inl ⟨rfl, rfl, rfl⟩)) _ (Or.inr ⟨rfl, rfl, rfl⟩))
theorem q_X9_readMark_23 (m0 : zM) (m : zM) (hm : zFr (p_X9_readMark) m0 m) : zFK (p_X9_readMark) m0 (f_X9_readMark_23 m) (fun a => a.2) := by
  unfold f_X9_readMark_23
  refine zq_bind (fun r1 => ?_)
  refine zq_if ?_ ?_
  · exact q_X9_readMark_38 m0 (1 : Int32) m (hm)
  · exact q_X9_readMark_38 m0 (0 : Int32) m (hm)
theorem q_X9_readMark (m : zM) : zFK (p_X9_readMark) m (f_X9_readMark m) (fun a => a.2) := by
  unfold f_X9_readMark
  refine zq_bind (fun r1 => ?_)
  refine zq_if ?_ ?_
  · exact q_X9_readMark_23 m m (zFr.refl m)
  · refine zq_bind (fun r3 => ?_)
    refine zq_if ?_ ?_
    · exact q_X9_readMark_23 m m (zFr.refl m)
    · exact zq_some (zFr.refl m)
abbrev p_X9_readDigit (k i j : Nat) : Prop := (k = 10 ∧ i = 0 ∧ j = 3)
theorem q_X9_readDigit (m : zM) : zFK (p_X9_readDigit) m (f_X9_readDigit m) (fun a => a.2) := by
  unfold f_X9_readDigit
  refine zq_bind (fun r1 => ?_)
  exact zq_some (zFr.sI (zFr.refl m) _ ⟨rfl, rfl, rfl⟩)
abbrev p_X10_run (g1 : Nat) (k i j : Nat) : Prop := (k = 20 ∧ i = 44) ∨ (k = 20 ∧ i = 45) ∨ (k = 20 ∧ i = 46) ∨ (k = 20 ∧ i = 47)
theorem q_X10_run_10 (g1 : Nat) (m0 : zM) : ∀ (j : Nat) (x3 : Int32) (m : zM), zFr (p_X10_run g1) m0 m → zFK (p_X10_run g1) m0 (f_X10_run_10 g1 j x3 m) id := by
  intro j
  induction j with
  | zero =>
    intro _ _ _
    exact zq_none
  | succ j ih =>
    intro x3 m hm
    unfold f_X10_run_10
    refine zq_if ?_ ?_
    · exact zq_some (hm)
    · refine zq_bind (fun r2 => ?_)
      refine zq_bind (fun r3 => ?_)
      refine zq_bind (fun r4 => ?_)
      refine zq_bind (fun r5 => ?_)
      refine zq_bind (fun r6 => ?_)
      refine zq_call (q_X7_put 20 45 r2 (r3 + r4) m) (fun _ _ _ => (fun h => (Or.inr (Or.inl h)))) (hm) (fun r7 gr7 => ?_)
      refine zq_call (q_X7_put 20 46 r2 r6 r7) (fun _ _ _ => (fun h => (Or.inr (Or.inr (Or.inl h))))) (gr7) (fun r8 gr8 => ?_)
      refine zq_call (q_X7_put 20 47 r2 ((r3 + r4) - r6) r8) (fun _ _ _ => (fun h => (Or.inr (Or.inr (Or.inr h))))) (gr8) (fun r9 gr9 => ?_)
      refine zq_bind (fun r10 => ?_)
      refine zq_call (q_X7_add 20 44 r10 ((r3 + r4) - r6) r9) (fun _ _ _ => (fun h => (Or.inl h))) (gr9) (fun r11 gr11 => ?_)
      exact ih (x3 + (1 : Int32)) r11 (gr11)
theorem q_X10_run (g1 : Nat) (m : zM) : zFK (p_X10_run g1) m (f_X10_run g1 m) id := by
  unfold f_X10_run
  refine zq_call (q_J7_fill_53178 20 44 (0 : Int32) m) (fun _ _ _ => (fun h => (Or.inl h))) (zFr.refl m) (fun r1 gr1 => ?_)
  exact q_X10_run_10 g1 m zF (0 : Int32) r1 (gr1)
abbrev p_X11_append (k i j : Nat) : Prop := (k = 34 ∧ i = 0) ∨ (k = 10 ∧ i = 0 ∧ j = 1)
theorem q_X11_append (x1 : Int32) (m : zM) : zFK (p_X11_append) m (f_X11_append x1 m) (fun a => a.2) := by
  unfold f_X11_append
  refine zq_callx (q_X11_requireRange x1 (33 : Int32) (126 : Int32) m) (fun _ _ _ h => h.elim) (zFr.refl m) (fun _ _ => rfl) (fun r1 m2 gm2 => ?_)
  refine zq_if ?_ ?_
  · refine zq_call (q_X9_add x1 m2) (fun _ _ _ => (fun h => Or.elim h (fun h => (Or.inl h)) (fun h => (Or.inr h)))) (gm2) (fun r4 gr4 => ?_)
    exact zq_some (gr4)
  · exact zq_some (gm2)
abbrev p_X11_requireCell (k i j : Nat) : Prop := False
theorem q_X11_requireCell (x1 : Int32) (m : zM) : zFK (p_X11_requireCell) m (f_X11_requireCell x1 m) (fun a => a.2) := by
  unfold f_X11_requireCell
  refine zq_if ?_ ?_
  · exact zq_some (zFr.refl m)
  · refine zq_bind (fun r2 => ?_)
    refine zq_if ?_ ?_
    · exact zq_some (zFr.refl m)
    · exact zq_some (zFr.refl m)
abbrev p_X12_resize (k i j : Nat) : Prop := (k = 13 ∧ i = 0 ∧ j = 0) ∨ (k = 13 ∧ i = 0 ∧ j = 3) ∨ (k = 24 ∧ i = 0) ∨ (k = 23 ∧ i = 0)
theorem q_X12_resize_33 (m0 : zM) (m : zM) (hm : zFr (p_X12_resize) m0 m) : zFK (p_X12_resize) m0 (f_X12_resize_33 m) (fun a => a.2) := by
  unfold f_X12_resize_33
  refine zq_call (q_X12_raises (1 : Int32) m) (fun _ _ _ => (fun h => (Or.inl h))) (hm) (fun r1 gr1 => ?_)
  exact zq_some (gr1)
theorem q_X12_resize (x1 : Int32) (x2 : Int32) (m : zM) : zFK (p_X12_resize) m (f_X12_resize x1 x2 m) (fun a => a.2) := by
  unfold f_X12_resize
  refine zq_bind (fun r1 => ?_)
  refine zq_if ?_ ?_
  · exact q_X12_resize_33 m (z_sI m 13 0 0 (0 : Int32)) (zFr.sI (zFr.refl m) _ (Or.inl ⟨rfl, rfl, rfl⟩))
  · refine zq_bind (fun r3 => ?_)
    refine zq_if ?_ ?_
    · exact q_X12_resize_33 m (z_sI m 13 0 0 (0 : Int32)) (zFr.sI (zFr.refl m) _ (Or.inl ⟨rfl, rfl, rfl⟩))
    · refine zq_call (q_X12_changes (z_sI m 13 0 0 (0 : Int32))) (fun _ _ _ => (fun h => Or.elim h (fun h => (Or.inr (Or.inl h))) (fun h => (Or.inr (Or.inr (Or.inl h)))))) (zFr.sI (zFr.refl m) _ (Or.inl ⟨rfl, rfl, rfl⟩)) (fun r5 gr5 => ?_)
      refine zq_call (q_X12_lays x1 x2 r5) (fun _ _ _ => (fun h => (Or.inr (Or.inr (Or.inr h))))) (gr5) (fun r6 gr6 => ?_)
      refine zq_bind (fun r7 => ?_)
      exact zq_some (gr6)
abbrev p_X12_scatter (k i j : Nat) : Prop := (k = 13 ∧ i = 0 ∧ j = 0) ∨ (k = 13 ∧ i = 0 ∧ j = 3) ∨ (k = 24 ∧ i = 0) ∨ (k = 23 ∧ i = 0)
theorem q_X12_scatter_103 (m0 : zM) (c35 : Int32 → Int32 → Int32 → Int32 → zM → Option (Int32 × zM)) (c74 : Int32 → Int32 → Int32 → Int32 → Int32 → Int32 → zM → Option (Int32 × zM)) (hc35 : ∀ (x2 : Int32) (x3 : Int32) (x4 : Int32) (x5 : Int32) (m : zM), zFr (p_X12_scatter) m0 m → zFK (p_X12_scatter) m0 (c35 x2 x3 x4 x5 m) (fun a => a.2)) (hc74 : ∀ (x2 : Int32) (x3 : Int32) (x4 : Int32) (x5 : Int32) (x6 : Int32) (x7 : Int32) (m : zM), zFr (p_X12_scatter) m0 m → zFK (p_X12_scatter) m0 (c74 x2 x3 x4 x5 x6 x7 m) (fun a => a.2)) (x2 : Int32) (x3 : Int32) (x4 : Int32) (x5 : Int32) (x7 : Int32) (s0 : Int32) (s1 : Int32) (m : zM) (hm : zFr (p_X12_scatter) m0 m) : zFK (p_X12_scatter) m0 (f_X12_scatter_103 c35 c74 x2 x3 x4 x5 x7 s0 s1 m) (fun a => a.2) := by
  unfold f_X12_scatter_103
  exact hc74 x2 x3 x4 x5 (s0 &&& s1) (x7 + (1 : Int32)) m (hm)
theorem q_X12_scatter_74 (m0 : zM) (c35 : Int32 → Int32 → Int32 → Int32 → zM → Option (Int32 × zM)) (hc35 : ∀ (x2 : Int32) (x3 : Int32) (x4 : Int32) (x5 : Int32) (m : zM), zFr (p_X12_scatter) m0 m → zFK (p_X12_scatter) m0 (c35 x2 x3 x4 x5 m) (fun a => a.2)) : ∀ (j : Nat) (x2 : Int32) (x3 : Int32) (x4 : Int32) (x5 : Int32) (x6 : Int32) (x7 : Int32) (m : zM), zFr (p_X12_scatter) m0 m → zFK (p_X12_scatter) m0 (f_X12_scatter_74 c35 j x2 x3 x4 x5 x6 x7 m) (fun a => a.2) := by
  intro j
  induction j with
  | zero =>
    intro _ _ _ _ _ _ _ _
    exact zq_none
  | succ j ih =>
    intro x2 x3 x4 x5 x6 x7 m hm
    unfold f_X12_scatter_74
    refine zq_if ?_ ?_
    · refine zq_if ?_ ?_
      · exact hc35 x2 x3 x4 (x5 + (1 : Int32)) m (hm)
      · exact hc35 x2 x3 (x4 + (1 : Int32)) (x5 + (1 : Int32)) m (hm)
    · refine zq_bind (fun r3 => ?_)
      refine zq_bind (fun r4 => ?_)
      refine zq_if ?_ ?_
      · exact q_X12_scatter_103 m0 c35 (f_X12_scatter_74 c35 j) hc35 ih x2 x3 x4 x5 x7 x6 (0 : Int32) m (hm)
      · exact q_X12_scatter_103 m0 c35 (f_X12_scatter_74 c35 j) hc35 ih x2 x3 x4 x5 x7 x6 (1 : Int32) m (hm)
theorem q_X12_scatter_35 (m0 : zM) : ∀ (j : Nat) (x2 : Int32) (x3 : Int32) (x4 : Int32) (x5 : Int32) (m : zM), zFr (p_X12_scatter) m0 m → zFK (p_X12_scatter) m0 (f_X12_scatter_35 j x2 x3 x4 x5 m) (fun a => a.2) := by
  intro j
  induction j with
  | zero =>
    intro _ _ _ _ _ _
    exact zq_none
  | succ j ih =>
    intro x2 x3 x4 x5 m hm
    unfold f_X12_scatter_35
    refine zq_bind (fun r1 => ?_)
    refine zq_if ?_ ?_
    · exact zq_some (hm)
    · refine zq_gd ?_
      refine zq_gd ?_
      exact q_X12_scatter_74 m0 (f_X12_scatter_35 j) ih zF x2 ((x3 * (1103515245 : Int32)) + (12345 : Int32)) x4 x5 (1 : Int32) (0 : Int32) (z_sI m 23 0 (Int32.toNatClampNeg ((3 : Int32) + x5)) (z_irem (z_iushr ((x3 * (1103515245 : Int32)) + (12345 : Int32)) (16 : Int32)) x2)) (zFr.sI (hm) _ (Or.inr (Or.inr (Or.inr ⟨rfl, rfl⟩))))
theorem q_X12_scatter (x1 : Int32) (x2 : Int32) (m : zM) : zFK (p_X12_scatter) m (f_X12_scatter x1 x2 m) (fun a => a.2) := by
  unfold f_X12_scatter
  refine zq_bind (fun r1 => ?_)
  refine zq_if ?_ ?_
  · refine zq_call (q_X12_raises (1 : Int32) (z_sI m 13 0 0 (0 : Int32))) (fun _ _ _ => (fun h => (Or.inl h))) (zFr.sI (zFr.refl m) _ (Or.inl ⟨rfl, rfl, rfl⟩)) (fun r3 gr3 => ?_)
    exact zq_some (gr3)
  · refine zq_call (q_X12_changes (z_sI m 13 0 0 (0 : Int32))) (fun _ _ _ => (fun h => Or.elim h (fun h => (Or.inr (Or.inl h))) (fun h => (Or.inr (Or.inr (Or.inl h)))))) (zFr.sI (zFr.refl m) _ (Or.inl ⟨rfl, rfl, rfl⟩)) (fun r4 gr4 => ?_)
    exact q_X12_scatter_35 m zF x2 x1 (0 : Int32) (0 : Int32) r4 (gr4)
abbrev p_X12_setThreshold (k i j : Nat) : Prop := (k = 13 ∧ i = 0 ∧ j = 0) ∨ (k = 13 ∧ i = 0 ∧ j = 3) ∨ (k = 24 ∧ i = 0) ∨ (k = 23 ∧ i = 0)
theorem q_X12_setThreshold (x1 : Int32) (m : zM) : zFK (p_X12_setThreshold) m (f_X12_setThreshold x1 m) (fun a => a.2) := by
  unfold f_X12_setThreshold
  refine zq_bind (fun r1 => ?_)
  refine zq_if ?_ ?_
  · refine zq_call (q_X12_raises (1 : Int32) (z_sI m 13 0 0 (0 : Int32))) (fun _ _ _ => (fun h => (Or.inl h))) (zFr.sI (zFr.refl m) _ (Or.inl ⟨rfl, rfl, rfl⟩)) (fun r3 gr3 => ?_)
    exact zq_some (gr3)
  · refine zq_call (q_X12_changes (z_sI m 13 0 0 (0 : Int32))) (fun _ _ _ => (fun h => Or.elim h (fun h => (Or.inr (Or.inl h))) (fun h => (Or.inr (Or.inr (Or.inl h)))))) (zFr.sI (zFr.refl m) _ (Or.inl ⟨rfl, rfl, rfl⟩)) (fun r4 gr4 => ?_)
    refine zq_gd ?_
    exact zq_some (zFr.sI (gr4) _ (Or.inr (Or.inr (Or.inr ⟨rfl, rfl⟩))))
abbrev p_X12_levels (k i j : Nat) : Prop := (k = 20 ∧ i = 59)
theorem q_X12_levels_60 (m0 : zM) (c42 : Int32 → zM → Option (zM)) (c50 : Int32 → Int32 → zM → Option (zM)) (hc42 : ∀ (x1 : Int32) (m : zM), zFr (p_X12_levels) m0 m → zFK (p_X12_levels) m0 (c42 x1 m) id) (hc50 : ∀ (x1 : Int32) (x2 : Int32) (m : zM), zFr (p_X12_levels) m0 m → zFK (p_X12_levels) m0 (c50 x1 x2 m) id) : ∀ (j : Nat) (x1 : Int32) (x2 : Int32) (x3 : Int32) (m : zM), zFr (p_X12_levels) m0 m → zFK (p_X12_levels) m0 (f_X12_levels_60 c42 c50 j x1 x2 x3 m) id := by
  intro j
  induction j with
  | zero =>
    intro _ _ _ _ _
    exact zq_none
  | succ j ih =>
    intro x1 x2 x3 m hm
    unfold f_X12_levels_60
    refine zq_if ?_ ?_
    · exact hc50 x1 (x2 + (1 : Int32)) m (hm)
    · refine zq_bind (fun r2 => ?_)
      refine zq_if ?_ ?_
      · exact ih x1 x2 (x3 + (1 : Int32)) m (hm)
      · refine zq_bind (fun r4 => ?_)
        refine zq_gd ?_
        refine zq_bind (fun r6 => ?_)
        refine zq_gd ?_
        refine zq_if ?_ ?_
        · refine zq_bind (fun r9 => ?_)
          refine zq_gd ?_
          refine zq_bind (fun r11 => ?_)
          refine zq_gd ?_
          exact ih (1 : Int32) x2 (x3 + (1 : Int32)) (z_sI m 20 59 (Int32.toNatClampNeg x2) r11) (zFr.sI (hm) _ ⟨rfl, rfl⟩)
        · exact ih x1 x2 (x3 + (1 : Int32)) m (hm)
theorem q_X12_levels_50 (m0 : zM) (c42 : Int32 → zM → Option (zM)) (hc42 : ∀ (x1 : Int32) (m : zM), zFr (p_X12_levels) m0 m → zFK (p_X12_levels) m0 (c42 x1 m) id) : ∀ (j : Nat) (x1 : Int32) (x2 : Int32) (m : zM), zFr (p_X12_levels) m0 m → zFK (p_X12_levels) m0 (f_X12_levels_50 c42 j x1 x2 m) id := by
  intro j
  induction j with
  | zero =>
    intro _ _ _ _
    exact zq_none
  | succ j ih =>
    intro x1 x2 m hm
    unfold f_X12_levels_50
    refine zq_bind (fun r1 => ?_)
    refine zq_if ?_ ?_
    · exact hc42 x1 m (hm)
    · exact q_X12_levels_60 m0 c42 (f_X12_levels_50 c42 j) hc42 ih zF x1 x2 (0 : Int32) m (hm)
theorem q_X12_levels_42 (m0 : zM) : ∀ (j : Nat) (x1 : Int32) (m : zM), zFr (p_X12_levels) m0 m → zFK (p_X12_levels) m0 (f_X12_levels_42 j x1 m) id := by
  intro j
  induction j with
  | zero =>
    intro _ _ _
    exact zq_none
  | succ j ih =>
    intro x1 m hm
    unfold f_X12_levels_42
    refine zq_if ?_ ?_
    · exact zq_some (hm)
    · exact q_X12_levels_50 m0 (f_X12_levels_42 j) ih zF (0 : Int32) (0 : Int32) m (hm)
theorem q_X12_levels_33 (m0 : zM) (c2 : Int32 → zM → Option (zM)) (hc2 : ∀ (x1 : Int32) (m : zM), zFr (p_X12_levels) m0 m → zFK (p_X12_levels) m0 (c2 x1 m) id) (x1 : Int32) (s1 : Int32) (s2 : Int32) (m : zM) (hm : zFr (p_X12_levels) m0 m) : zFK (p_X12_levels) m0 (f_X12_levels_33 c2 x1 s1 s2 m) id := by
  unfold f_X12_levels_33
  refine zq_gd ?_
  exact hc2 (x1 + (1 : Int32)) (z_sI m 20 59 (Int32.toNatClampNeg s1) s2) (zFr.sI (hm) _ ⟨rfl, rfl⟩)
theorem q_X12_levels_2 (m0 : zM) : ∀ (j : Nat) (x1 : Int32) (m : zM), zFr (p_X12_levels) m0 m → zFK (p_X12_levels) m0 (f_X12_levels_2 j x1 m) id := by
  intro j
  induction j with
  | zero =>
    intro _ _ _
    exact zq_none
  | succ j ih =>
    intro x1 m hm
    unfold f_X12_levels_2
    refine zq_bind (fun r1 => ?_)
    refine zq_if ?_ ?_
    · exact q_X12_levels_42 m0 zF (1 : Int32) m (hm)
    · refine zq_bind (fun r3 => ?_)
      refine zq_if ?_ ?_
      · exact q_X12_levels_33 m0 (f_X12_levels_2 j) ih x1 x1 (1000000 : Int32) m (hm)
      · refine zq_bind (fun r5 => ?_)
        exact q_X12_levels_33 m0 (f_X12_levels_2 j) ih x1 x1 r5 m (hm)
theorem q_X12_levels (m : zM) : zFK (p_X12_levels) m (f_X12_levels m) id := by
  unfold f_X12_levels
  exact q_X12_levels_2 m zF (0 : Int32) m (zFr.refl m)
abbrev p_X12_land (k i j : Nat) : Prop := (k = 13 ∧ i = 0 ∧ j = 20) ∨ (k = 20 ∧ i = 66)
theorem q_X12_land_41 (m0 : zM) (c21 : Int32 → Int32 → Int32 → zM → Option (zM)) (hc21 : ∀ (x2 : Int32) (x3 : Int32) (x4 : Int32) (m : zM), zFr (p_X12_land) m0 m → zFK (p_X12_land) m0 (c21 x2 x3 x4 m) id) : ∀ (j : Nat) (x2 : Int32) (x3 : Int32) (x4 : Int32) (x5 : Int32) (x6 : Int32) (m : zM), zFr (p_X12_land) m0 m → zFK (p_X12_land) m0 (f_X12_land_41 c21 j x2 x3 x4 x5 x6 m) id := by
  intro j
  induction j with
  | zero =>
    intro _ _ _ _ _ _ _
    exact zq_none
  | succ j ih =>
    intro x2 x3 x4 x5 x6 m hm
    unfold f_X12_land_41
    refine zq_if ?_ ?_
    · exact hc21 x2 x3 x4 m (hm)
    · refine zq_bind (fun r2 => ?_)
      refine zq_if ?_ ?_
      · exact ih x2 x3 x4 x5 (x6 + (1 : Int32)) m (hm)
      · refine zq_if ?_ ?_
        · exact ih x2 x3 x4 x5 (x6 + (1 : Int32)) m (hm)
        · refine zq_bind (fun r5 => ?_)
          refine zq_bind (fun r6 => ?_)
          refine zq_if ?_ ?_
          · exact ih x2 x3 x4 x5 (x6 + (1 : Int32)) m (hm)
          · refine zq_gd ?_
            exact ih x2 x3 (x4 + (1 : Int32)) x5 (x6 + (1 : Int32)) (z_sI (z_sL m 13 0 20 ((m.2.1 13 0 20) ||| (z_shl (1 : Int64) r2))) 20 66 (Int32.toNatClampNeg x4) r2) (zFr.sI (zFr.sL (hm) _ (Or.inl ⟨rfl, rfl, rfl⟩)) _ (Or.inr ⟨rfl, rfl⟩))
theorem q_X12_land_21 (m0 : zM) : ∀ (j : Nat) (x2 : Int32) (x3 : Int32) (x4 : Int32) (m : zM), zFr (p_X12_land) m0 m → zFK (p_X12_land) m0 (f_X12_land_21 j x2 x3 x4 m) id := by
  intro j
  induction j with
  | zero =>
    intro _ _ _ _ _
    exact zq_none
  | succ j ih =>
    intro x2 x3 x4 m hm
    unfold f_X12_land_21
    refine zq_if ?_ ?_
    · exact zq_some (hm)
    · refine zq_gd ?_
      exact q_X12_land_41 m0 (f_X12_land_21 j) ih zF x2 x3 (x4 + (-1 : Int32)) (m.1 20 66 (Int32.toNatClampNeg (x4 + (-1 : Int32)))) (0 : Int32) m (hm)
theorem q_X12_land (x1 : Int32) (x2 : Int32) (x3 : Int32) (m : zM) : zFK (p_X12_land) m (f_X12_land x1 x2 x3 m) id := by
  unfold f_X12_land
  refine zq_gd ?_
  exact q_X12_land_21 m zF x2 x3 ((0 : Int32) + (1 : Int32)) (z_sI (z_sL m 13 0 20 (z_shl (1 : Int64) x1)) 20 66 (Int32.toNatClampNeg (0 : Int32)) x1) (zFr.sI (zFr.sL (zFr.refl m) _ (Or.inl ⟨rfl, rfl, rfl⟩)) _ (Or.inr ⟨rfl, rfl⟩))
abbrev p_X12_append (k i j : Nat) : Prop := (k = 13 ∧ i = 0 ∧ j = 0) ∨ (k = 13 ∧ i = 0 ∧ j = 8) ∨ (k = 25 ∧ i = 0)
theorem q_X12_append (x1 : Int32) (m : zM) : zFK (p_X12_append) m (f_X12_append x1 m) (fun a => a.2) := by
  unfold f_X12_append
  refine zq_bind (fun r1 => ?_)
  refine zq_if ?_ ?_
  · refine zq_call (q_X12_raises (1 : Int32) (z_sI m 13 0 0 (0 : Int32))) (fun _ _ _ => (fun h => (Or.inl h))) (zFr.sI (zFr.refl m) _ (Or.inl ⟨rfl, rfl, rfl⟩)) (fun r3 gr3 => ?_)
    exact zq_some (gr3)
  · refine zq_if ?_ ?_
    · refine zq_call (q_X12_raises (2 : Int32) (z_sI m 13 0 0 (0 : Int32))) (fun _ _ _ => (fun h => (Or.inl h))) (zFr.sI (zFr.refl m) _ (Or.inl ⟨rfl, rfl, rfl⟩)) (fun r5 gr5 => ?_)
      exact zq_some (gr5)
    · refine zq_gd ?_
      exact zq_some (zFr.sI (zFr.sI (zFr.sI (zFr.refl m) _ (Or.inl ⟨rfl, rfl, rfl⟩)) _ (Or.inr (Or.inl ⟨rfl, rfl, rfl⟩))) _ (Or.inr (Or.inr ⟨rfl, rfl⟩)))
abbrev p_X12_takes (k i j : Nat) : Prop := (k = 13 ∧ i = 0 ∧ j = 9)
theorem q_X12_takes (x1 : Int32) (m : zM) : zFK (p_X12_takes) m (f_X12_takes x1 m) (fun a => a.2) := by
  unfold f_X12_takes
  refine zq_bind (fun r1 => ?_)
  refine zq_if ?_ ?_
  · exact zq_some (zFr.sI (zFr.refl m) _ ⟨rfl, rfl, rfl⟩)
  · exact zq_some (zFr.refl m)
abbrev p_X12_number (k i j : Nat) : Prop := (k = 13 ∧ i = 0 ∧ j = 9)
theorem q_X12_number (m : zM) : zFK (p_X12_number) m (f_X12_number m) (fun a => a.2) := by
  unfold f_X12_number
  refine zq_bind (fun r1 => ?_)
  refine zq_bind (fun r2 => ?_)
  refine zq_if ?_ ?_
  · exact zq_some (zFr.refl m)
  · refine zq_gd ?_
    refine zq_if ?_ ?_
    · exact zq_some (zFr.sI (zFr.refl m) _ ⟨rfl, rfl, rfl⟩)
    · refine zq_bind (fun r6 => ?_)
      refine zq_bind (fun r7 => ?_)
      refine zq_if ?_ ?_
      · exact zq_some (zFr.sI (zFr.refl m) _ ⟨rfl, rfl, rfl⟩)
      · refine zq_gd ?_
        exact zq_some (zFr.sI (zFr.sI (zFr.refl m) _ ⟨rfl, rfl, rfl⟩) _ ⟨rfl, rfl, rfl⟩)
abbrev p_X12_faults (k i j : Nat) : Prop := (k = 13 ∧ i = 0 ∧ j = 10) ∨ (k = 13 ∧ i = 0 ∧ j = 8) ∨ (k = 13 ∧ i = 0 ∧ j = 0)
theorem q_X12_faults (m : zM) : zFK (p_X12_faults) m (f_X12_faults m) (fun a => a.2) := by
  unfold f_X12_faults
  refine zq_call (q_X12_raises (1 : Int32) (z_sI (z_sI m 13 0 10 (m.1 13 0 9)) 13 0 8 (0 : Int32))) (fun _ _ _ => (fun h => (Or.inr (Or.inr h)))) (zFr.sI (zFr.sI (zFr.refl m) _ (Or.inl ⟨rfl, rfl, rfl⟩)) _ (Or.inr (Or.inl ⟨rfl, rfl, rfl⟩))) (fun r1 gr1 => ?_)
  exact zq_some (gr1)
abbrev p_X12_errorPosition (k i j : Nat) : Prop := (k = 13 ∧ i = 0 ∧ j = 0)
theorem q_X12_errorPosition (m : zM) : zFK (p_X12_errorPosition) m (f_X12_errorPosition m) (fun a => a.2) := by
  unfold f_X12_errorPosition
  refine zq_if ?_ ?_
  · exact zq_some (zFr.sI (zFr.refl m) _ ⟨rfl, rfl, rfl⟩)
  · refine zq_call (q_X12_raises (1 : Int32) (z_sI m 13 0 0 (0 : Int32))) (fun _ _ _ => (fun h => h)) (zFr.sI (zFr.refl m) _ ⟨rfl, rfl, rfl⟩) (fun r2 gr2 => ?_)
    exact zq_some (gr2)
abbrev p_X12_undo (k i j : Nat) : Prop := (k = 13 ∧ i = 0 ∧ j = 0) ∨ (k = 13 ∧ i = 0 ∧ j = 3) ∨ (k = 23 ∧ i = 0)
theorem q_X12_undo_30 (m0 : zM) : ∀ (j : Nat) (x1 : Int32) (m : zM), zFr (p_X12_undo) m0 m → zFK (p_X12_undo) m0 (f_X12_undo_30 j x1 m) (fun a => a.2) := by
  intro j
  induction j with
  | zero =>
    intro _ _ _
    exact zq_none
  | succ j ih =>
    intro x1 m hm
    unfold f_X12_undo_30
    refine zq_if ?_ ?_
    · exact zq_some (hm)
    · refine zq_gd ?_
      refine zq_gd ?_
      exact ih (x1 + (1 : Int32)) (z_sI m 23 0 (Int32.toNatClampNeg x1) (m.1 24 0 (Int32.toNatClampNeg (((259 : Int32) * (m.1 13 0 3)) + x1)))) (zFr.sI (hm) _ (Or.inr (Or.inr ⟨rfl, rfl⟩)))
theorem q_X12_undo (m : zM) : zFK (p_X12_undo) m (f_X12_undo m) (fun a => a.2) := by
  unfold f_X12_undo
  refine zq_if ?_ ?_
  · refine zq_call (q_X12_raises (1 : Int32) (z_sI m 13 0 0 (0 : Int32))) (fun _ _ _ => (fun h => (Or.inl h))) (zFr.sI (zFr.refl m) _ (Or.inl ⟨rfl, rfl, rfl⟩)) (fun r2 gr2 => ?_)
    exact zq_some (gr2)
  · exact q_X12_undo_30 m zF (0 : Int32) (z_sI (z_sI m 13 0 0 (0 : Int32)) 13 0 3 (((z_sI m 13 0 0 (0 : Int32)).1 13 0 3) - (1 : Int32))) (zFr.sI (zFr.sI (zFr.refl m) _ (Or.inl ⟨rfl, rfl, rfl⟩)) _ (Or.inr (Or.inl ⟨rfl, rfl, rfl⟩)))
abbrev p_X12_save (k i j : Nat) : Prop := (k = 13 ∧ i = 0 ∧ j = 0) ∨ (k = 13 ∧ i = 0 ∧ j = 5) ∨ (k = 23 ∧ i = 1)
theorem q_X12_save_12 (m0 : zM) : ∀ (j : Nat) (x1 : Int32) (m : zM), zFr (p_X12_save) m0 m → zFK (p_X12_save) m0 (f_X12_save_12 j x1 m) (fun a => a.2) := by
  intro j
  induction j with
  | zero =>
    intro _ _ _
    exact zq_none
  | succ j ih =>
    intro x1 m hm
    unfold f_X12_save_12
    refine zq_if ?_ ?_
    · refine zq_bind (fun r2 => ?_)
      exact zq_some (hm)
    · refine zq_gd ?_
      exact ih (x1 + (1 : Int32)) (z_sI m 23 1 (Int32.toNatClampNeg x1) (m.1 23 0 (Int32.toNatClampNeg x1))) (zFr.sI (hm) _ (Or.inr (Or.inr ⟨rfl, rfl⟩)))
theorem q_X12_save (m : zM) : zFK (p_X12_save) m (f_X12_save m) (fun a => a.2) := by
  unfold f_X12_save
  exact q_X12_save_12 m zF (0 : Int32) (z_sI (z_sI m 13 0 0 (0 : Int32)) 13 0 5 (1 : Int32)) (zFr.sI (zFr.sI (zFr.refl m) _ (Or.inl ⟨rfl, rfl, rfl⟩)) _ (Or.inr (Or.inl ⟨rfl, rfl, rfl⟩)))
abbrev p_X12_restore (k i j : Nat) : Prop := (k = 13 ∧ i = 0 ∧ j = 0) ∨ (k = 13 ∧ i = 0 ∧ j = 3) ∨ (k = 24 ∧ i = 0) ∨ (k = 23 ∧ i = 0)
theorem q_X12_restore_24 (m0 : zM) : ∀ (j : Nat) (x1 : Int32) (m : zM), zFr (p_X12_restore) m0 m → zFK (p_X12_restore) m0 (f_X12_restore_24 j x1 m) (fun a => a.2) := by
  intro j
  induction j with
  | zero =>
    intro _ _ _
    exact zq_none
  | succ j ih =>
    intro x1 m hm
    unfold f_X12_restore_24
    refine zq_if ?_ ?_
    · refine zq_bind (fun r2 => ?_)
      exact zq_some (hm)
    · refine zq_gd ?_
      exact ih (x1 + (1 : Int32)) (z_sI m 23 0 (Int32.toNatClampNeg x1) (m.1 23 1 (Int32.toNatClampNeg x1))) (zFr.sI (hm) _ (Or.inr (Or.inr (Or.inr ⟨rfl, rfl⟩))))
theorem q_X12_restore (m : zM) : zFK (p_X12_restore) m (f_X12_restore m) (fun a => a.2) := by
  unfold f_X12_restore
  refine zq_if ?_ ?_
  · refine zq_call (q_X12_raises (1 : Int32) (z_sI m 13 0 0 (0 : Int32))) (fun _ _ _ => (fun h => (Or.inl h))) (zFr.sI (zFr.refl m) _ (Or.inl ⟨rfl, rfl, rfl⟩)) (fun r2 gr2 => ?_)
    exact zq_some (gr2)
  · refine zq_call (q_X12_changes (z_sI m 13 0 0 (0 : Int32))) (fun _ _ _ => (fun h => Or.elim h (fun h => (Or.inr (Or.inl h))) (fun h => (Or.inr (Or.inr (Or.inl h)))))) (zFr.sI (zFr.refl m) _ (Or.inl ⟨rfl, rfl, rfl⟩)) (fun r3 gr3 => ?_)
    exact q_X12_restore_24 m zF (0 : Int32) r3 (gr3)
abbrev p_L_errorPosition (k i j : Nat) : Prop := (k = 32 ∧ i = 0)
theorem q_L_errorPosition (m : zM) : zFK (p_L_errorPosition) m (f_L_errorPosition m) (fun a => a.2) := by
  unfold f_L_errorPosition
  refine zq_callh (q_X11_errorPosition m) (fun _ _ _ h => h.elim) (zFr.refl m) (fun _ _ => rfl) (fun r1 m2 gm2 => ?_)
  refine zq_gd ?_
  exact zq_some (zFr.sL (gm2) _ ⟨rfl, rfl⟩)
abbrev p_X0_improve (g1 : Nat) (k i j : Nat) : Prop := (k = 20 ∧ i = 57)
theorem q_X0_improve_63 (g1 : Nat) (m0 : zM) (x2 : Int32) (x4 : Int32) (s0 : Int32) (m : zM) (hm : zFr (p_X0_improve g1) m0 m) : zFK (p_X0_improve g1) m0 (f_X0_improve_63 g1 x2 x4 s0 m) (fun a => a.2) := by
  unfold f_X0_improve_63
  refine zq_call (q_X7_put 20 57 x2 x4 m) (fun _ _ _ => (fun h => h)) (hm) (fun r1 gr1 => ?_)
  refine zq_gd ?_
  exact zq_some (gr1)
theorem q_X0_improve_13 (g1 : Nat) (m0 : zM) : ∀ (j : Nat) (x2 : Int32) (x3 : Int32) (x4 : Int32) (x5 : Int32) (m : zM), zFr (p_X0_improve g1) m0 m → zFK (p_X0_improve g1) m0 (f_X0_improve_13 g1 j x2 x3 x4 x5 m) (fun a => a.2) := by
  intro j
  induction j with
  | zero =>
    intro _ _ _ _ _ _
    exact zq_none
  | succ j ih =>
    intro x2 x3 x4 x5 m hm
    unfold f_X0_improve_13
    refine zq_if ?_ ?_
    · refine zq_bind (fun r2 => ?_)
      refine zq_if ?_ ?_
      · exact q_X0_improve_63 g1 m0 x2 x4 (0 : Int32) m (hm)
      · exact q_X0_improve_63 g1 m0 x2 x4 (1 : Int32) m (hm)
    · refine zq_bind (fun r4 => ?_)
      refine zq_bind (fun r5 => ?_)
      refine zq_bind (fun r6 => ?_)
      exact ih x2 x3 r6 (x5 + (1 : Int32)) m (hm)
theorem q_X0_improve (g1 : Nat) (x2 : Int32) (x3 : Int32) (m : zM) : zFK (p_X0_improve g1) m (f_X0_improve g1 x2 x3 m) (fun a => a.2) := by
  unfold f_X0_improve
  refine zq_bind (fun r1 => ?_)
  exact q_X0_improve_13 g1 m zF x2 x3 r1 (0 : Int32) m (zFr.refl m)
abbrev p_X1_place (k i j : Nat) : Prop := (k = 21 ∧ i = 1) ∨ (k = 31 ∧ i = 1) ∨ (k = 21 ∧ i = 0) ∨ (k = 21 ∧ i = 2) ∨ (k = 31 ∧ i = 0) ∨ (k = 3 ∧ i = 0 ∧ j = 0)
theorem q_X1_place_84 (m0 : zM) : ∀ (j : Nat) (x1 : Int64) (x3 : Int32) (x6 : Int32) (m : zM), zFr (p_X1_place) m0 m → zFK (p_X1_place) m0 (f_X1_place_84 j x1 x3 x6 m) id := by
  intro j
  induction j with
  | zero =>
    intro _ _ _ _ _
    exact zq_none
  | succ j ih =>
    intro x1 x3 x6 m hm
    unfold f_X1_place_84
    refine zq_if ?_ ?_
    · refine zq_call (q_X1_begin x1 x3 m) (fun _ _ _ => (fun h => Or.elim h (fun h => (Or.inr (Or.inr (Or.inl h)))) (fun h => Or.elim h (fun h => (Or.inl h)) (fun h => Or.elim h (fun h => (Or.inr (Or.inr (Or.inr (Or.inl h))))) (fun h => Or.elim h (fun h => (Or.inr (Or.inr (Or.inr (Or.inr (Or.inl h)))))) (fun h => Or.elim h (fun h => (Or.inr (Or.inl h))) (fun h => (Or.inr (Or.inr (Or.inr (Or.inr (Or.inr h)))))))))))) (hm) (fun r2 gr2 => ?_)
      exact zq_some (gr2)
    · refine zq_bind (fun r3 => ?_)
      refine zq_if ?_ ?_
      · exact ih x1 x3 (x6 + (1 : Int32)) m (hm)
      · refine zq_call (q_X7_put 21 2 x6 (m.1 3 0 0) m) (fun _ _ _ => (fun h => (Or.inr (Or.inr (Or.inr (Or.inl h)))))) (hm) (fun r5 gr5 => ?_)
        exact ih x1 x3 (x6 + (1 : Int32)) r5 (gr5)
theorem q_X1_place_9 (m0 : zM) : ∀ (j : Nat) (x1 : Int64) (x3 : Int32) (x4 : Int32) (x5 : Int32) (x6 : Int32) (m : zM), zFr (p_X1_place) m0 m → zFK (p_X1_place) m0 (f_X1_place_9 j x1 x3 x4 x5 x6 m) id := by
  intro j
  induction j with
  | zero =>
    intro _ _ _ _ _ _ _
    exact zq_none
  | succ j ih =>
    intro x1 x3 x4 x5 x6 m hm
    unfold f_X1_place_9
    refine zq_if ?_ ?_
    · refine zq_if ?_ ?_
      · refine zq_call (q_X7_put 21 1 x5 x3 m) (fun _ _ _ => (fun h => (Or.inl h))) (hm) (fun r3 gr3 => ?_)
        refine zq_call (q_X7_put_ 31 1 x5 x1 r3) (fun _ _ _ => (fun h => (Or.inr (Or.inl h)))) (gr3) (fun r4 gr4 => ?_)
        exact zq_some (gr4)
      · refine zq_if ?_ ?_
        · exact zq_some (hm)
        · exact q_X1_place_84 m0 zF x1 x3 (0 : Int32) m (hm)
    · refine zq_bind (fun r6 => ?_)
      refine zq_if ?_ ?_
      · exact ih x1 x3 x4 x5 (x6 + (1 : Int32)) m (hm)
      · exact ih x1 x3 (x4 + (1 : Int32)) x6 (x6 + (1 : Int32)) m (hm)
theorem q_X1_place (x1 : Int64) (x3 : Int32) (m : zM) : zFK (p_X1_place) m (f_X1_place x1 x3 m) id := by
  unfold f_X1_place
  exact q_X1_place_9 m zF x1 x3 (0 : Int32) (-1 : Int32) (0 : Int32) m (zFr.refl m)
abbrev p_X2_findLevels (g1 : Nat) (k i j : Nat) : Prop := (k = 20 ∧ i = 33)
theorem q_X2_findLevels_40 (g1 : Nat) (m0 : zM) (c10 : Int32 → Int64 → Int32 → zM → Option (zM)) (hc10 : ∀ (x2 : Int32) (x3 : Int64) (x5 : Int32) (m : zM), zFr (p_X2_findLevels g1) m0 m → zFK (p_X2_findLevels g1) m0 (c10 x2 x3 x5 m) id) : ∀ (j : Nat) (x2 : Int32) (x3 : Int64) (x5 : Int32) (x6 : Int64) (x8 : Int32) (m : zM), zFr (p_X2_findLevels g1) m0 m → zFK (p_X2_findLevels g1) m0 (f_X2_findLevels_40 g1 c10 j x2 x3 x5 x6 x8 m) id := by
  intro j
  induction j with
  | zero =>
    intro _ _ _ _ _ _ _
    exact zq_none
  | succ j ih =>
    intro x2 x3 x5 x6 x8 m hm
    unfold f_X2_findLevels_40
    refine zq_if ?_ ?_
    · exact hc10 x2 x3 (x5 + (1 : Int32)) m (hm)
    · refine zq_if ?_ ?_
      · exact hc10 x2 x3 (x5 + (1 : Int32)) m (hm)
      · refine zq_bind (fun r3 => ?_)
        refine zq_if ?_ ?_
        · exact ih x2 x3 x5 x6 (x8 + (1 : Int32)) m (hm)
        · refine zq_call (q_X7_put 20 33 x8 x5 m) (fun _ _ _ => (fun h => h)) (hm) (fun r5 gr5 => ?_)
          exact ih x2 x3 x5 x6 (x8 + (1 : Int32)) r5 (gr5)
theorem q_X2_findLevels_10 (g1 : Nat) (m0 : zM) : ∀ (j : Nat) (x2 : Int32) (x3 : Int64) (x5 : Int32) (m : zM), zFr (p_X2_findLevels g1) m0 m → zFK (p_X2_findLevels g1) m0 (f_X2_findLevels_10 g1 j x2 x3 x5 m) id := by
  intro j
  induction j with
  | zero =>
    intro _ _ _ _ _
    exact zq_none
  | succ j ih =>
    intro x2 x3 x5 m hm
    unfold f_X2_findLevels_10
    refine zq_if ?_ ?_
    · exact zq_some (hm)
    · refine zq_bind (fun r2 => ?_)
      refine zq_bind (fun r3 => ?_)
      exact q_X2_findLevels_40 g1 m0 (f_X2_findLevels_10 g1 j) ih zF x2 r3 x5 x3 (0 : Int32) m (hm)
theorem q_X2_findLevels (g1 : Nat) (m : zM) : zFK (p_X2_findLevels g1) m (f_X2_findLevels g1 m) id := by
  unfold f_X2_findLevels
  refine zq_bind (fun r1 => ?_)
  exact q_X2_findLevels_10 g1 m zF r1 (0 : Int64) (0 : Int32) m (zFr.refl m)
abbrev p_X2_findLakes (g1 : Nat) (k i j : Nat) : Prop := (k = 20 ∧ i = 35) ∨ (k = 4 ∧ i = 0 ∧ j = 4) ∨ (k = 30 ∧ i = 0)
theorem q_X2_findLakes_20 (g1 : Nat) (m0 : zM) : ∀ (j : Nat) (x2 : Int32) (x3 : Int32) (m : zM), zFr (p_X2_findLakes g1) m0 m → zFK (p_X2_findLakes g1) m0 (f_X2_findLakes_20 g1 j x2 x3 m) id := by
  intro j
  induction j with
  | zero =>
    intro _ _ _ _
    exact zq_none
  | succ j ih =>
    intro x2 x3 m hm
    unfold f_X2_findLakes_20
    refine zq_if ?_ ?_
    · exact zq_some (hm)
    · refine zq_bind (fun r2 => ?_)
      refine zq_if ?_ ?_
      · exact ih x2 (x3 + (1 : Int32)) m (hm)
      · refine zq_bind (fun r4 => ?_)
        refine zq_if ?_ ?_
        · refine zq_bind (fun r6 => ?_)
          refine zq_bind (fun r7 => ?_)
          refine zq_bind (fun r8 => ?_)
          refine zq_call (q_X7_put_ 30 0 (m.1 4 0 4) r8 m) (fun _ _ _ => (fun h => (Or.inr (Or.inr h)))) (hm) (fun r9 gr9 => ?_)
          refine zq_call (q_X2_numberLake r8 r9) (fun _ _ _ => (fun h => (Or.inl h))) (gr9) (fun r10 gr10 => ?_)
          exact ih x2 (x3 + (1 : Int32)) (z_sI r10 4 0 4 ((r10.1 4 0 4) + (1 : Int32))) (zFr.sI (gr10) _ (Or.inr (Or.inl ⟨rfl, rfl, rfl⟩)))
        · exact ih x2 (x3 + (1 : Int32)) m (hm)
theorem q_X2_findLakes (g1 : Nat) (m : zM) : zFK (p_X2_findLakes g1) m (f_X2_findLakes g1 m) id := by
  unfold f_X2_findLakes
  refine zq_call (q_J7_fill_53178 20 35 (-1 : Int32) m) (fun _ _ _ => (fun h => (Or.inl h))) (zFr.refl m) (fun r1 gr1 => ?_)
  refine zq_bind (fun r2 => ?_)
  exact q_X2_findLakes_20 g1 m zF r2 (0 : Int32) (z_sI r1 4 0 4 (0 : Int32)) (zFr.sI (gr1) _ (Or.inr (Or.inl ⟨rfl, rfl, rfl⟩)))
abbrev p_X5_remember (g1 : Nat) (k i j : Nat) : Prop := (k = 7 ∧ i = 0 ∧ j = 1) ∨ (k = 6 ∧ i < 11 ∧ j = 0) ∨ (k = 6 ∧ i < 11 ∧ j = 1) ∨ (k = 6 ∧ i < 11 ∧ j = 2) ∨ (k = 6 ∧ i < 11 ∧ j = 3) ∨ (k = 20 ∧ i < 33) ∨ (k = 7 ∧ i = 0 ∧ j = 2)
theorem q_X5_remember_39 (g1 : Nat) (m0 : zM) (m : zM) (hm : zFr (p_X5_remember g1) m0 m) : zFK (p_X5_remember g1) m0 (f_X5_remember_39 g1 m) id := by
  unfold f_X5_remember_39
  refine zq_bind (fun r1 => ?_)
  exact zq_some (zFr.sI (hm) _ (Or.inr (Or.inr (Or.inr (Or.inr (Or.inr (Or.inr ⟨rfl, rfl, rfl⟩)))))))
theorem q_X5_remember_22 (g1 : Nat) (m0 : zM) (s1 : Int32) (m : zM) (hm : zFr (p_X5_remember g1) m0 m) : zFK (p_X5_remember g1) m0 (f_X5_remember_22 g1 s1 m) id := by
  unfold f_X5_remember_22
  refine zq_oq (fun r1 => ?_)
  refine zq_gdh (fun er1 => ?_)
  refine zq_call (q_X4_copyFrom r1 g1 (z_sI m 7 0 1 s1)) (fun _ _ _ => (fun h => Or.elim h (fun h => (Or.inr (Or.inl ⟨h.1, by have := h.2; have := z_lt11 er1; omega, h.2.2⟩))) (fun h => Or.elim h (fun h => (Or.inr (Or.inr (Or.inl ⟨h.1, by have := h.2; have := z_lt11 er1; omega, h.2.2⟩)))) (fun h => Or.elim h (fun h => (Or.inr (Or.inr (Or.inr (Or.inl ⟨h.1, by have := h.2; have := z_lt11 er1; omega, h.2.2⟩))))) (fun h => Or.elim h (fun h => (Or.inr (Or.inr (Or.inr (Or.inr (Or.inl ⟨h.1, by have := h.2; have := z_lt11 er1; omega, h.2.2⟩)))))) (fun h => Or.elim h (fun h => (Or.inr (Or.inr (Or.inr (Or.inr (Or.inr (Or.inl ⟨h.1, by have := h.2; have := z_lt11 er1; omega⟩))))))) (fun h => Or.elim h (fun h => (Or.inr (Or.inr (Or.inr (Or.inr (Or.inr (Or.inl ⟨h.1, by have := h.2; have := z_lt11 er1; omega⟩))))))) (fun h => (Or.inr (Or.inr (Or.inr (Or.inr (Or.inr (Or.inl ⟨h.1, by have := h.2; have := z_lt11 er1; omega⟩)))))))))))))) (zFr.sI (hm) _ (Or.inl ⟨rfl, rfl, rfl⟩)) (fun r3 gr3 => ?_)
  exact q_X5_remember_39 g1 m0 r3 (gr3)
theorem q_X5_remember (g1 : Nat) (m : zM) : zFK (p_X5_remember g1) m (f_X5_remember g1 m) id := by
  unfold f_X5_remember
  refine zq_if ?_ ?_
  · exact q_X5_remember_22 g1 m (0 : Int32) m (zFr.refl m)
  · exact q_X5_remember_22 g1 m ((m.1 7 0 1) + (1 : Int32)) m (zFr.refl m)
abbrev p_X5_takeBack (g1 : Nat) (k i j : Nat) : Prop := (k = 6 ∧ i = g1 ∧ j = 0) ∨ (k = 6 ∧ i = g1 ∧ j = 1) ∨ (k = 6 ∧ i = g1 ∧ j = 2) ∨ (k = 6 ∧ i = g1 ∧ j = 3) ∨ (k = 20 ∧ i = 3 * g1) ∨ (k = 20 ∧ i = 3 * g1 + 1) ∨ (k = 20 ∧ i = 3 * g1 + 2) ∨ (k = 7 ∧ i = 0 ∧ j = 1) ∨ (k = 7 ∧ i = 0 ∧ j = 2)
theorem q_X5_takeBack_33 (g1 : Nat) (m0 : zM) (s1 : Int32) (m : zM) (hm : zFr (p_X5_takeBack g1) m0 m) : zFK (p_X5_takeBack g1) m0 (f_X5_takeBack_33 g1 s1 m) id := by
  unfold f_X5_takeBack_33
  refine zq_bind (fun r1 => ?_)
  exact zq_some (zFr.sI (zFr.sI (hm) _ (Or.inr (Or.inr (Or.inr (Or.inr (Or.inr (Or.inr (Or.inr (Or.inl ⟨rfl, rfl, rfl⟩))))))))) _ (Or.inr (Or.inr (Or.inr (Or.inr (Or.inr (Or.inr (Or.inr (Or.inr ⟨rfl, rfl, rfl⟩)))))))))
theorem q_X5_takeBack_14 (g1 : Nat) (m0 : zM) (m : zM) (hm : zFr (p_X5_takeBack g1) m0 m) : zFK (p_X5_takeBack g1) m0 (f_X5_takeBack_14 g1 m) id := by
  unfold f_X5_takeBack_14
  refine zq_if ?_ ?_
  · exact q_X5_takeBack_33 g1 m0 (7 : Int32) m (hm)
  · exact q_X5_takeBack_33 g1 m0 ((m.1 7 0 1) - (1 : Int32)) m (hm)
theorem q_X5_takeBack (g1 : Nat) (m : zM) : zFK (p_X5_takeBack g1) m (f_X5_takeBack g1 m) id := by
  unfold f_X5_takeBack
  refine zq_oq (fun r1 => ?_)
  refine zq_gdh (fun er1 => ?_)
  refine zq_call (q_X4_copyFrom g1 r1 m) (fun _ _ _ => (fun h => Or.elim h (fun h => (Or.inl h)) (fun h => Or.elim h (fun h => (Or.inr (Or.inl h))) (fun h => Or.elim h (fun h => (Or.inr (Or.inr (Or.inl h)))) (fun h => Or.elim h (fun h => (Or.inr (Or.inr (Or.inr (Or.inl h))))) (fun h => Or.elim h (fun h => (Or.inr (Or.inr (Or.inr (Or.inr (Or.inl h)))))) (fun h => Or.elim h (fun h => (Or.inr (Or.inr (Or.inr (Or.inr (Or.inr (Or.inl h))))))) (fun h => (Or.inr (Or.inr (Or.inr (Or.inr (Or.inr (Or.inr (Or.inl h))))))))))))))) (zFr.refl m) (fun r3 gr3 => ?_)
  exact q_X5_takeBack_14 g1 m r3 (gr3)
abbrev p_X6_draw (g1 : Nat) (k i j : Nat) : Prop := (k = 8 ∧ i = 0 ∧ j = 1) ∨ (k = 22 ∧ i = 0)
theorem q_X6_draw_60 (g1 : Nat) (m0 : zM) : ∀ (j : Nat) (x4 : Int32) (x5 : Int32) (x6 : Int32) (x7 : Int32) (x8 : Int32) (x9 : Int32) (m : zM), zFr (p_X6_draw g1) m0 m → zFK (p_X6_draw g1) m0 (f_X6_draw_60 g1 j x4 x5 x6 x7 x8 x9 m) id := by
  intro j
  induction j with
  | zero =>
    intro _ _ _ _ _ _ _ _
    exact zq_none
  | succ j ih =>
    intro x4 x5 x6 x7 x8 x9 m hm
    unfold f_X6_draw_60
    refine zq_if ?_ ?_
    · exact zq_some (hm)
    · refine zq_bind (fun r2 => ?_)
      refine zq_bind (fun r3 => ?_)
      refine zq_call (q_X7_put 22 0 x9 ((((x5 + r2) * (m.1 6 g1 0)) + x4) + r3) m) (fun _ _ _ => (fun h => (Or.inr h))) (hm) (fun r4 gr4 => ?_)
      exact ih x4 x5 x6 x7 x8 (x9 + (1 : Int32)) r4 (gr4)
theorem q_X6_draw (g1 : Nat) (x2 : Int32) (x3 : Int32) (m : zM) : zFK (p_X6_draw g1) m (f_X6_draw g1 x2 x3 m) id := by
  unfold f_X6_draw
  refine zq_bind (fun r1 => ?_)
  refine zq_bind (fun r2 => ?_)
  refine zq_bind (fun r3 => ?_)
  refine zq_bind (fun r4 => ?_)
  refine zq_bind (fun r5 => ?_)
  refine zq_bind (fun r6 => ?_)
  refine zq_bind (fun r7 => ?_)
  exact q_X6_draw_60 g1 m zF r1 r2 (r3 - r1) (r4 - r2) r7 (0 : Int32) (z_sI m 8 0 1 (r7 + (1 : Int32))) (zFr.sI (zFr.refl m) _ (Or.inl ⟨rfl, rfl, rfl⟩))
abbrev p_X8_findOrders (k i j : Nat) : Prop := (k = 20 ∧ i = 48) ∨ (k = 20 ∧ i = 49) ∨ (k = 20 ∧ i = 50) ∨ (k = 20 ∧ i = 51)
theorem q_X8_findOrders_93 (m0 : zM) (c34 : Int32 → zM → Option (zM)) (hc34 : ∀ (x2 : Int32) (m : zM), zFr (p_X8_findOrders) m0 m → zFK (p_X8_findOrders) m0 (c34 x2 m) id) (x2 : Int32) (x3 : Int32) (s0 : Int32) (m : zM) (hm : zFr (p_X8_findOrders) m0 m) : zFK (p_X8_findOrders) m0 (f_X8_findOrders_93 c34 x2 x3 s0 m) id := by
  unfold f_X8_findOrders_93
  refine zq_call (q_X7_put 20 48 x3 s0 m) (fun _ _ _ => (fun h => (Or.inl h))) (hm) (fun r1 gr1 => ?_)
  refine zq_bind (fun r2 => ?_)
  refine zq_call (q_X8_feed r2 s0 r1) (fun _ _ _ => (fun h => Or.elim h (fun h => (Or.inr (Or.inl h))) (fun h => Or.elim h (fun h => (Or.inr (Or.inr (Or.inr h)))) (fun h => (Or.inr (Or.inr (Or.inl h))))))) (gr1) (fun r3 gr3 => ?_)
  exact hc34 (x2 + (1 : Int32)) r3 (gr3)
theorem q_X8_findOrders_34 (m0 : zM) : ∀ (j : Nat) (x2 : Int32) (m : zM), zFr (p_X8_findOrders) m0 m → zFK (p_X8_findOrders) m0 (f_X8_findOrders_34 j x2 m) id := by
  intro j
  induction j with
  | zero =>
    intro _ _ _
    exact zq_none
  | succ j ih =>
    intro x2 m hm
    unfold f_X8_findOrders_34
    refine zq_if ?_ ?_
    · exact zq_some (hm)
    · refine zq_bind (fun r2 => ?_)
      refine zq_bind (fun r3 => ?_)
      refine zq_if ?_ ?_
      · exact ih (x2 + (1 : Int32)) m (hm)
      · refine zq_bind (fun r5 => ?_)
        refine zq_bind (fun r6 => ?_)
        refine zq_if ?_ ?_
        · exact q_X8_findOrders_93 m0 (f_X8_findOrders_34 j) ih x2 r2 r5 m (hm)
        · exact q_X8_findOrders_93 m0 (f_X8_findOrders_34 j) ih x2 r2 (r5 + (1 : Int32)) m (hm)
theorem q_X8_findOrders (m : zM) : zFK (p_X8_findOrders) m (f_X8_findOrders m) id := by
  unfold f_X8_findOrders
  refine zq_call (q_J7_fill_53178 20 48 (0 : Int32) m) (fun _ _ _ => (fun h => (Or.inl h))) (zFr.refl m) (fun r1 gr1 => ?_)
  refine zq_call (q_J7_fill_53178 20 49 (0 : Int32) r1) (fun _ _ _ => (fun h => (Or.inr (Or.inl h)))) (gr1) (fun r2 gr2 => ?_)
  refine zq_call (q_J7_fill_53178 20 50 (0 : Int32) r2) (fun _ _ _ => (fun h => (Or.inr (Or.inr (Or.inl h))))) (gr2) (fun r3 gr3 => ?_)
  refine zq_call (q_J7_fill_53178 20 51 (0 : Int32) r3) (fun _ _ _ => (fun h => (Or.inr (Or.inr (Or.inr h))))) (gr3) (fun r4 gr4 => ?_)
  exact q_X8_findOrders_34 m zF (0 : Int32) r4 (gr4)
abbrev p_X8_beginReaches (g1 : Nat) (k i j : Nat) : Prop := (k = 20 ∧ i = 55) ∨ (k = 9 ∧ i = 0 ∧ j = 6) ∨ (k = 20 ∧ i = 52) ∨ (k = 20 ∧ i = 53)
theorem q_X8_beginReaches_20 (g1 : Nat) (m0 : zM) : ∀ (j : Nat) (x2 : Int32) (x3 : Int32) (m : zM), zFr (p_X8_beginReaches g1) m0 m → zFK (p_X8_beginReaches g1) m0 (f_X8_beginReaches_20 g1 j x2 x3 m) id := by
  intro j
  induction j with
  | zero =>
    intro _ _ _ _
    exact zq_none
  | succ j ih =>
    intro x2 x3 m hm
    unfold f_X8_beginReaches_20
    refine zq_if ?_ ?_
    · exact zq_some (hm)
    · refine zq_bind (fun r2 => ?_)
      refine zq_if ?_ ?_
      · exact ih x2 (x3 + (1 : Int32)) m (hm)
      · refine zq_call (q_X7_put 20 52 x3 (m.1 9 0 6) m) (fun _ _ _ => (fun h => (Or.inr (Or.inr (Or.inl h))))) (hm) (fun r4 gr4 => ?_)
        refine zq_call (q_X7_put 20 53 (r4.1 9 0 6) x3 r4) (fun _ _ _ => (fun h => (Or.inr (Or.inr (Or.inr h))))) (gr4) (fun r5 gr5 => ?_)
        exact ih x2 (x3 + (1 : Int32)) (z_sI r5 9 0 6 ((r5.1 9 0 6) + (1 : Int32))) (zFr.sI (gr5) _ (Or.inr (Or.inl ⟨rfl, rfl, rfl⟩)))
theorem q_X8_beginReaches (g1 : Nat) (m : zM) : zFK (p_X8_beginReaches g1) m (f_X8_beginReaches g1 m) id := by
  unfold f_X8_beginReaches
  refine zq_call (q_J7_fill_53178 20 55 (0 : Int32) m) (fun _ _ _ => (fun h => (Or.inl h))) (zFr.refl m) (fun r1 gr1 => ?_)
  refine zq_bind (fun r2 => ?_)
  exact q_X8_beginReaches_20 g1 m zF r2 (0 : Int32) (z_sI r1 9 0 6 (0 : Int32)) (zFr.sI (gr1) _ (Or.inr (Or.inl ⟨rfl, rfl, rfl⟩)))
abbrev p_X8_followReaches (k i j : Nat) : Prop := (k = 20 ∧ i = 54) ∨ (k = 20 ∧ i = 55) ∨ (k = 20 ∧ i = 52)
theorem q_X8_followReaches_2 (m0 : zM) : ∀ (j : Nat) (x2 : Int32) (m : zM), zFr (p_X8_followReaches) m0 m → zFK (p_X8_followReaches) m0 (f_X8_followReaches_2 j x2 m) id := by
  intro j
  induction j with
  | zero =>
    intro _ _ _
    exact zq_none
  | succ j ih =>
    intro x2 m hm
    unfold f_X8_followReaches_2
    refine zq_if ?_ ?_
    · exact zq_some (hm)
    · refine zq_bind (fun r2 => ?_)
      refine zq_bind (fun r3 => ?_)
      refine zq_if ?_ ?_
      · exact ih (x2 + (1 : Int32)) m (hm)
      · refine zq_bind (fun r5 => ?_)
        refine zq_call (q_X7_put 20 54 r5 r2 m) (fun _ _ _ => (fun h => (Or.inl h))) (hm) (fun r6 gr6 => ?_)
        refine zq_call (q_X7_add 20 55 r5 (1 : Int32) r6) (fun _ _ _ => (fun h => (Or.inr (Or.inl h)))) (gr6) (fun r7 gr7 => ?_)
        refine zq_bind (fun r8 => ?_)
        refine zq_bind (fun r9 => ?_)
        refine zq_if ?_ ?_
        · exact ih (x2 + (1 : Int32)) r7 (gr7)
        · refine zq_bind (fun r11 => ?_)
          refine zq_if ?_ ?_
          · refine zq_call (q_X7_put 20 52 r8 r5 r7) (fun _ _ _ => (fun h => (Or.inr (Or.inr h)))) (gr7) (fun r13 gr13 => ?_)
            exact ih (x2 + (1 : Int32)) r13 (gr13)
          · exact ih (x2 + (1 : Int32)) r7 (gr7)
theorem q_X8_followReaches (m : zM) : zFK (p_X8_followReaches) m (f_X8_followReaches m) id := by
  unfold f_X8_followReaches
  exact q_X8_followReaches_2 m zF (0 : Int32) m (zFr.refl m)
abbrev p_X9_readNumber (k i j : Nat) : Prop := (k = 10 ∧ i = 0 ∧ j = 3)
theorem q_X9_readNumber (m : zM) : zFK (p_X9_readNumber) m (f_X9_readNumber m) (fun a => a.2) := by
  unfold f_X9_readNumber
  refine zq_call (q_X9_readDigit m) (fun _ _ _ => (fun h => h)) (zFr.refl m) (fun r1 gr1 => ?_)
  refine zq_if ?_ ?_
  · exact zq_some (gr1)
  · refine zq_bind (fun r3 => ?_)
    refine zq_if ?_ ?_
    · exact zq_some (gr1)
    · refine zq_call (q_X9_readDigit r1.2) (fun _ _ _ => (fun h => h)) (gr1) (fun r5 gr5 => ?_)
      exact zq_some (gr5)
abbrev p_X11_cell (k i j : Nat) : Prop := False
theorem q_X11_cell (x1 : Int32) (x2 : Int32) (m : zM) : zFK (p_X11_cell) m (f_X11_cell x1 x2 m) (fun a => a.2) := by
  unfold f_X11_cell
  refine zq_callx (q_X11_requireCell x1 m) (fun _ _ _ h => h.elim) (zFr.refl m) (fun _ _ => rfl) (fun r1 m2 gm2 => ?_)
  refine zq_callx (q_X11_requireRange x2 (0 : Int32) (3 : Int32) m2) (fun _ _ _ h => h.elim) (gm2) (fun _ _ => rfl) (fun r3 m4 gm4 => ?_)
  refine zq_if ?_ ?_
  · refine zq_bind (fun r5 => ?_)
    exact zq_some (gm4)
  refine zq_if ?_ ?_
  · refine zq_bind (fun r6 => ?_)
    exact zq_some (gm4)
  refine zq_if ?_ ?_
  · refine zq_bind (fun r7 => ?_)
    exact zq_some (gm4)
  · refine zq_bind (fun r8 => ?_)
    refine zq_if ?_ ?_
    · exact zq_some (gm4)
    · exact zq_some (gm4)
abbrev p_X11_save (k i j : Nat) : Prop := (k = 6 ∧ i = 2 ∧ j = 0) ∨ (k = 6 ∧ i = 2 ∧ j = 1) ∨ (k = 6 ∧ i = 2 ∧ j = 2) ∨ (k = 6 ∧ i = 2 ∧ j = 3) ∨ (k = 20 ∧ i = 6) ∨ (k = 20 ∧ i = 7) ∨ (k = 20 ∧ i = 8) ∨ (k = 12 ∧ i = 0 ∧ j = 3)
theorem q_X11_save (m : zM) : zFK (p_X11_save) m (f_X11_save m) (fun a => a.2) := by
  unfold f_X11_save
  refine zq_call (q_X4_copyFrom 2 0 m) (fun _ _ _ => (fun h => Or.elim h (fun h => (Or.inl h)) (fun h => Or.elim h (fun h => (Or.inr (Or.inl h))) (fun h => Or.elim h (fun h => (Or.inr (Or.inr (Or.inl h)))) (fun h => Or.elim h (fun h => (Or.inr (Or.inr (Or.inr (Or.inl h))))) (fun h => Or.elim h (fun h => (Or.inr (Or.inr (Or.inr (Or.inr (Or.inl h)))))) (fun h => Or.elim h (fun h => (Or.inr (Or.inr (Or.inr (Or.inr (Or.inr (Or.inl h))))))) (fun h => (Or.inr (Or.inr (Or.inr (Or.inr (Or.inr (Or.inr (Or.inl h))))))))))))))) (zFr.refl m) (fun r1 gr1 => ?_)
  refine zq_bind (fun r2 => ?_)
  exact zq_some (zFr.sI (gr1) _ (Or.inr (Or.inr (Or.inr (Or.inr (Or.inr (Or.inr (Or.inr ⟨rfl, rfl, rfl⟩))))))))
abbrev p_X12_sets (k i j : Nat) : Prop := (k = 13 ∧ i = 0 ∧ j = 0) ∨ (k = 13 ∧ i = 0 ∧ j = 3) ∨ (k = 24 ∧ i = 0) ∨ (k = 23 ∧ i = 0)
theorem q_X12_sets_30 (m0 : zM) (x1 : Int32) (x2 : Int32) (x3 : Int32) (s1 : Int32) (m : zM) (hm : zFr (p_X12_sets) m0 m) : zFK (p_X12_sets) m0 (f_X12_sets_30 x1 x2 x3 s1 m) (fun a => a.2) := by
  unfold f_X12_sets_30
  refine zq_if ?_ ?_
  · refine zq_call (q_X12_changes (z_sI m 13 0 0 s1)) (fun _ _ _ => (fun h => Or.elim h (fun h => (Or.inr (Or.inl h))) (fun h => (Or.inr (Or.inr (Or.inl h)))))) (zFr.sI (hm) _ (Or.inl ⟨rfl, rfl, rfl⟩)) (fun r2 gr2 => ?_)
    refine zq_gd ?_
    exact zq_some (zFr.sI (gr2) _ (Or.inr (Or.inr (Or.inr ⟨rfl, rfl⟩))))
  · exact zq_some (zFr.sI (hm) _ (Or.inl ⟨rfl, rfl, rfl⟩))
theorem q_X12_sets (x1 : Int32) (x2 : Int32) (x3 : Int32) (x4 : Int32) (m : zM) : zFK (p_X12_sets) m (f_X12_sets x1 x2 x3 x4 m) (fun a => a.2) := by
  unfold f_X12_sets
  refine zq_bind (fun r1 => ?_)
  refine zq_if ?_ ?_
  · exact q_X12_sets_30 m x1 x2 x3 (1 : Int32) m (zFr.refl m)
  · refine zq_bind (fun r3 => ?_)
    refine zq_if ?_ ?_
    · exact q_X12_sets_30 m x1 x2 x3 (2 : Int32) m (zFr.refl m)
    · exact q_X12_sets_30 m x1 x2 x3 (0 : Int32) m (zFr.refl m)
abbrev p_X12_raise (k i j : Nat) : Prop := (k = 13 ∧ i = 0 ∧ j = 0) ∨ (k = 13 ∧ i = 0 ∧ j = 3) ∨ (k = 24 ∧ i = 0) ∨ (k = 23 ∧ i = 0)
theorem q_X12_raise_21 (m0 : zM) (m : zM) (hm : zFr (p_X12_raise) m0 m) : zFK (p_X12_raise) m0 (f_X12_raise_21 m) (fun a => a.2) := by
  unfold f_X12_raise_21
  refine zq_call (q_X12_raises (1 : Int32) m) (fun _ _ _ => (fun h => (Or.inl h))) (hm) (fun r1 gr1 => ?_)
  exact zq_some (gr1)
theorem q_X12_raise_182 (m0 : zM) (c65 : Int32 → Int32 → Int32 → Int32 → Int32 → Int32 → zM → Option (Int32 × zM)) (hc65 : ∀ (x1 : Int32) (x2 : Int32) (x3 : Int32) (x4 : Int32) (x5 : Int32) (x6 : Int32) (m : zM), zFr (p_X12_raise) m0 m → zFK (p_X12_raise) m0 (c65 x1 x2 x3 x4 x5 x6 m) (fun a => a.2)) (x1 : Int32) (x2 : Int32) (x3 : Int32) (x4 : Int32) (x5 : Int32) (x6 : Int32) (x7 : Int32) (m : zM) (hm : zFr (p_X12_raise) m0 m) : zFK (p_X12_raise) m0 (f_X12_raise_182 c65 x1 x2 x3 x4 x5 x6 x7 m) (fun a => a.2) := by
  unfold f_X12_raise_182
  refine zq_gd ?_
  exact hc65 x1 x2 x3 x4 x5 (x6 + (1 : Int32)) (z_sI m 23 0 (Int32.toNatClampNeg ((3 : Int32) + x6)) x7) (zFr.sI (hm) _ (Or.inr (Or.inr (Or.inr ⟨rfl, rfl⟩))))
theorem q_X12_raise_65 (m0 : zM) : ∀ (j : Nat) (x1 : Int32) (x2 : Int32) (x3 : Int32) (x4 : Int32) (x5 : Int32) (x6 : Int32) (m : zM), zFr (p_X12_raise) m0 m → zFK (p_X12_raise) m0 (f_X12_raise_65 j x1 x2 x3 x4 x5 x6 m) (fun a => a.2) := by
  intro j
  induction j with
  | zero =>
    intro _ _ _ _ _ _ _ _
    exact zq_none
  | succ j ih =>
    intro x1 x2 x3 x4 x5 x6 m hm
    unfold f_X12_raise_65
    refine zq_bind (fun r1 => ?_)
    refine zq_if ?_ ?_
    · exact zq_some (hm)
    · refine zq_gd ?_
      refine zq_bind (fun r4 => ?_)
      refine zq_gd ?_
      refine zq_bind (fun r6 => ?_)
      refine zq_bind (fun r7 => ?_)
      refine zq_if ?_ ?_
      · exact ih x1 x2 x3 x4 x5 (x6 + (1 : Int32)) m (hm)
      · refine zq_gd ?_
        refine zq_bind (fun r10 => ?_)
        refine zq_gd ?_
        refine zq_bind (fun r12 => ?_)
        refine zq_bind (fun r13 => ?_)
        refine zq_if ?_ ?_
        · exact ih x1 x2 x3 x4 x5 (x6 + (1 : Int32)) m (hm)
        · refine zq_bind (fun r15 => ?_)
          refine zq_bind (fun r16 => ?_)
          refine zq_bind (fun r17 => ?_)
          refine zq_bind (fun r18 => ?_)
          refine zq_if ?_ ?_
          · exact q_X12_raise_182 m0 (f_X12_raise_65 j) ih x1 x2 x3 x4 x5 x6 r17 m (hm)
          · exact q_X12_raise_182 m0 (f_X12_raise_65 j) ih x1 x2 x3 x4 (x5 + (1 : Int32)) x6 r17 m (hm)
theorem q_X12_raise (x1 : Int32) (x2 : Int32) (x3 : Int32) (m : zM) : zFK (p_X12_raise) m (f_X12_raise x1 x2 x3 m) (fun a => a.2) := by
  unfold f_X12_raise
  refine zq_bind (fun r1 => ?_)
  refine zq_if ?_ ?_
  · exact q_X12_raise_21 m (z_sI m 13 0 0 (0 : Int32)) (zFr.sI (zFr.refl m) _ (Or.inl ⟨rfl, rfl, rfl⟩))
  · refine zq_bind (fun r3 => ?_)
    refine zq_if ?_ ?_
    · exact q_X12_raise_21 m (z_sI m 13 0 0 (0 : Int32)) (zFr.sI (zFr.refl m) _ (Or.inl ⟨rfl, rfl, rfl⟩))
    · refine zq_bind (fun r5 => ?_)
      refine zq_if ?_ ?_
      · refine zq_call (q_X12_raises (2 : Int32) (z_sI m 13 0 0 (0 : Int32))) (fun _ _ _ => (fun h => (Or.inl h))) (zFr.sI (zFr.refl m) _ (Or.inl ⟨rfl, rfl, rfl⟩)) (fun r7 gr7 => ?_)
        exact zq_some (gr7)
      · refine zq_call (q_X12_changes (z_sI m 13 0 0 (0 : Int32))) (fun _ _ _ => (fun h => Or.elim h (fun h => (Or.inr (Or.inl h))) (fun h => (Or.inr (Or.inr (Or.inl h)))))) (zFr.sI (zFr.refl m) _ (Or.inl ⟨rfl, rfl, rfl⟩)) (fun r8 gr8 => ?_)
        refine zq_gd ?_
        exact q_X12_raise_65 m zF x1 x2 x3 (r8.1 23 0 (Int32.toNatClampNeg (0 : Int32))) (0 : Int32) (0 : Int32) r8 (gr8)
abbrev p_X12_setOutlet (k i j : Nat) : Prop := (k = 13 ∧ i = 0 ∧ j = 0) ∨ (k = 13 ∧ i = 0 ∧ j = 3) ∨ (k = 24 ∧ i = 0) ∨ (k = 23 ∧ i = 0)
theorem q_X12_setOutlet_78 (m0 : zM) (x3 : Int32) (s1 : Int32) (s2 : Int32) (m : zM) (hm : zFr (p_X12_setOutlet) m0 m) : zFK (p_X12_setOutlet) m0 (f_X12_setOutlet_78 x3 s1 s2 m) (fun a => a.2) := by
  unfold f_X12_setOutlet_78
  refine zq_gd ?_
  refine zq_gd ?_
  exact zq_some (zFr.sI (hm) _ (Or.inr (Or.inr (Or.inr ⟨rfl, rfl⟩))))
theorem q_X12_setOutlet_38 (m0 : zM) (x1 : Int32) (x2 : Int32) (s1 : Int32) (m : zM) (hm : zFr (p_X12_setOutlet) m0 m) : zFK (p_X12_setOutlet) m0 (f_X12_setOutlet_38 x1 x2 s1 m) (fun a => a.2) := by
  unfold f_X12_setOutlet_38
  refine zq_if ?_ ?_
  · refine zq_call (q_X12_changes (z_sI m 13 0 0 s1)) (fun _ _ _ => (fun h => Or.elim h (fun h => (Or.inr (Or.inl h))) (fun h => (Or.inr (Or.inr (Or.inl h)))))) (zFr.sI (hm) _ (Or.inl ⟨rfl, rfl, rfl⟩)) (fun r2 gr2 => ?_)
    refine zq_bind (fun r3 => ?_)
    refine zq_if ?_ ?_
    · exact q_X12_setOutlet_78 m0 (z_bi r3) ((195 : Int32) + x1) (0 : Int32) r2 (gr2)
    · exact q_X12_setOutlet_78 m0 (z_bi r3) ((195 : Int32) + x1) (1 : Int32) r2 (gr2)
  · exact zq_some (zFr.sI (hm) _ (Or.inl ⟨rfl, rfl, rfl⟩))
theorem q_X12_setOutlet_37 (m0 : zM) (x1 : Int32) (x2 : Int32) (m : zM) (hm : zFr (p_X12_setOutlet) m0 m) : zFK (p_X12_setOutlet) m0 (f_X12_setOutlet_37 x1 x2 m) (fun a => a.2) := by
  unfold f_X12_setOutlet_37
  exact q_X12_setOutlet_38 m0 x1 x2 (0 : Int32) m (hm)
theorem q_X12_setOutlet (x1 : Int32) (x2 : Int32) (m : zM) : zFK (p_X12_setOutlet) m (f_X12_setOutlet x1 x2 m) (fun a => a.2) := by
  unfold f_X12_setOutlet
  refine zq_bind (fun r1 => ?_)
  refine zq_if ?_ ?_
  · exact q_X12_setOutlet_38 m x1 x2 (1 : Int32) m (zFr.refl m)
  · refine zq_if ?_ ?_
    · refine zq_bind (fun r4 => ?_)
      refine zq_if ?_ ?_
      · exact q_X12_setOutlet_37 m x1 x2 m (zFr.refl m)
      · refine zq_bind (fun r6 => ?_)
        refine zq_if ?_ ?_
        · exact q_X12_setOutlet_38 m x1 x2 (2 : Int32) m (zFr.refl m)
        · exact q_X12_setOutlet_37 m x1 x2 m (zFr.refl m)
    · exact q_X12_setOutlet_37 m x1 x2 m (zFr.refl m)
abbrev p_X12_cell (k i j : Nat) : Prop := (k = 13 ∧ i = 0 ∧ j = 0)
theorem q_X12_cell (x1 : Int32) (x2 : Int32) (m : zM) : zFK (p_X12_cell) m (f_X12_cell x1 x2 m) (fun a => a.2) := by
  unfold f_X12_cell
  refine zq_bind (fun r1 => ?_)
  refine zq_if ?_ ?_
  · refine zq_call (q_X12_raises (1 : Int32) (z_sI m 13 0 0 (0 : Int32))) (fun _ _ _ => (fun h => h)) (zFr.sI (zFr.refl m) _ ⟨rfl, rfl, rfl⟩) (fun r3 gr3 => ?_)
    exact zq_some (gr3)
  · refine zq_bind (fun r4 => ?_)
    refine zq_if ?_ ?_
    · refine zq_call (q_X12_raises (2 : Int32) (z_sI m 13 0 0 (0 : Int32))) (fun _ _ _ => (fun h => h)) (zFr.sI (zFr.refl m) _ ⟨rfl, rfl, rfl⟩) (fun r6 gr6 => ?_)
      exact zq_some (gr6)
    · refine zq_gd ?_
      exact zq_some (zFr.sI (zFr.refl m) _ ⟨rfl, rfl, rfl⟩)
abbrev p_X12_looks (k i j : Nat) : Prop := (k = 20 ∧ i = 59) ∨ (k = 20 ∧ i = 61) ∨ (k = 20 ∧ i = 62) ∨ (k = 20 ∧ i = 60)
theorem q_X12_looks_317 (m0 : zM) (c157 : Int32 → zM → Option (zM)) (c238 : Int32 → Int32 → Int32 → zM → Option (zM)) (hc157 : ∀ (x2 : Int32) (m : zM), zFr (p_X12_looks) m0 m → zFK (p_X12_looks) m0 (c157 x2 m) id) (hc238 : ∀ (x2 : Int32) (x3 : Int32) (x4 : Int32) (m : zM), zFr (p_X12_looks) m0 m → zFK (p_X12_looks) m0 (c238 x2 x3 x4 m) id) (x2 : Int32) (x3 : Int32) (x4 : Int32) (m : zM) (hm : zFr (p_X12_looks) m0 m) : zFK (p_X12_looks) m0 (f_X12_looks_317 c157 c238 x2 x3 x4 m) id := by
  unfold f_X12_looks_317
  refine zq_gd ?_
  exact hc238 x2 x3 (x4 + (-1 : Int32)) (z_sI (z_sI m 20 61 (Int32.toNatClampNeg x2) x4) 20 62 (Int32.toNatClampNeg x2) (((z_sI m 20 61 (Int32.toNatClampNeg x2) x4).1 20 62 (Int32.toNatClampNeg x2)) + (1 : Int32))) (zFr.sI (zFr.sI (hm) _ (Or.inr (Or.inl ⟨rfl, rfl⟩))) _ (Or.inr (Or.inr (Or.inl ⟨rfl, rfl⟩))))
theorem q_X12_looks_238 (m0 : zM) (c157 : Int32 → zM → Option (zM)) (hc157 : ∀ (x2 : Int32) (m : zM), zFr (p_X12_looks) m0 m → zFK (p_X12_looks) m0 (c157 x2 m) id) : ∀ (j : Nat) (x2 : Int32) (x3 : Int32) (x4 : Int32) (m : zM), zFr (p_X12_looks) m0 m → zFK (p_X12_looks) m0 (f_X12_looks_238 c157 j x2 x3 x4 m) id := by
  intro j
  induction j with
  | zero =>
    intro _ _ _ _ _
    exact zq_none
  | succ j ih =>
    intro x2 x3 x4 m hm
    unfold f_X12_looks_238
    refine zq_if ?_ ?_
    · exact hc157 (x2 + (1 : Int32)) m (hm)
    · refine zq_bind (fun r2 => ?_)
      refine zq_if ?_ ?_
      · exact ih x2 x3 (x4 + (-1 : Int32)) m (hm)
      · refine zq_gd ?_
        refine zq_if ?_ ?_
        · refine zq_gd ?_
          refine zq_if ?_ ?_
          · exact q_X12_looks_317 m0 c157 (f_X12_looks_238 c157 j) hc157 ih x2 x3 x4 m (hm)
          · exact ih x2 x3 (x4 + (-1 : Int32)) m (hm)
        · refine zq_gd ?_
          refine zq_gd ?_
          refine zq_if ?_ ?_
          · refine zq_gd ?_
            refine zq_gd ?_
            refine zq_if ?_ ?_
            · exact q_X12_looks_317 m0 c157 (f_X12_looks_238 c157 j) hc157 ih x2 x3 x4 m (hm)
            · exact ih x2 x3 (x4 + (-1 : Int32)) m (hm)
          · exact ih x2 x3 (x4 + (-1 : Int32)) m (hm)
theorem q_X12_looks_196 (m0 : zM) (c157 : Int32 → zM → Option (zM)) (hc157 : ∀ (x2 : Int32) (m : zM), zFr (p_X12_looks) m0 m → zFK (p_X12_looks) m0 (c157 x2 m) id) : ∀ (j : Nat) (x2 : Int32) (x3 : Int32) (x4 : Int32) (m : zM), zFr (p_X12_looks) m0 m → zFK (p_X12_looks) m0 (f_X12_looks_196 c157 j x2 x3 x4 m) id := by
  intro j
  induction j with
  | zero =>
    intro _ _ _ _ _
    exact zq_none
  | succ j ih =>
    intro x2 x3 x4 m hm
    unfold f_X12_looks_196
    refine zq_if ?_ ?_
    · exact q_X12_looks_238 m0 c157 hc157 zF x2 x3 (3 : Int32) m (hm)
    · refine zq_bind (fun r2 => ?_)
      refine zq_if ?_ ?_
      · exact ih x2 x3 (x4 + (1 : Int32)) m (hm)
      · refine zq_bind (fun r4 => ?_)
        refine zq_gd ?_
        refine zq_bind (fun r6 => ?_)
        exact ih x2 r6 (x4 + (1 : Int32)) m (hm)
theorem q_X12_looks_157 (m0 : zM) : ∀ (j : Nat) (x2 : Int32) (m : zM), zFr (p_X12_looks) m0 m → zFK (p_X12_looks) m0 (f_X12_looks_157 j x2 m) id := by
  intro j
  induction j with
  | zero =>
    intro _ _ _
    exact zq_none
  | succ j ih =>
    intro x2 m hm
    unfold f_X12_looks_157
    refine zq_bind (fun r1 => ?_)
    refine zq_if ?_ ?_
    · exact zq_some (hm)
    · refine zq_gd ?_
      refine zq_bind (fun r4 => ?_)
      refine zq_if ?_ ?_
      · exact q_X12_looks_196 m0 (f_X12_looks_157 j) ih zF x2 (1000000 : Int32) (0 : Int32) (z_sI (z_sI m 20 61 (Int32.toNatClampNeg x2) (-1 : Int32)) 20 62 (Int32.toNatClampNeg x2) (0 : Int32)) (zFr.sI (zFr.sI (hm) _ (Or.inr (Or.inl ⟨rfl, rfl⟩))) _ (Or.inr (Or.inr (Or.inl ⟨rfl, rfl⟩))))
      · exact ih (x2 + (1 : Int32)) (z_sI (z_sI m 20 61 (Int32.toNatClampNeg x2) (-1 : Int32)) 20 62 (Int32.toNatClampNeg x2) (0 : Int32)) (zFr.sI (zFr.sI (hm) _ (Or.inr (Or.inl ⟨rfl, rfl⟩))) _ (Or.inr (Or.inr (Or.inl ⟨rfl, rfl⟩))))
theorem q_X12_looks_68 (m0 : zM) (c50 : Int32 → zM → Option (zM)) (c58 : Int32 → Int32 → zM → Option (zM)) (hc50 : ∀ (x1 : Int32) (m : zM), zFr (p_X12_looks) m0 m → zFK (p_X12_looks) m0 (c50 x1 m) id) (hc58 : ∀ (x1 : Int32) (x2 : Int32) (m : zM), zFr (p_X12_looks) m0 m → zFK (p_X12_looks) m0 (c58 x1 x2 m) id) : ∀ (j : Nat) (x1 : Int32) (x2 : Int32) (x3 : Int32) (m : zM), zFr (p_X12_looks) m0 m → zFK (p_X12_looks) m0 (f_X12_looks_68 c50 c58 j x1 x2 x3 m) id := by
  intro j
  induction j with
  | zero =>
    intro _ _ _ _ _
    exact zq_none
  | succ j ih =>
    intro x1 x2 x3 m hm
    unfold f_X12_looks_68
    refine zq_if ?_ ?_
    · exact hc58 x1 (x2 + (1 : Int32)) m (hm)
    · refine zq_bind (fun r2 => ?_)
      refine zq_if ?_ ?_
      · exact ih x1 x2 (x3 + (1 : Int32)) m (hm)
      · refine zq_gd ?_
        refine zq_gd ?_
        refine zq_if ?_ ?_
        · refine zq_gd ?_
          refine zq_gd ?_
          refine zq_if ?_ ?_
          · refine zq_gd ?_
            refine zq_gd ?_
            exact ih (1 : Int32) x2 (x3 + (1 : Int32)) (z_sI m 20 60 (Int32.toNatClampNeg x2) ((m.1 20 60 (Int32.toNatClampNeg r2)) + (1 : Int32))) (zFr.sI (hm) _ (Or.inr (Or.inr (Or.inr ⟨rfl, rfl⟩))))
          · exact ih x1 x2 (x3 + (1 : Int32)) m (hm)
        · exact ih x1 x2 (x3 + (1 : Int32)) m (hm)
theorem q_X12_looks_58 (m0 : zM) (c50 : Int32 → zM → Option (zM)) (hc50 : ∀ (x1 : Int32) (m : zM), zFr (p_X12_looks) m0 m → zFK (p_X12_looks) m0 (c50 x1 m) id) : ∀ (j : Nat) (x1 : Int32) (x2 : Int32) (m : zM), zFr (p_X12_looks) m0 m → zFK (p_X12_looks) m0 (f_X12_looks_58 c50 j x1 x2 m) id := by
  intro j
  induction j with
  | zero =>
    intro _ _ _ _
    exact zq_none
  | succ j ih =>
    intro x1 x2 m hm
    unfold f_X12_looks_58
    refine zq_bind (fun r1 => ?_)
    refine zq_if ?_ ?_
    · exact hc50 x1 m (hm)
    · exact q_X12_looks_68 m0 c50 (f_X12_looks_58 c50 j) hc50 ih zF x1 x2 (0 : Int32) m (hm)
theorem q_X12_looks_50 (m0 : zM) : ∀ (j : Nat) (x1 : Int32) (m : zM), zFr (p_X12_looks) m0 m → zFK (p_X12_looks) m0 (f_X12_looks_50 j x1 m) id := by
  intro j
  induction j with
  | zero =>
    intro _ _ _
    exact zq_none
  | succ j ih =>
    intro x1 m hm
    unfold f_X12_looks_50
    refine zq_if ?_ ?_
    · exact q_X12_looks_157 m0 zF (0 : Int32) m (hm)
    · exact q_X12_looks_58 m0 (f_X12_looks_50 j) ih zF (0 : Int32) (0 : Int32) m (hm)
theorem q_X12_looks_41 (m0 : zM) (c6 : Int32 → zM → Option (zM)) (hc6 : ∀ (x1 : Int32) (m : zM), zFr (p_X12_looks) m0 m → zFK (p_X12_looks) m0 (c6 x1 m) id) (x1 : Int32) (s1 : Int32) (s2 : Int32) (m : zM) (hm : zFr (p_X12_looks) m0 m) : zFK (p_X12_looks) m0 (f_X12_looks_41 c6 x1 s1 s2 m) id := by
  unfold f_X12_looks_41
  refine zq_gd ?_
  exact hc6 (x1 + (1 : Int32)) (z_sI m 20 60 (Int32.toNatClampNeg s1) s2) (zFr.sI (hm) _ (Or.inr (Or.inr (Or.inr ⟨rfl, rfl⟩))))
theorem q_X12_looks_6 (m0 : zM) : ∀ (j : Nat) (x1 : Int32) (m : zM), zFr (p_X12_looks) m0 m → zFK (p_X12_looks) m0 (f_X12_looks_6 j x1 m) id := by
  intro j
  induction j with
  | zero =>
    intro _ _ _
    exact zq_none
  | succ j ih =>
    intro x1 m hm
    unfold f_X12_looks_6
    refine zq_bind (fun r1 => ?_)
    refine zq_if ?_ ?_
    · exact q_X12_looks_50 m0 zF (1 : Int32) m (hm)
    · refine zq_bind (fun r3 => ?_)
      refine zq_if ?_ ?_
      · refine zq_bind (fun r5 => ?_)
        refine zq_if ?_ ?_
        · exact q_X12_looks_41 m0 (f_X12_looks_6 j) ih x1 x1 (1000000 : Int32) m (hm)
        · exact q_X12_looks_41 m0 (f_X12_looks_6 j) ih x1 x1 (0 : Int32) m (hm)
      · exact q_X12_looks_41 m0 (f_X12_looks_6 j) ih x1 x1 (0 : Int32) m (hm)
theorem q_X12_looks (m : zM) : zFK (p_X12_looks) m (f_X12_looks m) id := by
  unfold f_X12_looks
  refine zq_call (q_X12_levels m) (fun _ _ _ => (fun h => (Or.inl h))) (zFr.refl m) (fun r1 gr1 => ?_)
  exact q_X12_looks_6 m zF (0 : Int32) r1 (gr1)
