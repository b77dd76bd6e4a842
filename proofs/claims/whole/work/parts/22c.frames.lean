abbrev p_X12_why (k i j : Nat) : Prop := (k = 13 ∧ i = 0 ∧ j = 0) ∨ (k = 20 ∧ i = 59) ∨ (k = 20 ∧ i = 61) ∨ (k = 20 ∧ i = 62) ∨ (k = 20 ∧ i = 60)
theorem q_X12_why (x1 : Int32) (x2 : Int32) (m : zM) : zFK (p_X12_why) m (f_X12_why x1 x2 m) (fun a => a.2) := by
  unfold f_X12_why
  refine zq_bind (fun r1 => ?_)
  refine zq_if ?_ ?_
  · refine zq_call (q_X12_raises (1 : Int32) (z_sI m 13 0 0 (0 : Int32))) (fun _ _ _ => (fun h => (Or.inl h))) (zFr.sI (zFr.refl m) _ (Or.inl ⟨rfl, rfl, rfl⟩)) (fun r3 gr3 => ?_)
    exact zq_some (gr3)
  · refine zq_call (q_X12_looks (z_sI m 13 0 0 (0 : Int32))) (fun _ _ _ => (fun h => Or.elim h (fun h => (Or.inr (Or.inl h))) (fun h => Or.elim h (fun h => (Or.inr (Or.inr (Or.inl h)))) (fun h => Or.elim h (fun h => (Or.inr (Or.inr (Or.inr (Or.inl h))))) (fun h => (Or.inr (Or.inr (Or.inr (Or.inr h))))))))) (zFr.sI (zFr.refl m) _ (Or.inl ⟨rfl, rfl, rfl⟩)) (fun r4 gr4 => ?_)
    refine zq_if ?_ ?_
    · refine zq_bind (fun r5 => ?_)
      refine zq_if ?_ ?_
      · refine zq_gd ?_
        refine zq_if ?_ ?_
        · exact zq_some (gr4)
        · exact zq_some (gr4)
      · exact zq_some (gr4)
    refine zq_if ?_ ?_
    · refine zq_gd ?_
      exact zq_some (gr4)
    refine zq_if ?_ ?_
    · refine zq_gd ?_
      exact zq_some (gr4)
    · refine zq_call (q_X12_raises (2 : Int32) r4) (fun _ _ _ => (fun h => (Or.inl h))) (gr4) (fun r11 gr11 => ?_)
      exact zq_some (gr11)
abbrev p_X12_route (k i j : Nat) : Prop := (k = 13 ∧ i = 0 ∧ j = 0) ∨ (k = 20 ∧ i = 59) ∨ (k = 20 ∧ i = 61) ∨ (k = 20 ∧ i = 62) ∨ (k = 20 ∧ i = 60)
theorem q_X12_route_61 (m0 : zM) : ∀ (j : Nat) (x2 : Int32) (x3 : Int32) (x4 : Int32) (m : zM), zFr (p_X12_route) m0 m → zFK (p_X12_route) m0 (f_X12_route_61 j x2 x3 x4 m) (fun a => a.2) := by
  intro j
  induction j with
  | zero =>
    intro _ _ _ _ _
    exact zq_none
  | succ j ih =>
    intro x2 x3 x4 m hm
    unfold f_X12_route_61
    refine zq_if ?_ ?_
    · exact zq_some (hm)
    · refine zq_bind (fun r2 => ?_)
      exact ih x2 r2 (x4 + (1 : Int32)) m (hm)
theorem q_X12_route (x1 : Int32) (x2 : Int32) (m : zM) : zFK (p_X12_route) m (f_X12_route x1 x2 m) (fun a => a.2) := by
  unfold f_X12_route
  refine zq_bind (fun r1 => ?_)
  refine zq_if ?_ ?_
  · refine zq_call (q_X12_raises (1 : Int32) (z_sI m 13 0 0 (0 : Int32))) (fun _ _ _ => (fun h => (Or.inl h))) (zFr.sI (zFr.refl m) _ (Or.inl ⟨rfl, rfl, rfl⟩)) (fun r3 gr3 => ?_)
    exact zq_some (gr3)
  · refine zq_call (q_X12_looks (z_sI m 13 0 0 (0 : Int32))) (fun _ _ _ => (fun h => Or.elim h (fun h => (Or.inr (Or.inl h))) (fun h => Or.elim h (fun h => (Or.inr (Or.inr (Or.inl h)))) (fun h => Or.elim h (fun h => (Or.inr (Or.inr (Or.inr (Or.inl h))))) (fun h => (Or.inr (Or.inr (Or.inr (Or.inr h))))))))) (zFr.sI (zFr.refl m) _ (Or.inl ⟨rfl, rfl, rfl⟩)) (fun r4 gr4 => ?_)
    refine zq_bind (fun r5 => ?_)
    refine zq_bind (fun r6 => ?_)
    refine zq_if ?_ ?_
    · refine zq_call (q_X12_raises (2 : Int32) r4) (fun _ _ _ => (fun h => (Or.inl h))) (gr4) (fun r8 gr8 => ?_)
      exact zq_some (gr8)
    · refine zq_if ?_ ?_
      · exact q_X12_route_61 m zF x2 x1 (0 : Int32) r4 (gr4)
      · refine zq_bind (fun r10 => ?_)
        exact zq_some (gr4)
abbrev p_X12_upstream (k i j : Nat) : Prop := (k = 13 ∧ i = 0 ∧ j = 0) ∨ (k = 20 ∧ i = 59) ∨ (k = 20 ∧ i = 61) ∨ (k = 20 ∧ i = 62) ∨ (k = 20 ∧ i = 60)
theorem q_X12_upstream_35 (m0 : zM) : ∀ (j : Nat) (x1 : Int32) (x2 : Int64) (x4 : Int32) (m : zM), zFr (p_X12_upstream) m0 m → zFK (p_X12_upstream) m0 (f_X12_upstream_35 j x1 x2 x4 m) (fun a => a.2) := by
  intro j
  induction j with
  | zero =>
    intro _ _ _ _ _
    exact zq_none
  | succ j ih =>
    intro x1 x2 x4 m hm
    unfold f_X12_upstream_35
    refine zq_bind (fun r1 => ?_)
    refine zq_if ?_ ?_
    · exact zq_some (hm)
    · refine zq_bind (fun r3 => ?_)
      refine zq_if ?_ ?_
      · exact ih x1 x2 (x4 + (1 : Int32)) m (hm)
      · exact ih x1 (x2 ||| (z_shl (1 : Int64) x4)) (x4 + (1 : Int32)) m (hm)
theorem q_X12_upstream_14 (m0 : zM) (x1 : Int32) (s1 : Int32) (m : zM) (hm : zFr (p_X12_upstream) m0 m) : zFK (p_X12_upstream) m0 (f_X12_upstream_14 x1 s1 m) (fun a => a.2) := by
  unfold f_X12_upstream_14
  refine zq_if ?_ ?_
  · refine zq_call (q_X12_looks (z_sI m 13 0 0 s1)) (fun _ _ _ => (fun h => Or.elim h (fun h => (Or.inr (Or.inl h))) (fun h => Or.elim h (fun h => (Or.inr (Or.inr (Or.inl h)))) (fun h => Or.elim h (fun h => (Or.inr (Or.inr (Or.inr (Or.inl h))))) (fun h => (Or.inr (Or.inr (Or.inr (Or.inr h))))))))) (zFr.sI (hm) _ (Or.inl ⟨rfl, rfl, rfl⟩)) (fun r2 gr2 => ?_)
    exact q_X12_upstream_35 m0 zF x1 (0 : Int64) (0 : Int32) r2 (gr2)
  · exact zq_some (zFr.sI (hm) _ (Or.inl ⟨rfl, rfl, rfl⟩))
theorem q_X12_upstream (x1 : Int32) (m : zM) : zFK (p_X12_upstream) m (f_X12_upstream x1 m) (fun a => a.2) := by
  unfold f_X12_upstream
  refine zq_bind (fun r1 => ?_)
  refine zq_if ?_ ?_
  · exact q_X12_upstream_14 m x1 (1 : Int32) m (zFr.refl m)
  · exact q_X12_upstream_14 m x1 (0 : Int32) m (zFr.refl m)
abbrev p_X12_divides (k i j : Nat) : Prop := (k = 13 ∧ i = 0 ∧ j = 0) ∨ (k = 20 ∧ i = 59) ∨ (k = 20 ∧ i = 61) ∨ (k = 20 ∧ i = 62) ∨ (k = 20 ∧ i = 60)
theorem q_X12_divides_23 (m0 : zM) (c13 : Int32 → Int32 → zM → Option (Int32 × zM)) (hc13 : ∀ (x1 : Int32) (x2 : Int32) (m : zM), zFr (p_X12_divides) m0 m → zFK (p_X12_divides) m0 (c13 x1 x2 m) (fun a => a.2)) : ∀ (j : Nat) (x1 : Int32) (x2 : Int32) (x3 : Int32) (m : zM), zFr (p_X12_divides) m0 m → zFK (p_X12_divides) m0 (f_X12_divides_23 c13 j x1 x2 x3 m) (fun a => a.2) := by
  intro j
  induction j with
  | zero =>
    intro _ _ _ _ _
    exact zq_none
  | succ j ih =>
    intro x1 x2 x3 m hm
    unfold f_X12_divides_23
    refine zq_if ?_ ?_
    · exact hc13 x1 (x2 + (1 : Int32)) m (hm)
    · refine zq_bind (fun r2 => ?_)
      refine zq_if ?_ ?_
      · exact ih x1 x2 (x3 + (1 : Int32)) m (hm)
      · refine zq_bind (fun r4 => ?_)
        refine zq_bind (fun r5 => ?_)
        refine zq_bind (fun r6 => ?_)
        refine zq_if ?_ ?_
        · exact ih x1 x2 (x3 + (1 : Int32)) m (hm)
        · exact ih (x1 + (1 : Int32)) x2 (x3 + (1 : Int32)) m (hm)
theorem q_X12_divides_13 (m0 : zM) : ∀ (j : Nat) (x1 : Int32) (x2 : Int32) (m : zM), zFr (p_X12_divides) m0 m → zFK (p_X12_divides) m0 (f_X12_divides_13 j x1 x2 m) (fun a => a.2) := by
  intro j
  induction j with
  | zero =>
    intro _ _ _ _
    exact zq_none
  | succ j ih =>
    intro x1 x2 m hm
    unfold f_X12_divides_13
    refine zq_bind (fun r1 => ?_)
    refine zq_if ?_ ?_
    · exact zq_some (hm)
    · exact q_X12_divides_23 m0 (f_X12_divides_13 j) ih zF x1 x2 (1 : Int32) m (hm)
theorem q_X12_divides (m : zM) : zFK (p_X12_divides) m (f_X12_divides m) (fun a => a.2) := by
  unfold f_X12_divides
  refine zq_call (q_X12_looks (z_sI m 13 0 0 (0 : Int32))) (fun _ _ _ => (fun h => Or.elim h (fun h => (Or.inr (Or.inl h))) (fun h => Or.elim h (fun h => (Or.inr (Or.inr (Or.inl h)))) (fun h => Or.elim h (fun h => (Or.inr (Or.inr (Or.inr (Or.inl h))))) (fun h => (Or.inr (Or.inr (Or.inr (Or.inr h))))))))) (zFr.sI (zFr.refl m) _ (Or.inl ⟨rfl, rfl, rfl⟩)) (fun r1 gr1 => ?_)
  exact q_X12_divides_13 m zF (0 : Int32) (0 : Int32) r1 (gr1)
abbrev p_X12_depression (k i j : Nat) : Prop := (k = 13 ∧ i = 0 ∧ j = 0) ∨ (k = 13 ∧ i = 0 ∧ j = 21) ∨ (k = 13 ∧ i = 0 ∧ j = 20) ∨ (k = 20 ∧ i = 66) ∨ (k = 21 ∧ i = 4) ∨ (k = 31 ∧ i = 3) ∨ (k = 21 ∧ i = 3) ∨ (k = 21 ∧ i = 5) ∨ (k = 31 ∧ i = 2)
theorem q_X12_depression_111 (m0 : zM) : ∀ (j : Nat) (x3 : Int32) (x4 : Int32) (x5 : Int32) (m : zM), zFr (p_X12_depression) m0 m → zFK (p_X12_depression) m0 (f_X12_depression_111 j x3 x4 x5 m) (fun a => a.2) := by
  intro j
  induction j with
  | zero =>
    intro _ _ _ _ _
    exact zq_none
  | succ j ih =>
    intro x3 x4 x5 m hm
    unfold f_X12_depression_111
    refine zq_bind (fun r1 => ?_)
    refine zq_if ?_ ?_
    · exact zq_some (hm)
    · refine zq_gd ?_
      refine zq_if ?_ ?_
      · refine zq_gd ?_
        refine zq_bind (fun r6 => ?_)
        exact ih x3 (x4 + (((m.1 21 4 (Int32.toNatClampNeg x3)) + (1 : Int32)) - r6)) (x5 + (1 : Int32)) m (hm)
      · exact ih x3 x4 (x5 + (1 : Int32)) m (hm)
theorem q_X12_depression_191 (m0 : zM) : ∀ (j : Nat) (x4 : Int32) (x5 : Int32) (m : zM), zFr (p_X12_depression) m0 m → zFK (p_X12_depression) m0 (f_X12_depression_191 j x4 x5 m) (fun a => a.2) := by
  intro j
  induction j with
  | zero =>
    intro _ _ _ _
    exact zq_none
  | succ j ih =>
    intro x4 x5 m hm
    unfold f_X12_depression_191
    refine zq_gd ?_
    refine zq_if ?_ ?_
    · exact zq_some (hm)
    · refine zq_gd ?_
      exact ih (x4 + (1 : Int32)) (m.1 21 5 (Int32.toNatClampNeg x5)) m (hm)
theorem q_X12_depression (x1 : Int32) (x2 : Int32) (m : zM) : zFK (p_X12_depression) m (f_X12_depression x1 x2 m) (fun a => a.2) := by
  unfold f_X12_depression
  refine zq_call (q_X12_depressions (z_sI m 13 0 0 (0 : Int32))) (fun _ _ _ => (fun h => Or.elim h (fun h => (Or.inr (Or.inl h))) (fun h => Or.elim h (fun h => (Or.inr (Or.inr (Or.inl h)))) (fun h => Or.elim h (fun h => (Or.inr (Or.inr (Or.inr (Or.inl h))))) (fun h => Or.elim h (fun h => (Or.inr (Or.inr (Or.inr (Or.inr (Or.inl h)))))) (fun h => Or.elim h (fun h => (Or.inr (Or.inr (Or.inr (Or.inr (Or.inr (Or.inl h))))))) (fun h => Or.elim h (fun h => (Or.inr (Or.inr (Or.inr (Or.inr (Or.inr (Or.inr (Or.inl h)))))))) (fun h => Or.elim h (fun h => (Or.inr (Or.inr (Or.inr (Or.inr (Or.inr (Or.inr (Or.inr (Or.inl h))))))))) (fun h => (Or.inr (Or.inr (Or.inr (Or.inr (Or.inr (Or.inr (Or.inr (Or.inr h))))))))))))))))) (zFr.sI (zFr.refl m) _ (Or.inl ⟨rfl, rfl, rfl⟩)) (fun r1 gr1 => ?_)
  refine zq_bind (fun r2 => ?_)
  refine zq_if ?_ ?_
  · refine zq_call (q_X12_raises (1 : Int32) r1) (fun _ _ _ => (fun h => (Or.inl h))) (gr1) (fun r4 gr4 => ?_)
    exact zq_some (gr4)
  · refine zq_if ?_ ?_
    · refine zq_gd ?_
      exact zq_some (gr1)
    refine zq_if ?_ ?_
    · refine zq_gd ?_
      exact zq_some (gr1)
    refine zq_if ?_ ?_
    · refine zq_gd ?_
      refine zq_bind (fun r8 => ?_)
      exact zq_some (gr1)
    refine zq_if ?_ ?_
    · exact q_X12_depression_111 m zF x1 (0 : Int32) (0 : Int32) r1 (gr1)
    refine zq_if ?_ ?_
    · refine zq_gd ?_
      refine zq_bind (fun r10 => ?_)
      exact zq_some (gr1)
    refine zq_if ?_ ?_
    · refine zq_gd ?_
      exact zq_some (gr1)
    refine zq_if ?_ ?_
    · refine zq_bind (fun r12 => ?_)
      exact zq_some (gr1)
    refine zq_if ?_ ?_
    · exact q_X12_depression_191 m zF (0 : Int32) x1 r1 (gr1)
    · refine zq_call (q_X12_raises (2 : Int32) r1) (fun _ _ _ => (fun h => (Or.inl h))) (gr1) (fun r13 gr13 => ?_)
      exact zq_some (gr13)
abbrev p_X12_depressionAt (k i j : Nat) : Prop := (k = 13 ∧ i = 0 ∧ j = 0) ∨ (k = 13 ∧ i = 0 ∧ j = 21) ∨ (k = 13 ∧ i = 0 ∧ j = 20) ∨ (k = 20 ∧ i = 66) ∨ (k = 21 ∧ i = 4) ∨ (k = 31 ∧ i = 3) ∨ (k = 21 ∧ i = 3) ∨ (k = 21 ∧ i = 5) ∨ (k = 31 ∧ i = 2)
theorem q_X12_depressionAt_65 (m0 : zM) : ∀ (j : Nat) (x2 : Int32) (x3 : Int32) (m : zM), zFr (p_X12_depressionAt) m0 m → zFK (p_X12_depressionAt) m0 (f_X12_depressionAt_65 j x2 x3 m) (fun a => a.2) := by
  intro j
  induction j with
  | zero =>
    intro _ _ _ _
    exact zq_none
  | succ j ih =>
    intro x2 x3 m hm
    unfold f_X12_depressionAt_65
    refine zq_if ?_ ?_
    · refine zq_call (q_X12_raises (3 : Int32) m) (fun _ _ _ => (fun h => (Or.inl h))) (hm) (fun r2 gr2 => ?_)
      exact zq_some (gr2)
    · refine zq_gd ?_
      refine zq_bind (fun r4 => ?_)
      refine zq_if ?_ ?_
      · exact ih x2 (x3 + (1 : Int32)) m (hm)
      · refine zq_gd ?_
        refine zq_if ?_ ?_
        · exact zq_some (hm)
        · exact ih x2 (x3 + (1 : Int32)) m (hm)
theorem q_X12_depressionAt (x1 : Int32) (x2 : Int32) (m : zM) : zFK (p_X12_depressionAt) m (f_X12_depressionAt x1 x2 m) (fun a => a.2) := by
  unfold f_X12_depressionAt
  refine zq_bind (fun r1 => ?_)
  refine zq_if ?_ ?_
  · refine zq_call (q_X12_raises (1 : Int32) (z_sI m 13 0 0 (0 : Int32))) (fun _ _ _ => (fun h => (Or.inl h))) (zFr.sI (zFr.refl m) _ (Or.inl ⟨rfl, rfl, rfl⟩)) (fun r3 gr3 => ?_)
    exact zq_some (gr3)
  · refine zq_bind (fun r4 => ?_)
    refine zq_if ?_ ?_
    · refine zq_call (q_X12_raises (2 : Int32) (z_sI m 13 0 0 (0 : Int32))) (fun _ _ _ => (fun h => (Or.inl h))) (zFr.sI (zFr.refl m) _ (Or.inl ⟨rfl, rfl, rfl⟩)) (fun r6 gr6 => ?_)
      exact zq_some (gr6)
    · refine zq_call (q_X12_depressions (z_sI m 13 0 0 (0 : Int32))) (fun _ _ _ => (fun h => Or.elim h (fun h => (Or.inr (Or.inl h))) (fun h => Or.elim h (fun h => (Or.inr (Or.inr (Or.inl h)))) (fun h => Or.elim h (fun h => (Or.inr (Or.inr (Or.inr (Or.inl h))))) (fun h => Or.elim h (fun h => (Or.inr (Or.inr (Or.inr (Or.inr (Or.inl h)))))) (fun h => Or.elim h (fun h => (Or.inr (Or.inr (Or.inr (Or.inr (Or.inr (Or.inl h))))))) (fun h => Or.elim h (fun h => (Or.inr (Or.inr (Or.inr (Or.inr (Or.inr (Or.inr (Or.inl h)))))))) (fun h => Or.elim h (fun h => (Or.inr (Or.inr (Or.inr (Or.inr (Or.inr (Or.inr (Or.inr (Or.inl h))))))))) (fun h => (Or.inr (Or.inr (Or.inr (Or.inr (Or.inr (Or.inr (Or.inr (Or.inr h))))))))))))))))) (zFr.sI (zFr.refl m) _ (Or.inl ⟨rfl, rfl, rfl⟩)) (fun r7 gr7 => ?_)
      refine zq_bind (fun r8 => ?_)
      refine zq_if ?_ ?_
      · refine zq_call (q_X12_land x1 (0 : Int32) x2 r7) (fun _ _ _ => (fun h => Or.elim h (fun h => (Or.inr (Or.inr (Or.inl h)))) (fun h => (Or.inr (Or.inr (Or.inr (Or.inl h))))))) (gr7) (fun r10 gr10 => ?_)
        exact q_X12_depressionAt_65 m zF x2 (0 : Int32) r10 (gr10)
      · refine zq_call (q_X12_raises (3 : Int32) r7) (fun _ _ _ => (fun h => (Or.inl h))) (gr7) (fun r11 gr11 => ?_)
        exact zq_some (gr11)
abbrev p_X12_sectionCell (k i j : Nat) : Prop := (k = 13 ∧ i = 0 ∧ j = 0)
theorem q_X12_sectionCell_21 (m0 : zM) (m : zM) (hm : zFr (p_X12_sectionCell) m0 m) : zFK (p_X12_sectionCell) m0 (f_X12_sectionCell_21 m) (fun a => a.2) := by
  unfold f_X12_sectionCell_21
  refine zq_call (q_X12_raises (1 : Int32) m) (fun _ _ _ => (fun h => h)) (hm) (fun r1 gr1 => ?_)
  exact zq_some (gr1)
theorem q_X12_sectionCell (x1 : Int32) (x2 : Int32) (x3 : Int32) (m : zM) : zFK (p_X12_sectionCell) m (f_X12_sectionCell x1 x2 x3 m) (fun a => a.2) := by
  unfold f_X12_sectionCell
  refine zq_bind (fun r1 => ?_)
  refine zq_if ?_ ?_
  · exact q_X12_sectionCell_21 m (z_sI m 13 0 0 (0 : Int32)) (zFr.sI (zFr.refl m) _ ⟨rfl, rfl, rfl⟩)
  · refine zq_bind (fun r3 => ?_)
    refine zq_if ?_ ?_
    · exact q_X12_sectionCell_21 m (z_sI m 13 0 0 (0 : Int32)) (zFr.sI (zFr.refl m) _ ⟨rfl, rfl, rfl⟩)
    · refine zq_bind (fun r5 => ?_)
      refine zq_bind (fun r6 => ?_)
      refine zq_if ?_ ?_
      · refine zq_call (q_X12_raises (2 : Int32) (z_sI m 13 0 0 (0 : Int32))) (fun _ _ _ => (fun h => h)) (zFr.sI (zFr.refl m) _ ⟨rfl, rfl, rfl⟩) (fun r8 gr8 => ?_)
        exact zq_some (gr8)
      · refine zq_bind (fun r9 => ?_)
        exact zq_some (zFr.sI (zFr.refl m) _ ⟨rfl, rfl, rfl⟩)
abbrev p_X12_depthsIf (k i j : Nat) : Prop := (k = 13 ∧ i = 0 ∧ j = 0) ∨ (k = 23 ∧ i = 0) ∨ (k = 20 ∧ i = 59)
theorem q_X12_depthsIf_30 (m0 : zM) (x1 : Int32) (x2 : Int32) (s1 : Int32) (m : zM) (hm : zFr (p_X12_depthsIf) m0 m) : zFK (p_X12_depthsIf) m0 (f_X12_depthsIf_30 x1 x2 s1 m) (fun a => a.2) := by
  unfold f_X12_depthsIf_30
  refine zq_if ?_ ?_
  · refine zq_bind (fun r2 => ?_)
    refine zq_gd ?_
    refine zq_call (q_X12_depths (z_sI (z_sI m 13 0 0 s1) 23 0 (Int32.toNatClampNeg ((3 : Int32) + x1)) x2)) (fun _ _ _ => (fun h => (Or.inr (Or.inr h)))) (zFr.sI (zFr.sI (hm) _ (Or.inl ⟨rfl, rfl, rfl⟩)) _ (Or.inr (Or.inl ⟨rfl, rfl⟩))) (fun r4 gr4 => ?_)
    refine zq_gd ?_
    exact zq_some (zFr.sI (gr4) _ (Or.inr (Or.inl ⟨rfl, rfl⟩)))
  · exact zq_some (zFr.sI (hm) _ (Or.inl ⟨rfl, rfl, rfl⟩))
theorem q_X12_depthsIf (x1 : Int32) (x2 : Int32) (m : zM) : zFK (p_X12_depthsIf) m (f_X12_depthsIf x1 x2 m) (fun a => a.2) := by
  unfold f_X12_depthsIf
  refine zq_bind (fun r1 => ?_)
  refine zq_if ?_ ?_
  · exact q_X12_depthsIf_30 m x1 x2 (1 : Int32) m (zFr.refl m)
  · refine zq_bind (fun r3 => ?_)
    refine zq_if ?_ ?_
    · exact q_X12_depthsIf_30 m x1 x2 (2 : Int32) m (zFr.refl m)
    · exact q_X12_depthsIf_30 m x1 x2 (0 : Int32) m (zFr.refl m)
abbrev p_X12_mouthIf (k i j : Nat) : Prop := (k = 13 ∧ i = 0 ∧ j = 0) ∨ (k = 23 ∧ i = 0) ∨ (k = 20 ∧ i = 59) ∨ (k = 20 ∧ i = 61) ∨ (k = 20 ∧ i = 62) ∨ (k = 20 ∧ i = 60)
theorem q_X12_mouthIf_21 (m0 : zM) (m : zM) (hm : zFr (p_X12_mouthIf) m0 m) : zFK (p_X12_mouthIf) m0 (f_X12_mouthIf_21 m) (fun a => a.2) := by
  unfold f_X12_mouthIf_21
  refine zq_call (q_X12_raises (1 : Int32) m) (fun _ _ _ => (fun h => (Or.inl h))) (hm) (fun r1 gr1 => ?_)
  exact zq_some (gr1)
theorem q_X12_mouthIf (x1 : Int32) (x2 : Int32) (m : zM) : zFK (p_X12_mouthIf) m (f_X12_mouthIf x1 x2 m) (fun a => a.2) := by
  unfold f_X12_mouthIf
  refine zq_bind (fun r1 => ?_)
  refine zq_if ?_ ?_
  · exact q_X12_mouthIf_21 m (z_sI m 13 0 0 (0 : Int32)) (zFr.sI (zFr.refl m) _ (Or.inl ⟨rfl, rfl, rfl⟩))
  · refine zq_bind (fun r3 => ?_)
    refine zq_if ?_ ?_
    · exact q_X12_mouthIf_21 m (z_sI m 13 0 0 (0 : Int32)) (zFr.sI (zFr.refl m) _ (Or.inl ⟨rfl, rfl, rfl⟩))
    · refine zq_gd ?_
      refine zq_call (q_X12_looks (z_sI (z_sI m 13 0 0 (0 : Int32)) 23 0 (Int32.toNatClampNeg ((195 : Int32) + x2)) (1 : Int32))) (fun _ _ _ => (fun h => Or.elim h (fun h => (Or.inr (Or.inr (Or.inl h)))) (fun h => Or.elim h (fun h => (Or.inr (Or.inr (Or.inr (Or.inl h))))) (fun h => Or.elim h (fun h => (Or.inr (Or.inr (Or.inr (Or.inr (Or.inl h)))))) (fun h => (Or.inr (Or.inr (Or.inr (Or.inr (Or.inr h)))))))))) (zFr.sI (zFr.sI (zFr.refl m) _ (Or.inl ⟨rfl, rfl, rfl⟩)) _ (Or.inr (Or.inl ⟨rfl, rfl⟩))) (fun r6 gr6 => ?_)
      refine zq_bind (fun r7 => ?_)
      refine zq_gd ?_
      exact zq_some (zFr.sI (gr6) _ (Or.inr (Or.inl ⟨rfl, rfl⟩)))
abbrev p_X12_execute (k i j : Nat) : Prop := (k = 13 ∧ i = 0 ∧ j = 0) ∨ (k = 13 ∧ i = 0 ∧ j = 9) ∨ (k = 13 ∧ i = 0 ∧ j = 8) ∨ (k = 13 ∧ i = 0 ∧ j = 3) ∨ (k = 24 ∧ i = 0) ∨ (k = 23 ∧ i = 0) ∨ (k = 23 ∧ i = 2) ∨ (k = 13 ∧ i = 0 ∧ j = 10)
theorem q_X12_execute_141 (m0 : zM) : ∀ (j : Nat) (x1 : Int32) (x4 : Int32) (m : zM), zFr (p_X12_execute) m0 m → zFK (p_X12_execute) m0 (f_X12_execute_141 j x1 x4 m) (fun a => a.2) := by
  intro j
  induction j with
  | zero =>
    intro _ _ _ _
    exact zq_none
  | succ j ih =>
    intro x1 x4 m hm
    unfold f_X12_execute_141
    refine zq_if ?_ ?_
    · exact zq_some (hm)
    · refine zq_gd ?_
      exact ih x1 (x4 + (1 : Int32)) (z_sI m 23 0 (Int32.toNatClampNeg x4) (m.1 23 2 (Int32.toNatClampNeg x4))) (zFr.sI (hm) _ (Or.inr (Or.inr (Or.inr (Or.inr (Or.inr (Or.inl ⟨rfl, rfl⟩)))))))
theorem q_X12_execute_97 (m0 : zM) (c43 : Int32 → Int32 → Int32 → zM → Option (Int32 × zM)) (hc43 : ∀ (x1 : Int32) (x2 : Int32) (x3 : Int32) (m : zM), zFr (p_X12_execute) m0 m → zFK (p_X12_execute) m0 (c43 x1 x2 x3 m) (fun a => a.2)) (x1 : Int32) (x2 : Int32) (s0 : Int32) (m : zM) (hm : zFr (p_X12_execute) m0 m) : zFK (p_X12_execute) m0 (f_X12_execute_97 c43 x1 x2 s0 m) (fun a => a.2) := by
  unfold f_X12_execute_97
  refine zq_if ?_ ?_
  · exact hc43 x1 x2 s0 m (hm)
  · refine zq_call (q_X12_takes (59 : Int32) m) (fun _ _ _ => (fun h => (Or.inr (Or.inl h)))) (hm) (fun r2 gr2 => ?_)
    refine zq_if ?_ ?_
    · refine zq_call (q_X12_faults r2.2) (fun _ _ _ => (fun h => Or.elim h (fun h => (Or.inr (Or.inr (Or.inr (Or.inr (Or.inr (Or.inr (Or.inr h)))))))) (fun h => Or.elim h (fun h => (Or.inr (Or.inr (Or.inl h)))) (fun h => (Or.inl h))))) (gr2) (fun r4 gr4 => ?_)
      exact zq_some (gr4)
    · exact hc43 x1 x2 s0 r2.2 (gr2)
theorem q_X12_execute_76 (m0 : zM) (c43 : Int32 → Int32 → Int32 → zM → Option (Int32 × zM)) (hc43 : ∀ (x1 : Int32) (x2 : Int32) (x3 : Int32) (m : zM), zFr (p_X12_execute) m0 m → zFK (p_X12_execute) m0 (c43 x1 x2 x3 m) (fun a => a.2)) (x1 : Int32) (s0 : Int32) (s1 : Int32) (m : zM) (hm : zFr (p_X12_execute) m0 m) : zFK (p_X12_execute) m0 (f_X12_execute_76 c43 x1 s0 s1 m) (fun a => a.2) := by
  unfold f_X12_execute_76
  refine zq_if ?_ ?_
  · exact q_X12_execute_97 m0 c43 hc43 (x1 + (1 : Int32)) (s0 ||| s1) (0 : Int32) m (hm)
  · exact q_X12_execute_97 m0 c43 hc43 (x1 + (1 : Int32)) (s0 ||| s1) (1 : Int32) m (hm)
theorem q_X12_execute_43 (m0 : zM) : ∀ (j : Nat) (x1 : Int32) (x2 : Int32) (x3 : Int32) (m : zM), zFr (p_X12_execute) m0 m → zFK (p_X12_execute) m0 (f_X12_execute_43 j x1 x2 x3 m) (fun a => a.2) := by
  intro j
  induction j with
  | zero =>
    intro _ _ _ _ _
    exact zq_none
  | succ j ih =>
    intro x1 x2 x3 m hm
    unfold f_X12_execute_43
    refine zq_if ?_ ?_
    · refine zq_if ?_ ?_
      · refine zq_call (q_X12_changes (z_sI m 13 0 8 (0 : Int32))) (fun _ _ _ => (fun h => Or.elim h (fun h => (Or.inr (Or.inr (Or.inr (Or.inl h))))) (fun h => (Or.inr (Or.inr (Or.inr (Or.inr (Or.inl h)))))))) (zFr.sI (hm) _ (Or.inr (Or.inr (Or.inl ⟨rfl, rfl, rfl⟩)))) (fun r3 gr3 => ?_)
        exact q_X12_execute_141 m0 zF x1 (0 : Int32) r3 (gr3)
      · refine zq_call (q_X12_raises (2 : Int32) (z_sI m 13 0 8 (0 : Int32))) (fun _ _ _ => (fun h => (Or.inl h))) (zFr.sI (hm) _ (Or.inr (Or.inr (Or.inl ⟨rfl, rfl, rfl⟩)))) (fun r4 gr4 => ?_)
        exact zq_some (gr4)
    · refine zq_call (q_X12_command m) (fun _ _ _ => (fun h => Or.elim h (fun h => (Or.inr (Or.inl h))) (fun h => (Or.inr (Or.inr (Or.inr (Or.inr (Or.inr (Or.inr (Or.inl h)))))))))) (hm) (fun r5 gr5 => ?_)
      refine zq_if ?_ ?_
      · refine zq_call (q_X12_faults r5.2) (fun _ _ _ => (fun h => Or.elim h (fun h => (Or.inr (Or.inr (Or.inr (Or.inr (Or.inr (Or.inr (Or.inr h)))))))) (fun h => Or.elim h (fun h => (Or.inr (Or.inr (Or.inl h)))) (fun h => (Or.inl h))))) (gr5) (fun r7 gr7 => ?_)
        exact zq_some (gr7)
      · refine zq_if ?_ ?_
        · exact q_X12_execute_76 m0 (f_X12_execute_43 j) ih x1 x2 (1 : Int32) r5.2 (gr5)
        · exact q_X12_execute_76 m0 (f_X12_execute_43 j) ih x1 x2 (0 : Int32) r5.2 (gr5)
theorem q_X12_execute_7 (m0 : zM) : ∀ (j : Nat) (x1 : Int32) (m : zM), zFr (p_X12_execute) m0 m → zFK (p_X12_execute) m0 (f_X12_execute_7 j x1 m) (fun a => a.2) := by
  intro j
  induction j with
  | zero =>
    intro _ _ _
    exact zq_none
  | succ j ih =>
    intro x1 m hm
    unfold f_X12_execute_7
    refine zq_if ?_ ?_
    · exact q_X12_execute_43 m0 zF (0 : Int32) (0 : Int32) (1 : Int32) (z_sI m 13 0 9 (0 : Int32)) (zFr.sI (hm) _ (Or.inr (Or.inl ⟨rfl, rfl, rfl⟩)))
    · refine zq_gd ?_
      exact ih (x1 + (1 : Int32)) (z_sI m 23 2 (Int32.toNatClampNeg x1) (m.1 23 0 (Int32.toNatClampNeg x1))) (zFr.sI (hm) _ (Or.inr (Or.inr (Or.inr (Or.inr (Or.inr (Or.inr (Or.inl ⟨rfl, rfl⟩))))))))
theorem q_X12_execute (m : zM) : zFK (p_X12_execute) m (f_X12_execute m) (fun a => a.2) := by
  unfold f_X12_execute
  exact q_X12_execute_7 m zF (0 : Int32) (z_sI m 13 0 0 (0 : Int32)) (zFr.sI (zFr.refl m) _ (Or.inl ⟨rfl, rfl, rfl⟩))
abbrev p_X12_map (k i j : Nat) : Prop := (k = 13 ∧ i = 0 ∧ j = 0) ∨ (k = 20 ∧ i = 59) ∨ (k = 20 ∧ i = 61) ∨ (k = 20 ∧ i = 62) ∨ (k = 20 ∧ i = 60)
theorem q_X12_map_29 (m0 : zM) (x1 : Int32) (s1 : Int32) (m : zM) (hm : zFr (p_X12_map) m0 m) : zFK (p_X12_map) m0 (f_X12_map_29 x1 s1 m) (fun a => a.2) := by
  unfold f_X12_map_29
  refine zq_if ?_ ?_
  · refine zq_gd ?_
    refine zq_gd ?_
    refine zq_if ?_ ?_
    · refine zq_gd ?_
      exact zq_some (zFr.sI (hm) _ (Or.inl ⟨rfl, rfl, rfl⟩))
    · refine zq_call (q_X12_looks (z_sI m 13 0 0 s1)) (fun _ _ _ => (fun h => Or.elim h (fun h => (Or.inr (Or.inl h))) (fun h => Or.elim h (fun h => (Or.inr (Or.inr (Or.inl h)))) (fun h => Or.elim h (fun h => (Or.inr (Or.inr (Or.inr (Or.inl h))))) (fun h => (Or.inr (Or.inr (Or.inr (Or.inr h))))))))) (zFr.sI (hm) _ (Or.inl ⟨rfl, rfl, rfl⟩)) (fun r6 gr6 => ?_)
      refine zq_gd ?_
      refine zq_gd ?_
      refine zq_gd ?_
      refine zq_if ?_ ?_
      · refine zq_gd ?_
        refine zq_if ?_ ?_
        · refine zq_gd ?_
          exact zq_some (gr6)
        · refine zq_gd ?_
          refine zq_if ?_ ?_
          · refine zq_gd ?_
            exact zq_some (gr6)
          · refine zq_gd ?_
            refine zq_if ?_ ?_
            · refine zq_gd ?_
              exact zq_some (gr6)
            · refine zq_gd ?_
              exact zq_some (gr6)
      · refine zq_gd ?_
        exact zq_some (gr6)
  · refine zq_gd ?_
    exact zq_some (zFr.sI (hm) _ (Or.inl ⟨rfl, rfl, rfl⟩))
theorem q_X12_map (x1 : Int32) (m : zM) : zFK (p_X12_map) m (f_X12_map x1 m) (fun a => a.2) := by
  unfold f_X12_map
  refine zq_bind (fun r1 => ?_)
  refine zq_gd ?_
  refine zq_bind (fun r3 => ?_)
  refine zq_if ?_ ?_
  · exact q_X12_map_29 m x1 (1 : Int32) m (zFr.refl m)
  · exact q_X12_map_29 m x1 (0 : Int32) m (zFr.refl m)
abbrev p_L_cell (k i j : Nat) : Prop := (k = 32 ∧ i = 0)
theorem q_L_cell (x1 : Int32) (x2 : Int32) (m : zM) : zFK (p_L_cell) m (f_L_cell x1 x2 m) (fun a => a.2) := by
  unfold f_L_cell
  refine zq_callh (q_X11_cell x1 x2 m) (fun _ _ _ h => h.elim) (zFr.refl m) (fun _ _ => rfl) (fun r1 m2 gm2 => ?_)
  refine zq_gd ?_
  exact zq_some (zFr.sL (gm2) _ ⟨rfl, rfl⟩)
abbrev p_X0_plan (g1 : Nat) (k i j : Nat) : Prop := (k = 2 ∧ i = 0 ∧ j = 3) ∨ (k = 2 ∧ i = 0 ∧ j = 4) ∨ (k = 20 ∧ i = 58) ∨ (k = 20 ∧ i = 57) ∨ (k = 20 ∧ i = 56)
theorem q_X0_plan_167 (g1 : Nat) (m0 : zM) (c70 : Int32 → Int32 → Int32 → zM → Option (zM)) (hc70 : ∀ (x3 : Int32) (x4 : Int32) (x5 : Int32) (m : zM), zFr (p_X0_plan g1) m0 m → zFK (p_X0_plan g1) m0 (c70 x3 x4 x5 m) id) (x3 : Int32) (x4 : Int32) (x5 : Int32) (m : zM) (hm : zFr (p_X0_plan g1) m0 m) : zFK (p_X0_plan g1) m0 (f_X0_plan_167 g1 c70 x3 x4 x5 m) id := by
  unfold f_X0_plan_167
  refine zq_if ?_ ?_
  · exact hc70 x3 x4 (x5 + (1 : Int32)) m (hm)
  · refine zq_bind (fun r2 => ?_)
    exact hc70 x3 x4 (x5 + (1 : Int32)) (z_sI m 2 0 4 ((m.1 2 0 4) + (r2 - x3))) (zFr.sI (hm) _ (Or.inr (Or.inl ⟨rfl, rfl, rfl⟩)))
theorem q_X0_plan_127 (g1 : Nat) (m0 : zM) (c70 : Int32 → Int32 → Int32 → zM → Option (zM)) (hc70 : ∀ (x3 : Int32) (x4 : Int32) (x5 : Int32) (m : zM), zFr (p_X0_plan g1) m0 m → zFK (p_X0_plan g1) m0 (c70 x3 x4 x5 m) id) (x3 : Int32) (x5 : Int32) (s0 : Int32) (m : zM) (hm : zFr (p_X0_plan g1) m0 m) : zFK (p_X0_plan g1) m0 (f_X0_plan_127 g1 c70 x3 x5 s0 m) id := by
  unfold f_X0_plan_127
  refine zq_if ?_ ?_
  · exact q_X0_plan_167 g1 m0 c70 hc70 x3 s0 x5 m (hm)
  · refine zq_bind (fun r2 => ?_)
    refine zq_if ?_ ?_
    · exact q_X0_plan_167 g1 m0 c70 hc70 x3 s0 x5 m (hm)
    · refine zq_bind (fun r4 => ?_)
      refine zq_call (q_X0_solve g1 r4 m) (fun _ _ _ => (fun h => (Or.inr (Or.inr (Or.inr (Or.inl h)))))) (hm) (fun r5 gr5 => ?_)
      exact hc70 r4 s0 (x5 + (1 : Int32)) r5 (gr5)
theorem q_X0_plan_70 (g1 : Nat) (m0 : zM) : ∀ (j : Nat) (x3 : Int32) (x4 : Int32) (x5 : Int32) (m : zM), zFr (p_X0_plan g1) m0 m → zFK (p_X0_plan g1) m0 (f_X0_plan_70 g1 j x3 x4 x5 m) id := by
  intro j
  induction j with
  | zero =>
    intro _ _ _ _ _
    exact zq_none
  | succ j ih =>
    intro x3 x4 x5 m hm
    unfold f_X0_plan_70
    refine zq_if ?_ ?_
    · exact zq_some (hm)
    · refine zq_if ?_ ?_
      · exact zq_some (hm)
      · refine zq_call (q_X7_put 20 58 (m.1 2 0 3) x4 m) (fun _ _ _ => (fun h => (Or.inr (Or.inr (Or.inl h))))) (hm) (fun r3 gr3 => ?_)
        refine zq_bind (fun r4 => ?_)
        refine zq_if ?_ ?_
        · refine zq_bind (fun r6 => ?_)
          exact q_X0_plan_127 g1 m0 (f_X0_plan_70 g1 j) ih x3 x5 r6 (z_sI r3 2 0 3 ((r3.1 2 0 3) + (1 : Int32))) (zFr.sI (gr3) _ (Or.inl ⟨rfl, rfl, rfl⟩))
        · exact q_X0_plan_127 g1 m0 (f_X0_plan_70 g1 j) ih x3 x5 (-1 : Int32) (z_sI r3 2 0 3 ((r3.1 2 0 3) + (1 : Int32))) (zFr.sI (gr3) _ (Or.inl ⟨rfl, rfl, rfl⟩))
theorem q_X0_plan_54 (g1 : Nat) (m0 : zM) (x2 : Int32) (x3 : Int32) (m : zM) (hm : zFr (p_X0_plan g1) m0 m) : zFK (p_X0_plan g1) m0 (f_X0_plan_54 g1 x2 x3 m) id := by
  unfold f_X0_plan_54
  exact q_X0_plan_70 g1 m0 zF x3 x2 (0 : Int32) (z_sI (z_sI m 2 0 3 (0 : Int32)) 2 0 4 (0 : Int32)) (zFr.sI (zFr.sI (hm) _ (Or.inl ⟨rfl, rfl, rfl⟩)) _ (Or.inr (Or.inl ⟨rfl, rfl, rfl⟩)))
theorem q_X0_plan_12 (g1 : Nat) (m0 : zM) : ∀ (j : Nat) (x2 : Int32) (x3 : Int32) (x4 : Int32) (m : zM), zFr (p_X0_plan g1) m0 m → zFK (p_X0_plan g1) m0 (f_X0_plan_12 g1 j x2 x3 x4 m) id := by
  intro j
  induction j with
  | zero =>
    intro _ _ _ _ _
    exact zq_none
  | succ j ih =>
    intro x2 x3 x4 m hm
    unfold f_X0_plan_12
    refine zq_if ?_ ?_
    · exact q_X0_plan_54 g1 m0 x2 x3 m (hm)
    · refine zq_if ?_ ?_
      · exact q_X0_plan_54 g1 m0 x2 x3 m (hm)
      · refine zq_bind (fun r3 => ?_)
        refine zq_if ?_ ?_
        · exact ih x2 x3 (x4 + (1 : Int32)) m (hm)
        · refine zq_call (q_X0_solve g1 x4 m) (fun _ _ _ => (fun h => (Or.inr (Or.inr (Or.inr (Or.inl h)))))) (hm) (fun r5 gr5 => ?_)
          refine zq_call (q_X0_keepOwn g1 x4 r5) (fun _ _ _ => (fun h => (Or.inr (Or.inr (Or.inr (Or.inr h)))))) (gr5) (fun r6 gr6 => ?_)
          exact ih x2 x3 (x4 + (1 : Int32)) r6 (gr6)
theorem q_X0_plan (g1 : Nat) (x2 : Int32) (m : zM) : zFK (p_X0_plan g1) m (f_X0_plan g1 x2 m) id := by
  unfold f_X0_plan
  refine zq_bind (fun r1 => ?_)
  exact q_X0_plan_12 g1 m zF x2 r1 (0 : Int32) m (zFr.refl m)
abbrev p_X3_trace (g1 : Nat) (k i j : Nat) : Prop := (k = 5 ∧ i = 0 ∧ j = 0) ∨ (k = 5 ∧ i = 0 ∧ j = 1) ∨ (k = 20 ∧ i = 36) ∨ (k = 20 ∧ i = 41) ∨ (k = 20 ∧ i = 40) ∨ (k = 20 ∧ i = 42) ∨ (k = 20 ∧ i = 43) ∨ (k = 20 ∧ i = 37) ∨ (k = 20 ∧ i = 38) ∨ (k = 20 ∧ i = 39)
theorem q_X3_trace_22 (g1 : Nat) (m0 : zM) : ∀ (j : Nat) (x3 : Int32) (m : zM), zFr (p_X3_trace g1) m0 m → zFK (p_X3_trace g1) m0 (f_X3_trace_22 g1 j x3 m) id := by
  intro j
  induction j with
  | zero =>
    intro _ _ _
    exact zq_none
  | succ j ih =>
    intro x3 m hm
    unfold f_X3_trace_22
    refine zq_if ?_ ?_
    · refine zq_call (q_X3_findSequence m) (fun _ _ _ => (fun h => Or.elim h (fun h => (Or.inr (Or.inr (Or.inr (Or.inl h))))) (fun h => (Or.inr (Or.inr (Or.inr (Or.inr (Or.inl h)))))))) (hm) (fun r2 gr2 => ?_)
      refine zq_call (q_X3_findMouths r2) (fun _ _ _ => (fun h => Or.elim h (fun h => (Or.inr (Or.inr (Or.inr (Or.inr (Or.inr (Or.inl h))))))) (fun h => (Or.inr (Or.inr (Or.inr (Or.inr (Or.inr (Or.inr (Or.inl h)))))))))) (gr2) (fun r3 gr3 => ?_)
      exact zq_some (gr3)
    · refine zq_call (q_X3_choose g1 x3 m) (fun _ _ _ => (fun h => Or.elim h (fun h => (Or.inr (Or.inr (Or.inr (Or.inr (Or.inr (Or.inr (Or.inr (Or.inl h))))))))) (fun h => Or.elim h (fun h => (Or.inr (Or.inr (Or.inr (Or.inr (Or.inr (Or.inr (Or.inr (Or.inr (Or.inl h)))))))))) (fun h => (Or.inr (Or.inr (Or.inr (Or.inr (Or.inr (Or.inr (Or.inr (Or.inr (Or.inr h))))))))))))) (hm) (fun r4 gr4 => ?_)
      exact ih (x3 + (1 : Int32)) r4 (gr4)
theorem q_X3_trace (g1 : Nat) (m : zM) : zFK (p_X3_trace g1) m (f_X3_trace g1 m) id := by
  unfold f_X3_trace
  refine zq_bind (fun r1 => ?_)
  refine zq_call (q_X3_findFlat g1 (z_sI m 5 0 0 r1)) (fun _ _ _ => (fun h => (Or.inr (Or.inl h)))) (zFr.sI (zFr.refl m) _ (Or.inl ⟨rfl, rfl, rfl⟩)) (fun r2 gr2 => ?_)
  refine zq_call (q_X3_findRanks g1 r2) (fun _ _ _ => (fun h => (Or.inr (Or.inr (Or.inl h))))) (gr2) (fun r3 gr3 => ?_)
  exact q_X3_trace_22 g1 m zF (0 : Int32) r3 (gr3)
abbrev p_X9_readCommand (k i j : Nat) : Prop := (k = 10 ∧ i = 0 ∧ j = 4) ∨ (k = 10 ∧ i = 0 ∧ j = 3) ∨ (k = 10 ∧ i = 0 ∧ j = 5) ∨ (k = 10 ∧ i = 0 ∧ j = 6)
theorem q_X9_readCommand_49 (m0 : zM) (x1 : Int32) (m : zM) (hm : zFr (p_X9_readCommand) m0 m) : zFK (p_X9_readCommand) m0 (f_X9_readCommand_49 x1 m) (fun a => a.2) := by
  unfold f_X9_readCommand_49
  refine zq_bind (fun r1 => ?_)
  refine zq_if ?_ ?_
  · exact zq_some (zFr.sI (hm) _ (Or.inr (Or.inl ⟨rfl, rfl, rfl⟩)))
  · refine zq_call (q_X9_readNumber (z_sI m 10 0 3 ((m.1 10 0 3) + (1 : Int32)))) (fun _ _ _ => (fun h => (Or.inr (Or.inl h)))) (zFr.sI (hm) _ (Or.inr (Or.inl ⟨rfl, rfl, rfl⟩))) (fun r3 gr3 => ?_)
    refine zq_if ?_ ?_
    · refine zq_if ?_ ?_
      · refine zq_call (q_X9_readMark (z_sI r3.2 10 0 5 r3.1)) (fun _ _ _ => (fun h => Or.elim h (fun h => (Or.inr (Or.inr (Or.inr h)))) (fun h => (Or.inr (Or.inl h))))) (zFr.sI (gr3) _ (Or.inr (Or.inr (Or.inl ⟨rfl, rfl, rfl⟩)))) (fun r6 gr6 => ?_)
        exact zq_some (gr6)
      · refine zq_call (q_X9_readValue (z_sI r3.2 10 0 5 r3.1)) (fun _ _ _ => (fun h => Or.elim h (fun h => (Or.inr (Or.inl h))) (fun h => (Or.inr (Or.inr (Or.inr h)))))) (zFr.sI (gr3) _ (Or.inr (Or.inr (Or.inl ⟨rfl, rfl, rfl⟩)))) (fun r7 gr7 => ?_)
        exact zq_some (gr7)
    · exact zq_some (zFr.sI (gr3) _ (Or.inr (Or.inr (Or.inl ⟨rfl, rfl, rfl⟩))))
theorem q_X9_readCommand (x1 : Int32) (m : zM) : zFK (p_X9_readCommand) m (f_X9_readCommand x1 m) (fun a => a.2) := by
  unfold f_X9_readCommand
  refine zq_bind (fun r1 => ?_)
  refine zq_if ?_ ?_
  · exact q_X9_readCommand_49 m x1 (z_sI m 10 0 4 r1) (zFr.sI (zFr.refl m) _ (Or.inl ⟨rfl, rfl, rfl⟩))
  · refine zq_if ?_ ?_
    · exact q_X9_readCommand_49 m x1 (z_sI m 10 0 4 r1) (zFr.sI (zFr.refl m) _ (Or.inl ⟨rfl, rfl, rfl⟩))
    · refine zq_if ?_ ?_
      · exact q_X9_readCommand_49 m x1 (z_sI m 10 0 4 r1) (zFr.sI (zFr.refl m) _ (Or.inl ⟨rfl, rfl, rfl⟩))
      · refine zq_if ?_ ?_
        · exact q_X9_readCommand_49 m x1 (z_sI m 10 0 4 r1) (zFr.sI (zFr.refl m) _ (Or.inl ⟨rfl, rfl, rfl⟩))
        · exact zq_some (zFr.sI (zFr.refl m) _ (Or.inl ⟨rfl, rfl, rfl⟩))
abbrev p_X11_level (k i j : Nat) : Prop := (k = 20 ∧ i = 33) ∨ (k = 4 ∧ i = 0 ∧ j = 5) ∨ (k = 20 ∧ i = 34) ∨ (k = 20 ∧ i = 35) ∨ (k = 4 ∧ i = 0 ∧ j = 4) ∨ (k = 30 ∧ i = 0)
theorem q_X11_level (x1 : Int32) (m : zM) : zFK (p_X11_level) m (f_X11_level x1 m) (fun a => a.2) := by
  unfold f_X11_level
  refine zq_callx (q_X11_requireCell x1 m) (fun _ _ _ h => h.elim) (zFr.refl m) (fun _ _ => rfl) (fun r1 m2 gm2 => ?_)
  refine zq_call (q_X2_fill 0 m2) (fun _ _ _ => (fun h => Or.elim h (fun h => (Or.inl h)) (fun h => Or.elim h (fun h => (Or.inr (Or.inl h))) (fun h => Or.elim h (fun h => (Or.inr (Or.inr (Or.inl h)))) (fun h => Or.elim h (fun h => (Or.inr (Or.inr (Or.inr (Or.inl h))))) (fun h => Or.elim h (fun h => (Or.inr (Or.inr (Or.inr (Or.inr (Or.inl h)))))) (fun h => (Or.inr (Or.inr (Or.inr (Or.inr (Or.inr h)))))))))))) (gm2) (fun r3 gr3 => ?_)
  refine zq_bind (fun r4 => ?_)
  exact zq_some (gr3)
abbrev p_X11_levelByPools (k i j : Nat) : Prop := (k = 3 ∧ i = 0 ∧ j = 0) ∨ (k = 21 ∧ i = 1) ∨ (k = 31 ∧ i = 1) ∨ (k = 21 ∧ i = 0) ∨ (k = 21 ∧ i = 2) ∨ (k = 31 ∧ i = 0)
theorem q_X11_levelByPools (x1 : Int32) (m : zM) : zFK (p_X11_levelByPools) m (f_X11_levelByPools x1 m) (fun a => a.2) := by
  unfold f_X11_levelByPools
  refine zq_callx (q_X11_requireCell x1 m) (fun _ _ _ h => h.elim) (zFr.refl m) (fun _ _ => rfl) (fun r1 m2 gm2 => ?_)
  refine zq_call (q_X1_find 0 m2) (fun _ _ _ => (fun h => Or.elim h (fun h => (Or.inl h)) (fun h => Or.elim h (fun h => (Or.inr (Or.inl h))) (fun h => Or.elim h (fun h => (Or.inr (Or.inr (Or.inl h)))) (fun h => Or.elim h (fun h => (Or.inr (Or.inr (Or.inr (Or.inl h))))) (fun h => Or.elim h (fun h => (Or.inr (Or.inr (Or.inr (Or.inr (Or.inl h)))))) (fun h => (Or.inr (Or.inr (Or.inr (Or.inr (Or.inr h)))))))))))) (gm2) (fun r3 gr3 => ?_)
  refine zq_bind (fun r4 => ?_)
  refine zq_if ?_ ?_
  · refine zq_bind (fun r6 => ?_)
    exact zq_some (gr3)
  · refine zq_bind (fun r7 => ?_)
    exact zq_some (gr3)
abbrev p_X11_lakeOf (k i j : Nat) : Prop := (k = 20 ∧ i = 33) ∨ (k = 4 ∧ i = 0 ∧ j = 5) ∨ (k = 20 ∧ i = 34) ∨ (k = 20 ∧ i = 35) ∨ (k = 4 ∧ i = 0 ∧ j = 4) ∨ (k = 30 ∧ i = 0)
theorem q_X11_lakeOf (x1 : Int32) (m : zM) : zFK (p_X11_lakeOf) m (f_X11_lakeOf x1 m) (fun a => a.2) := by
  unfold f_X11_lakeOf
  refine zq_callx (q_X11_requireCell x1 m) (fun _ _ _ h => h.elim) (zFr.refl m) (fun _ _ => rfl) (fun r1 m2 gm2 => ?_)
  refine zq_call (q_X2_fill 0 m2) (fun _ _ _ => (fun h => Or.elim h (fun h => (Or.inl h)) (fun h => Or.elim h (fun h => (Or.inr (Or.inl h))) (fun h => Or.elim h (fun h => (Or.inr (Or.inr (Or.inl h)))) (fun h => Or.elim h (fun h => (Or.inr (Or.inr (Or.inr (Or.inl h))))) (fun h => Or.elim h (fun h => (Or.inr (Or.inr (Or.inr (Or.inr (Or.inl h)))))) (fun h => (Or.inr (Or.inr (Or.inr (Or.inr (Or.inr h)))))))))))) (gm2) (fun r3 gr3 => ?_)
  refine zq_bind (fun r4 => ?_)
  refine zq_if ?_ ?_
  · exact zq_some (gr3)
  · exact zq_some (gr3)
abbrev p_X11_meanDepth (k i j : Nat) : Prop := (k = 20 ∧ i = 33) ∨ (k = 4 ∧ i = 0 ∧ j = 5) ∨ (k = 20 ∧ i = 34) ∨ (k = 20 ∧ i = 35) ∨ (k = 4 ∧ i = 0 ∧ j = 4) ∨ (k = 30 ∧ i = 0)
theorem q_X11_meanDepth (m : zM) : zFK (p_X11_meanDepth) m (f_X11_meanDepth m) (fun a => a.2) := by
  unfold f_X11_meanDepth
  refine zq_call (q_X2_fill 0 m) (fun _ _ _ => (fun h => Or.elim h (fun h => (Or.inl h)) (fun h => Or.elim h (fun h => (Or.inr (Or.inl h))) (fun h => Or.elim h (fun h => (Or.inr (Or.inr (Or.inl h)))) (fun h => Or.elim h (fun h => (Or.inr (Or.inr (Or.inr (Or.inl h))))) (fun h => Or.elim h (fun h => (Or.inr (Or.inr (Or.inr (Or.inr (Or.inl h)))))) (fun h => (Or.inr (Or.inr (Or.inr (Or.inr (Or.inr h)))))))))))) (zFr.refl m) (fun r1 gr1 => ?_)
  refine zq_bind (fun r2 => ?_)
  refine zq_if ?_ ?_
  · exact zq_some (gr1)
  · refine zq_bind (fun r4 => ?_)
    refine zq_gd ?_
    exact zq_some (gr1)
abbrev p_X11_depression (k i j : Nat) : Prop := (k = 3 ∧ i = 0 ∧ j = 0) ∨ (k = 21 ∧ i = 1) ∨ (k = 31 ∧ i = 1) ∨ (k = 21 ∧ i = 0) ∨ (k = 21 ∧ i = 2) ∨ (k = 31 ∧ i = 0)
theorem q_X11_depression (x1 : Int32) (x2 : Int32) (m : zM) : zFK (p_X11_depression) m (f_X11_depression x1 x2 m) (fun a => a.2) := by
  unfold f_X11_depression
  refine zq_call (q_X1_find 0 m) (fun _ _ _ => (fun h => Or.elim h (fun h => (Or.inl h)) (fun h => Or.elim h (fun h => (Or.inr (Or.inl h))) (fun h => Or.elim h (fun h => (Or.inr (Or.inr (Or.inl h)))) (fun h => Or.elim h (fun h => (Or.inr (Or.inr (Or.inr (Or.inl h))))) (fun h => Or.elim h (fun h => (Or.inr (Or.inr (Or.inr (Or.inr (Or.inl h)))))) (fun h => (Or.inr (Or.inr (Or.inr (Or.inr (Or.inr h)))))))))))) (zFr.refl m) (fun r1 gr1 => ?_)
  refine zq_if ?_ ?_
  · exact zq_some (gr1)
  · refine zq_if ?_ ?_
    · refine zq_callx (q_X11_requireRange x2 (0 : Int32) (7 : Int32) r1) (fun _ _ _ h => h.elim) (gr1) (fun _ _ => rfl) (fun r4 m5 gm5 => ?_)
      refine zq_if ?_ ?_
      · refine zq_bind (fun r6 => ?_)
        exact zq_some (gm5)
      refine zq_if ?_ ?_
      · refine zq_bind (fun r7 => ?_)
        exact zq_some (gm5)
      refine zq_if ?_ ?_
      · refine zq_bind (fun r8 => ?_)
        refine zq_bind (fun r9 => ?_)
        exact zq_some (gm5)
      refine zq_if ?_ ?_
      · refine zq_bind (fun r10 => ?_)
        exact zq_some (gm5)
      refine zq_if ?_ ?_
      · refine zq_bind (fun r11 => ?_)
        refine zq_bind (fun r12 => ?_)
        exact zq_some (gm5)
      refine zq_if ?_ ?_
      · refine zq_bind (fun r13 => ?_)
        exact zq_some (gm5)
      refine zq_if ?_ ?_
      · refine zq_bind (fun r14 => ?_)
        exact zq_some (gm5)
      · refine zq_bind (fun r15 => ?_)
        exact zq_some (gm5)
    · exact zq_some (gr1)
abbrev p_X11_depressionAt (k i j : Nat) : Prop := (k = 3 ∧ i = 0 ∧ j = 0) ∨ (k = 21 ∧ i = 1) ∨ (k = 31 ∧ i = 1) ∨ (k = 21 ∧ i = 0) ∨ (k = 21 ∧ i = 2) ∨ (k = 31 ∧ i = 0)
theorem q_X11_depressionAt (x1 : Int32) (x2 : Int32) (m : zM) : zFK (p_X11_depressionAt) m (f_X11_depressionAt x1 x2 m) (fun a => a.2) := by
  unfold f_X11_depressionAt
  refine zq_callx (q_X11_requireCell x1 m) (fun _ _ _ h => h.elim) (zFr.refl m) (fun _ _ => rfl) (fun r1 m2 gm2 => ?_)
  refine zq_callx (q_X11_requireRange x2 (0 : Int32) (99 : Int32) m2) (fun _ _ _ h => h.elim) (gm2) (fun _ _ => rfl) (fun r3 m4 gm4 => ?_)
  refine zq_call (q_X1_find 0 m4) (fun _ _ _ => (fun h => Or.elim h (fun h => (Or.inl h)) (fun h => Or.elim h (fun h => (Or.inr (Or.inl h))) (fun h => Or.elim h (fun h => (Or.inr (Or.inr (Or.inl h)))) (fun h => Or.elim h (fun h => (Or.inr (Or.inr (Or.inr (Or.inl h))))) (fun h => Or.elim h (fun h => (Or.inr (Or.inr (Or.inr (Or.inr (Or.inl h)))))) (fun h => (Or.inr (Or.inr (Or.inr (Or.inr (Or.inr h)))))))))))) (gm4) (fun r5 gr5 => ?_)
  refine zq_bind (fun r6 => ?_)
  refine zq_if ?_ ?_
  · exact zq_some (gr5)
  · exact zq_some (gr5)
abbrev p_X11_depthsIf (k i j : Nat) : Prop := (k = 6 ∧ i = 1 ∧ j = 0) ∨ (k = 6 ∧ i = 1 ∧ j = 1) ∨ (k = 6 ∧ i = 1 ∧ j = 2) ∨ (k = 6 ∧ i = 1 ∧ j = 3) ∨ (k = 20 ∧ i = 3) ∨ (k = 20 ∧ i = 4) ∨ (k = 20 ∧ i = 5) ∨ (k = 20 ∧ i = 33) ∨ (k = 4 ∧ i = 0 ∧ j = 5) ∨ (k = 20 ∧ i = 34) ∨ (k = 20 ∧ i = 35) ∨ (k = 4 ∧ i = 0 ∧ j = 4) ∨ (k = 30 ∧ i = 0)
theorem q_X11_depthsIf (x1 : Int32) (x2 : Int32) (m : zM) : zFK (p_X11_depthsIf) m (f_X11_depthsIf x1 x2 m) (fun a => a.2) := by
  unfold f_X11_depthsIf
  refine zq_callx (q_X11_requireCell x1 m) (fun _ _ _ h => h.elim) (zFr.refl m) (fun _ _ => rfl) (fun r1 m2 gm2 => ?_)
  refine zq_callx (q_X11_requireRange x2 (0 : Int32) (99 : Int32) m2) (fun _ _ _ h => h.elim) (gm2) (fun _ _ => rfl) (fun r3 m4 gm4 => ?_)
  refine zq_call (q_X4_copyFrom 1 0 m4) (fun _ _ _ => (fun h => Or.elim h (fun h => (Or.inl h)) (fun h => Or.elim h (fun h => (Or.inr (Or.inl h))) (fun h => Or.elim h (fun h => (Or.inr (Or.inr (Or.inl h)))) (fun h => Or.elim h (fun h => (Or.inr (Or.inr (Or.inr (Or.inl h))))) (fun h => Or.elim h (fun h => (Or.inr (Or.inr (Or.inr (Or.inr (Or.inl h)))))) (fun h => Or.elim h (fun h => (Or.inr (Or.inr (Or.inr (Or.inr (Or.inr (Or.inl h))))))) (fun h => (Or.inr (Or.inr (Or.inr (Or.inr (Or.inr (Or.inr (Or.inl h))))))))))))))) (gm4) (fun r5 gr5 => ?_)
  refine zq_call (q_X7_put 20 3 x1 x2 r5) (fun _ _ _ => (fun h => (Or.inr (Or.inr (Or.inr (Or.inr (Or.inl h))))))) (gr5) (fun r6 gr6 => ?_)
  refine zq_call (q_X2_fill 1 r6) (fun _ _ _ => (fun h => Or.elim h (fun h => (Or.inr (Or.inr (Or.inr (Or.inr (Or.inr (Or.inr (Or.inr (Or.inl h))))))))) (fun h => Or.elim h (fun h => (Or.inr (Or.inr (Or.inr (Or.inr (Or.inr (Or.inr (Or.inr (Or.inr (Or.inl h)))))))))) (fun h => Or.elim h (fun h => (Or.inr (Or.inr (Or.inr (Or.inr (Or.inr (Or.inr (Or.inr (Or.inr (Or.inr (Or.inl h))))))))))) (fun h => Or.elim h (fun h => (Or.inr (Or.inr (Or.inr (Or.inr (Or.inr (Or.inr (Or.inr (Or.inr (Or.inr (Or.inr (Or.inl h)))))))))))) (fun h => Or.elim h (fun h => (Or.inr (Or.inr (Or.inr (Or.inr (Or.inr (Or.inr (Or.inr (Or.inr (Or.inr (Or.inr (Or.inr (Or.inl h))))))))))))) (fun h => (Or.inr (Or.inr (Or.inr (Or.inr (Or.inr (Or.inr (Or.inr (Or.inr (Or.inr (Or.inr (Or.inr (Or.inr h))))))))))))))))))) (gr6) (fun r7 gr7 => ?_)
  refine zq_bind (fun r8 => ?_)
  refine zq_bind (fun r9 => ?_)
  exact zq_some (gr7)
abbrev p_X11_requireLake (k i j : Nat) : Prop := (k = 20 ∧ i = 33) ∨ (k = 4 ∧ i = 0 ∧ j = 5) ∨ (k = 20 ∧ i = 34) ∨ (k = 20 ∧ i = 35) ∨ (k = 4 ∧ i = 0 ∧ j = 4) ∨ (k = 30 ∧ i = 0)
theorem q_X11_requireLake (x1 : Int32) (m : zM) : zFK (p_X11_requireLake) m (f_X11_requireLake x1 m) (fun a => a.2) := by
  unfold f_X11_requireLake
  refine zq_call (q_X2_fill 0 m) (fun _ _ _ => (fun h => Or.elim h (fun h => (Or.inl h)) (fun h => Or.elim h (fun h => (Or.inr (Or.inl h))) (fun h => Or.elim h (fun h => (Or.inr (Or.inr (Or.inl h)))) (fun h => Or.elim h (fun h => (Or.inr (Or.inr (Or.inr (Or.inl h))))) (fun h => Or.elim h (fun h => (Or.inr (Or.inr (Or.inr (Or.inr (Or.inl h)))))) (fun h => (Or.inr (Or.inr (Or.inr (Or.inr (Or.inr h)))))))))))) (zFr.refl m) (fun r1 gr1 => ?_)
  refine zq_if ?_ ?_
  · exact zq_some (gr1)
  · refine zq_if ?_ ?_
    · exact zq_some (gr1)
    · exact zq_some (gr1)
abbrev p_X12_streams (k i j : Nat) : Prop := (k = 20 ∧ i = 59) ∨ (k = 20 ∧ i = 61) ∨ (k = 20 ∧ i = 62) ∨ (k = 20 ∧ i = 60) ∨ (k = 20 ∧ i = 63) ∨ (k = 13 ∧ i = 0 ∧ j = 18) ∨ (k = 20 ∧ i = 65) ∨ (k = 20 ∧ i = 64)
theorem q_X12_streams_176 (m0 : zM) (c100 : Int32 → zM → Option (zM)) (c132 : Int32 → Int32 → Int32 → zM → Option (zM)) (hc100 : ∀ (x1 : Int32) (m : zM), zFr (p_X12_streams) m0 m → zFK (p_X12_streams) m0 (c100 x1 m) id) (hc132 : ∀ (x1 : Int32) (x2 : Int32) (x3 : Int32) (m : zM), zFr (p_X12_streams) m0 m → zFK (p_X12_streams) m0 (c132 x1 x2 x3 m) id) (x1 : Int32) (x2 : Int32) (m : zM) (hm : zFr (p_X12_streams) m0 m) : zFK (p_X12_streams) m0 (f_X12_streams_176 c100 c132 x1 x2 m) id := by
  unfold f_X12_streams_176
  exact hc132 x1 x2 (0 : Int32) m (hm)
theorem q_X12_streams_132 (m0 : zM) (c100 : Int32 → zM → Option (zM)) (hc100 : ∀ (x1 : Int32) (m : zM), zFr (p_X12_streams) m0 m → zFK (p_X12_streams) m0 (c100 x1 m) id) : ∀ (j : Nat) (x1 : Int32) (x2 : Int32) (x3 : Int32) (m : zM), zFr (p_X12_streams) m0 m → zFK (p_X12_streams) m0 (f_X12_streams_132 c100 j x1 x2 x3 m) id := by
  intro j
  induction j with
  | zero =>
    intro _ _ _ _ _
    exact zq_none
  | succ j ih =>
    intro x1 x2 x3 m hm
    unfold f_X12_streams_132
    refine zq_if ?_ ?_
    · exact hc100 (x1 + (1 : Int32)) (z_sI m 13 0 18 ((m.1 13 0 18) + (1 : Int32))) (zFr.sI (hm) _ (Or.inr (Or.inr (Or.inr (Or.inr (Or.inr (Or.inl ⟨rfl, rfl, rfl⟩)))))))
    · refine zq_gd ?_
      refine zq_bind (fun r3 => ?_)
      refine zq_if ?_ ?_
      · exact q_X12_streams_176 m0 c100 (f_X12_streams_132 c100 j) hc100 ih x1 r3 (z_sI m 20 65 (Int32.toNatClampNeg x2) (m.1 13 0 18)) (zFr.sI (hm) _ (Or.inr (Or.inr (Or.inr (Or.inr (Or.inr (Or.inr (Or.inl ⟨rfl, rfl⟩))))))))
      · refine zq_bind (fun r5 => ?_)
        refine zq_if ?_ ?_
        · exact q_X12_streams_176 m0 c100 (f_X12_streams_132 c100 j) hc100 ih x1 r3 (z_sI m 20 65 (Int32.toNatClampNeg x2) (m.1 13 0 18)) (zFr.sI (hm) _ (Or.inr (Or.inr (Or.inr (Or.inr (Or.inr (Or.inr (Or.inl ⟨rfl, rfl⟩))))))))
        · refine zq_bind (fun r7 => ?_)
          refine zq_if ?_ ?_
          · exact ih x1 r3 (1 : Int32) (z_sI m 20 65 (Int32.toNatClampNeg x2) (m.1 13 0 18)) (zFr.sI (hm) _ (Or.inr (Or.inr (Or.inr (Or.inr (Or.inr (Or.inr (Or.inl ⟨rfl, rfl⟩))))))))
          · exact q_X12_streams_176 m0 c100 (f_X12_streams_132 c100 j) hc100 ih x1 r3 (z_sI m 20 65 (Int32.toNatClampNeg x2) (m.1 13 0 18)) (zFr.sI (hm) _ (Or.inr (Or.inr (Or.inr (Or.inr (Or.inr (Or.inr (Or.inl ⟨rfl, rfl⟩))))))))
theorem q_X12_streams_100 (m0 : zM) : ∀ (j : Nat) (x1 : Int32) (m : zM), zFr (p_X12_streams) m0 m → zFK (p_X12_streams) m0 (f_X12_streams_100 j x1 m) id := by
  intro j
  induction j with
  | zero =>
    intro _ _ _
    exact zq_none
  | succ j ih =>
    intro x1 m hm
    unfold f_X12_streams_100
    refine zq_bind (fun r1 => ?_)
    refine zq_if ?_ ?_
    · exact zq_some (hm)
    · refine zq_bind (fun r3 => ?_)
      refine zq_if ?_ ?_
      · exact ih (x1 + (1 : Int32)) m (hm)
      · refine zq_bind (fun r5 => ?_)
        refine zq_if ?_ ?_
        · exact ih (x1 + (1 : Int32)) m (hm)
        · exact q_X12_streams_132 m0 (f_X12_streams_100 j) ih zF x1 x1 (1 : Int32) m (hm)
theorem q_X12_streams_45 (m0 : zM) (c39 : Int32 → zM → Option (zM)) (hc39 : ∀ (x1 : Int32) (m : zM), zFr (p_X12_streams) m0 m → zFK (p_X12_streams) m0 (c39 x1 m) id) : ∀ (j : Nat) (x1 : Int32) (x2 : Int32) (m : zM), zFr (p_X12_streams) m0 m → zFK (p_X12_streams) m0 (f_X12_streams_45 c39 j x1 x2 m) id := by
  intro j
  induction j with
  | zero =>
    intro _ _ _ _
    exact zq_none
  | succ j ih =>
    intro x1 x2 m hm
    unfold f_X12_streams_45
    refine zq_bind (fun r1 => ?_)
    refine zq_if ?_ ?_
    · exact hc39 (x1 + (-1 : Int32)) m (hm)
    · refine zq_bind (fun r3 => ?_)
      refine zq_if ?_ ?_
      · exact ih x1 (x2 + (1 : Int32)) m (hm)
      · refine zq_bind (fun r5 => ?_)
        refine zq_if ?_ ?_
        · refine zq_bind (fun r7 => ?_)
          refine zq_gd ?_
          exact ih x1 (x2 + (1 : Int32)) (z_sI m 20 64 (Int32.toNatClampNeg x2) r7) (zFr.sI (hm) _ (Or.inr (Or.inr (Or.inr (Or.inr (Or.inr (Or.inr (Or.inr ⟨rfl, rfl⟩))))))))
        · exact ih x1 (x2 + (1 : Int32)) m (hm)
theorem q_X12_streams_39 (m0 : zM) : ∀ (j : Nat) (x1 : Int32) (m : zM), zFr (p_X12_streams) m0 m → zFK (p_X12_streams) m0 (f_X12_streams_39 j x1 m) id := by
  intro j
  induction j with
  | zero =>
    intro _ _ _
    exact zq_none
  | succ j ih =>
    intro x1 m hm
    unfold f_X12_streams_39
    refine zq_if ?_ ?_
    · exact q_X12_streams_100 m0 zF (0 : Int32) (z_sI m 13 0 18 (0 : Int32)) (zFr.sI (hm) _ (Or.inr (Or.inr (Or.inr (Or.inr (Or.inr (Or.inl ⟨rfl, rfl, rfl⟩)))))))
    · exact q_X12_streams_45 m0 (f_X12_streams_39 j) ih zF x1 (0 : Int32) m (hm)
theorem q_X12_streams_6 (m0 : zM) : ∀ (j : Nat) (x1 : Int32) (m : zM), zFr (p_X12_streams) m0 m → zFK (p_X12_streams) m0 (f_X12_streams_6 j x1 m) id := by
  intro j
  induction j with
  | zero =>
    intro _ _ _
    exact zq_none
  | succ j ih =>
    intro x1 m hm
    unfold f_X12_streams_6
    refine zq_bind (fun r1 => ?_)
    refine zq_if ?_ ?_
    · refine zq_bind (fun r3 => ?_)
      exact q_X12_streams_39 m0 zF r3 m (hm)
    · refine zq_gd ?_
      exact ih (x1 + (1 : Int32)) (z_sI (z_sI m 20 64 (Int32.toNatClampNeg x1) (0 : Int32)) 20 65 (Int32.toNatClampNeg x1) (-1 : Int32)) (zFr.sI (zFr.sI (hm) _ (Or.inr (Or.inr (Or.inr (Or.inr (Or.inr (Or.inr (Or.inr ⟨rfl, rfl⟩)))))))) _ (Or.inr (Or.inr (Or.inr (Or.inr (Or.inr (Or.inr (Or.inl ⟨rfl, rfl⟩))))))))
theorem q_X12_streams (m : zM) : zFK (p_X12_streams) m (f_X12_streams m) id := by
  unfold f_X12_streams
  refine zq_call (q_X12_waters m) (fun _ _ _ => (fun h => Or.elim h (fun h => (Or.inl h)) (fun h => Or.elim h (fun h => (Or.inr (Or.inl h))) (fun h => Or.elim h (fun h => (Or.inr (Or.inr (Or.inl h)))) (fun h => Or.elim h (fun h => (Or.inr (Or.inr (Or.inr (Or.inl h))))) (fun h => (Or.inr (Or.inr (Or.inr (Or.inr (Or.inl h))))))))))) (zFr.refl m) (fun r1 gr1 => ?_)
  exact q_X12_streams_6 m zF (0 : Int32) r1 (gr1)
abbrev p_X12_isLake (k i j : Nat) : Prop := (k = 20 ∧ i = 59) ∨ (k = 20 ∧ i = 61) ∨ (k = 20 ∧ i = 62) ∨ (k = 20 ∧ i = 60) ∨ (k = 13 ∧ i = 0 ∧ j = 18) ∨ (k = 20 ∧ i = 66) ∨ (k = 20 ∧ i = 65)
theorem q_X12_isLake (x1 : Int32) (m : zM) : zFK (p_X12_isLake) m (f_X12_isLake x1 m) (fun a => a.2) := by
  unfold f_X12_isLake
  refine zq_call (q_X12_lakes m) (fun _ _ _ => (fun h => Or.elim h (fun h => (Or.inl h)) (fun h => Or.elim h (fun h => (Or.inr (Or.inl h))) (fun h => Or.elim h (fun h => (Or.inr (Or.inr (Or.inl h)))) (fun h => Or.elim h (fun h => (Or.inr (Or.inr (Or.inr (Or.inl h))))) (fun h => Or.elim h (fun h => (Or.inr (Or.inr (Or.inr (Or.inr (Or.inl h)))))) (fun h => Or.elim h (fun h => (Or.inr (Or.inr (Or.inr (Or.inr (Or.inr (Or.inl h))))))) (fun h => (Or.inr (Or.inr (Or.inr (Or.inr (Or.inr (Or.inr h)))))))))))))) (zFr.refl m) (fun r1 gr1 => ?_)
  refine zq_bind (fun r2 => ?_)
  exact zq_some (gr1)
abbrev p_X12_lakeOf (k i j : Nat) : Prop := (k = 13 ∧ i = 0 ∧ j = 0) ∨ (k = 20 ∧ i = 59) ∨ (k = 20 ∧ i = 61) ∨ (k = 20 ∧ i = 62) ∨ (k = 20 ∧ i = 60) ∨ (k = 13 ∧ i = 0 ∧ j = 18) ∨ (k = 20 ∧ i = 66) ∨ (k = 20 ∧ i = 65)
theorem q_X12_lakeOf (x1 : Int32) (m : zM) : zFK (p_X12_lakeOf) m (f_X12_lakeOf x1 m) (fun a => a.2) := by
  unfold f_X12_lakeOf
  refine zq_bind (fun r1 => ?_)
  refine zq_if ?_ ?_
  · refine zq_call (q_X12_raises (1 : Int32) (z_sI m 13 0 0 (0 : Int32))) (fun _ _ _ => (fun h => (Or.inl h))) (zFr.sI (zFr.refl m) _ (Or.inl ⟨rfl, rfl, rfl⟩)) (fun r3 gr3 => ?_)
    exact zq_some (gr3)
  · refine zq_call (q_X12_lakes (z_sI m 13 0 0 (0 : Int32))) (fun _ _ _ => (fun h => Or.elim h (fun h => (Or.inr (Or.inl h))) (fun h => Or.elim h (fun h => (Or.inr (Or.inr (Or.inl h)))) (fun h => Or.elim h (fun h => (Or.inr (Or.inr (Or.inr (Or.inl h))))) (fun h => Or.elim h (fun h => (Or.inr (Or.inr (Or.inr (Or.inr (Or.inl h)))))) (fun h => Or.elim h (fun h => (Or.inr (Or.inr (Or.inr (Or.inr (Or.inr (Or.inl h))))))) (fun h => Or.elim h (fun h => (Or.inr (Or.inr (Or.inr (Or.inr (Or.inr (Or.inr (Or.inl h)))))))) (fun h => (Or.inr (Or.inr (Or.inr (Or.inr (Or.inr (Or.inr (Or.inr h))))))))))))))) (zFr.sI (zFr.refl m) _ (Or.inl ⟨rfl, rfl, rfl⟩)) (fun r4 gr4 => ?_)
    refine zq_gd ?_
    refine zq_if ?_ ?_
    · refine zq_gd ?_
      exact zq_some (gr4)
    · refine zq_call (q_X12_raises (2 : Int32) r4) (fun _ _ _ => (fun h => (Or.inl h))) (gr4) (fun r8 gr8 => ?_)
      exact zq_some (gr8)
abbrev p_X12_carveWay (k i j : Nat) : Prop := (k = 13 ∧ i = 0 ∧ j = 0) ∨ (k = 13 ∧ i = 0 ∧ j = 30) ∨ (k = 13 ∧ i = 0 ∧ j = 29) ∨ (k = 27 ∧ i = 0) ∨ (k = 26 ∧ i = 0)
theorem q_X12_carveWay (x1 : Int32) (x2 : Int32) (m : zM) : zFK (p_X12_carveWay) m (f_X12_carveWay x1 x2 m) (fun a => a.2) := by
  unfold f_X12_carveWay
  refine zq_bind (fun r1 => ?_)
  refine zq_if ?_ ?_
  · refine zq_call (q_X12_raises (1 : Int32) (z_sI m 13 0 0 (0 : Int32))) (fun _ _ _ => (fun h => (Or.inl h))) (zFr.sI (zFr.refl m) _ (Or.inl ⟨rfl, rfl, rfl⟩)) (fun r3 gr3 => ?_)
    exact zq_some (gr3)
  · refine zq_call (q_X12_bestWay x1 (z_sI m 13 0 0 (0 : Int32))) (fun _ _ _ => (fun h => Or.elim h (fun h => (Or.inr (Or.inl h))) (fun h => Or.elim h (fun h => (Or.inr (Or.inr (Or.inl h)))) (fun h => Or.elim h (fun h => (Or.inr (Or.inr (Or.inr (Or.inl h))))) (fun h => (Or.inr (Or.inr (Or.inr (Or.inr h))))))))) (zFr.sI (zFr.refl m) _ (Or.inl ⟨rfl, rfl, rfl⟩)) (fun r4 gr4 => ?_)
    refine zq_bind (fun r5 => ?_)
    refine zq_if ?_ ?_
    · refine zq_call (q_X12_raises (2 : Int32) r4) (fun _ _ _ => (fun h => (Or.inl h))) (gr4) (fun r7 gr7 => ?_)
      exact zq_some (gr7)
    · refine zq_gd ?_
      exact zq_some (gr4)
abbrev p_X12_water (k i j : Nat) : Prop := (k = 13 ∧ i = 0 ∧ j = 0) ∨ (k = 20 ∧ i = 59) ∨ (k = 20 ∧ i = 61) ∨ (k = 20 ∧ i = 62) ∨ (k = 20 ∧ i = 60) ∨ (k = 20 ∧ i = 63)
theorem q_X12_water (x1 : Int32) (x2 : Int32) (m : zM) : zFK (p_X12_water) m (f_X12_water x1 x2 m) (fun a => a.2) := by
  unfold f_X12_water
  refine zq_bind (fun r1 => ?_)
  refine zq_if ?_ ?_
  · refine zq_call (q_X12_raises (1 : Int32) (z_sI m 13 0 0 (0 : Int32))) (fun _ _ _ => (fun h => (Or.inl h))) (zFr.sI (zFr.refl m) _ (Or.inl ⟨rfl, rfl, rfl⟩)) (fun r3 gr3 => ?_)
    exact zq_some (gr3)
  · refine zq_call (q_X12_waters (z_sI m 13 0 0 (0 : Int32))) (fun _ _ _ => (fun h => Or.elim h (fun h => (Or.inr (Or.inl h))) (fun h => Or.elim h (fun h => (Or.inr (Or.inr (Or.inl h)))) (fun h => Or.elim h (fun h => (Or.inr (Or.inr (Or.inr (Or.inl h))))) (fun h => Or.elim h (fun h => (Or.inr (Or.inr (Or.inr (Or.inr (Or.inl h)))))) (fun h => (Or.inr (Or.inr (Or.inr (Or.inr (Or.inr h))))))))))) (zFr.sI (zFr.refl m) _ (Or.inl ⟨rfl, rfl, rfl⟩)) (fun r4 gr4 => ?_)
    refine zq_if ?_ ?_
    · refine zq_bind (fun r5 => ?_)
      exact zq_some (gr4)
    refine zq_if ?_ ?_
    · refine zq_gd ?_
      exact zq_some (gr4)
    refine zq_if ?_ ?_
    · refine zq_bind (fun r7 => ?_)
      exact zq_some (gr4)
    refine zq_if ?_ ?_
    · refine zq_gd ?_
      refine zq_bind (fun r9 => ?_)
      exact zq_some (gr4)
    · refine zq_call (q_X12_raises (2 : Int32) r4) (fun _ _ _ => (fun h => (Or.inl h))) (gr4) (fun r10 gr10 => ?_)
      exact zq_some (gr10)
abbrev p_X12_leaves (k i j : Nat) : Prop := (k = 20 ∧ i = 59) ∨ (k = 20 ∧ i = 61) ∨ (k = 20 ∧ i = 62) ∨ (k = 20 ∧ i = 60) ∨ (k = 20 ∧ i = 63)
theorem q_X12_leaves_8 (m0 : zM) : ∀ (j : Nat) (x1 : Int32) (x2 : Int32) (m : zM), zFr (p_X12_leaves) m0 m → zFK (p_X12_leaves) m0 (f_X12_leaves_8 j x1 x2 m) (fun a => a.2) := by
  intro j
  induction j with
  | zero =>
    intro _ _ _ _
    exact zq_none
  | succ j ih =>
    intro x1 x2 m hm
    unfold f_X12_leaves_8
    refine zq_bind (fun r1 => ?_)
    refine zq_if ?_ ?_
    · exact zq_some (hm)
    · refine zq_bind (fun r3 => ?_)
      refine zq_if ?_ ?_
      · exact ih x1 (x2 + (1 : Int32)) m (hm)
      · refine zq_gd ?_
        refine zq_bind (fun r6 => ?_)
        exact ih (x1 + ((m.1 20 63 (Int32.toNatClampNeg x2)) - r6)) (x2 + (1 : Int32)) m (hm)
theorem q_X12_leaves (m : zM) : zFK (p_X12_leaves) m (f_X12_leaves m) (fun a => a.2) := by
  unfold f_X12_leaves
  refine zq_call (q_X12_waters m) (fun _ _ _ => (fun h => Or.elim h (fun h => (Or.inl h)) (fun h => Or.elim h (fun h => (Or.inr (Or.inl h))) (fun h => Or.elim h (fun h => (Or.inr (Or.inr (Or.inl h)))) (fun h => Or.elim h (fun h => (Or.inr (Or.inr (Or.inr (Or.inl h))))) (fun h => (Or.inr (Or.inr (Or.inr (Or.inr h)))))))))) (zFr.refl m) (fun r1 gr1 => ?_)
  exact q_X12_leaves_8 m zF (0 : Int32) (0 : Int32) r1 (gr1)
abbrev p_X12_basin (k i j : Nat) : Prop := (k = 13 ∧ i = 0 ∧ j = 0) ∨ (k = 20 ∧ i = 59) ∨ (k = 20 ∧ i = 61) ∨ (k = 20 ∧ i = 62) ∨ (k = 20 ∧ i = 60) ∨ (k = 20 ∧ i = 63)
theorem q_X12_basin_107 (m0 : zM) (c60 : Int32 → Int32 → Int32 → Int32 → zM → Option (Int32 × zM)) (hc60 : ∀ (x1 : Int32) (x2 : Int32) (x3 : Int32) (x4 : Int32) (m : zM), zFr (p_X12_basin) m0 m → zFK (p_X12_basin) m0 (c60 x1 x2 x3 x4 m) (fun a => a.2)) (x1 : Int32) (x2 : Int32) (x3 : Int32) (x4 : Int32) (m : zM) (hm : zFr (p_X12_basin) m0 m) : zFK (p_X12_basin) m0 (f_X12_basin_107 c60 x1 x2 x3 x4 m) (fun a => a.2) := by
  unfold f_X12_basin_107
  refine zq_if ?_ ?_
  · refine zq_bind (fun r2 => ?_)
    refine zq_bind (fun r3 => ?_)
    exact hc60 x1 x2 r3 (x4 + (1 : Int32)) m (hm)
  · exact hc60 x1 x2 x3 (x4 + (1 : Int32)) m (hm)
theorem q_X12_basin_89 (m0 : zM) (c60 : Int32 → Int32 → Int32 → Int32 → zM → Option (Int32 × zM)) (hc60 : ∀ (x1 : Int32) (x2 : Int32) (x3 : Int32) (x4 : Int32) (m : zM), zFr (p_X12_basin) m0 m → zFK (p_X12_basin) m0 (c60 x1 x2 x3 x4 m) (fun a => a.2)) (x1 : Int32) (x2 : Int32) (x3 : Int32) (x4 : Int32) (m : zM) (hm : zFr (p_X12_basin) m0 m) : zFK (p_X12_basin) m0 (f_X12_basin_89 c60 x1 x2 x3 x4 m) (fun a => a.2) := by
  unfold f_X12_basin_89
  refine zq_if ?_ ?_
  · refine zq_gd ?_
    exact q_X12_basin_107 m0 c60 hc60 x1 x2 (x3 + (m.1 23 0 (Int32.toNatClampNeg ((67 : Int32) + x4)))) x4 m (hm)
  · exact q_X12_basin_107 m0 c60 hc60 x1 x2 x3 x4 m (hm)
theorem q_X12_basin_60 (m0 : zM) : ∀ (j : Nat) (x1 : Int32) (x2 : Int32) (x3 : Int32) (x4 : Int32) (m : zM), zFr (p_X12_basin) m0 m → zFK (p_X12_basin) m0 (f_X12_basin_60 j x1 x2 x3 x4 m) (fun a => a.2) := by
  intro j
  induction j with
  | zero =>
    intro _ _ _ _ _ _
    exact zq_none
  | succ j ih =>
    intro x1 x2 x3 x4 m hm
    unfold f_X12_basin_60
    refine zq_bind (fun r1 => ?_)
    refine zq_if ?_ ?_
    · refine zq_if ?_ ?_
      · refine zq_gd ?_
        refine zq_bind (fun r5 => ?_)
        exact zq_some (hm)
      · exact zq_some (hm)
    · refine zq_bind (fun r6 => ?_)
      refine zq_if ?_ ?_
      · refine zq_if ?_ ?_
        · exact q_X12_basin_89 m0 (f_X12_basin_60 j) ih x1 x2 (x3 + (1 : Int32)) x4 m (hm)
        · exact q_X12_basin_89 m0 (f_X12_basin_60 j) ih x1 x2 x3 x4 m (hm)
      · exact ih x1 x2 x3 (x4 + (1 : Int32)) m (hm)
theorem q_X12_basin (x1 : Int32) (x2 : Int32) (m : zM) : zFK (p_X12_basin) m (f_X12_basin x1 x2 m) (fun a => a.2) := by
  unfold f_X12_basin
  refine zq_bind (fun r1 => ?_)
  refine zq_if ?_ ?_
  · refine zq_call (q_X12_raises (1 : Int32) (z_sI m 13 0 0 (0 : Int32))) (fun _ _ _ => (fun h => (Or.inl h))) (zFr.sI (zFr.refl m) _ (Or.inl ⟨rfl, rfl, rfl⟩)) (fun r3 gr3 => ?_)
    exact zq_some (gr3)
  · refine zq_bind (fun r4 => ?_)
    refine zq_if ?_ ?_
    · refine zq_call (q_X12_raises (2 : Int32) (z_sI m 13 0 0 (0 : Int32))) (fun _ _ _ => (fun h => (Or.inl h))) (zFr.sI (zFr.refl m) _ (Or.inl ⟨rfl, rfl, rfl⟩)) (fun r6 gr6 => ?_)
      exact zq_some (gr6)
    · refine zq_bind (fun r7 => ?_)
      refine zq_if ?_ ?_
      · refine zq_call (q_X12_raises (3 : Int32) (z_sI m 13 0 0 (0 : Int32))) (fun _ _ _ => (fun h => (Or.inl h))) (zFr.sI (zFr.refl m) _ (Or.inl ⟨rfl, rfl, rfl⟩)) (fun r9 gr9 => ?_)
        exact zq_some (gr9)
      · refine zq_call (q_X12_waters (z_sI m 13 0 0 (0 : Int32))) (fun _ _ _ => (fun h => Or.elim h (fun h => (Or.inr (Or.inl h))) (fun h => Or.elim h (fun h => (Or.inr (Or.inr (Or.inl h)))) (fun h => Or.elim h (fun h => (Or.inr (Or.inr (Or.inr (Or.inl h))))) (fun h => Or.elim h (fun h => (Or.inr (Or.inr (Or.inr (Or.inr (Or.inl h)))))) (fun h => (Or.inr (Or.inr (Or.inr (Or.inr (Or.inr h))))))))))) (zFr.sI (zFr.refl m) _ (Or.inl ⟨rfl, rfl, rfl⟩)) (fun r10 gr10 => ?_)
        exact q_X12_basin_60 m zF x1 x2 (0 : Int32) (0 : Int32) r10 (gr10)
abbrev p_X12_section (k i j : Nat) : Prop := (k = 13 ∧ i = 0 ∧ j = 0) ∨ (k = 20 ∧ i = 59) ∨ (k = 20 ∧ i = 61) ∨ (k = 20 ∧ i = 62) ∨ (k = 20 ∧ i = 60) ∨ (k = 20 ∧ i = 63)
theorem q_X12_section_21 (m0 : zM) (m : zM) (hm : zFr (p_X12_section) m0 m) : zFK (p_X12_section) m0 (f_X12_section_21 m) (fun a => a.2) := by
  unfold f_X12_section_21
  refine zq_call (q_X12_raises (1 : Int32) m) (fun _ _ _ => (fun h => (Or.inl h))) (hm) (fun r1 gr1 => ?_)
  exact zq_some (gr1)
theorem q_X12_section_200 (m0 : zM) (c82 : Int32 → Int32 → Int32 → Int32 → Int32 → Int32 → zM → Option (Int32 × zM)) (hc82 : ∀ (x1 : Int32) (x2 : Int32) (x3 : Int32) (x4 : Int32) (x5 : Int32) (x6 : Int32) (m : zM), zFr (p_X12_section) m0 m → zFK (p_X12_section) m0 (c82 x1 x2 x3 x4 x5 x6 m) (fun a => a.2)) (x1 : Int32) (x2 : Int32) (x3 : Int32) (x4 : Int32) (x5 : Int32) (x6 : Int32) (x7 : Int32) (m : zM) (hm : zFr (p_X12_section) m0 m) : zFK (p_X12_section) m0 (f_X12_section_200 c82 x1 x2 x3 x4 x5 x6 x7 m) (fun a => a.2) := by
  unfold f_X12_section_200
  refine zq_if ?_ ?_
  · refine zq_bind (fun r2 => ?_)
    refine zq_if ?_ ?_
    · exact hc82 x1 x2 x3 x4 x5 (x6 + (1 : Int32)) m (hm)
    · exact hc82 x1 x2 x3 x4 (x5 + (1 : Int32)) (x6 + (1 : Int32)) m (hm)
  · exact hc82 x1 x2 x3 x4 x5 (x6 + (1 : Int32)) m (hm)
theorem q_X12_section_182 (m0 : zM) (c82 : Int32 → Int32 → Int32 → Int32 → Int32 → Int32 → zM → Option (Int32 × zM)) (hc82 : ∀ (x1 : Int32) (x2 : Int32) (x3 : Int32) (x4 : Int32) (x5 : Int32) (x6 : Int32) (m : zM), zFr (p_X12_section) m0 m → zFK (p_X12_section) m0 (c82 x1 x2 x3 x4 x5 x6 m) (fun a => a.2)) (x1 : Int32) (x2 : Int32) (x3 : Int32) (x4 : Int32) (x5 : Int32) (x6 : Int32) (x7 : Int32) (m : zM) (hm : zFr (p_X12_section) m0 m) : zFK (p_X12_section) m0 (f_X12_section_182 c82 x1 x2 x3 x4 x5 x6 x7 m) (fun a => a.2) := by
  unfold f_X12_section_182
  refine zq_if ?_ ?_
  · refine zq_bind (fun r2 => ?_)
    refine zq_bind (fun r3 => ?_)
    exact q_X12_section_200 m0 c82 hc82 x1 x2 x3 x4 r3 x6 x7 m (hm)
  · exact q_X12_section_200 m0 c82 hc82 x1 x2 x3 x4 x5 x6 x7 m (hm)
theorem q_X12_section_164 (m0 : zM) (c82 : Int32 → Int32 → Int32 → Int32 → Int32 → Int32 → zM → Option (Int32 × zM)) (hc82 : ∀ (x1 : Int32) (x2 : Int32) (x3 : Int32) (x4 : Int32) (x5 : Int32) (x6 : Int32) (m : zM), zFr (p_X12_section) m0 m → zFK (p_X12_section) m0 (c82 x1 x2 x3 x4 x5 x6 m) (fun a => a.2)) (x1 : Int32) (x2 : Int32) (x3 : Int32) (x4 : Int32) (x5 : Int32) (x6 : Int32) (x7 : Int32) (m : zM) (hm : zFr (p_X12_section) m0 m) : zFK (p_X12_section) m0 (f_X12_section_164 c82 x1 x2 x3 x4 x5 x6 x7 m) (fun a => a.2) := by
  unfold f_X12_section_164
  refine zq_if ?_ ?_
  · refine zq_bind (fun r2 => ?_)
    refine zq_bind (fun r3 => ?_)
    exact q_X12_section_182 m0 c82 hc82 x1 x2 x3 x4 r3 x6 x7 m (hm)
  · exact q_X12_section_182 m0 c82 hc82 x1 x2 x3 x4 x5 x6 x7 m (hm)
theorem q_X12_section_147 (m0 : zM) (c82 : Int32 → Int32 → Int32 → Int32 → Int32 → Int32 → zM → Option (Int32 × zM)) (hc82 : ∀ (x1 : Int32) (x2 : Int32) (x3 : Int32) (x4 : Int32) (x5 : Int32) (x6 : Int32) (m : zM), zFr (p_X12_section) m0 m → zFK (p_X12_section) m0 (c82 x1 x2 x3 x4 x5 x6 m) (fun a => a.2)) (x1 : Int32) (x2 : Int32) (x3 : Int32) (x4 : Int32) (x5 : Int32) (x6 : Int32) (x7 : Int32) (x8 : Int32) (m : zM) (hm : zFr (p_X12_section) m0 m) : zFK (p_X12_section) m0 (f_X12_section_147 c82 x1 x2 x3 x4 x5 x6 x7 x8 m) (fun a => a.2) := by
  unfold f_X12_section_147
  refine zq_if ?_ ?_
  · refine zq_bind (fun r2 => ?_)
    exact q_X12_section_164 m0 c82 hc82 x1 x2 x3 x4 (x5 + r2) x6 x7 m (hm)
  · exact q_X12_section_164 m0 c82 hc82 x1 x2 x3 x4 x5 x6 x7 m (hm)
theorem q_X12_section_129 (m0 : zM) (c82 : Int32 → Int32 → Int32 → Int32 → Int32 → Int32 → zM → Option (Int32 × zM)) (hc82 : ∀ (x1 : Int32) (x2 : Int32) (x3 : Int32) (x4 : Int32) (x5 : Int32) (x6 : Int32) (m : zM), zFr (p_X12_section) m0 m → zFK (p_X12_section) m0 (c82 x1 x2 x3 x4 x5 x6 m) (fun a => a.2)) (x1 : Int32) (x2 : Int32) (x3 : Int32) (x4 : Int32) (x5 : Int32) (x6 : Int32) (x7 : Int32) (s0 : Int32) (m : zM) (hm : zFr (p_X12_section) m0 m) : zFK (p_X12_section) m0 (f_X12_section_129 c82 x1 x2 x3 x4 x5 x6 x7 s0 m) (fun a => a.2) := by
  unfold f_X12_section_129
  refine zq_if ?_ ?_
  · refine zq_bind (fun r2 => ?_)
    exact q_X12_section_147 m0 c82 hc82 x1 x2 x3 x4 (x5 + r2) x6 x7 s0 m (hm)
  · exact q_X12_section_147 m0 c82 hc82 x1 x2 x3 x4 x5 x6 x7 s0 m (hm)
theorem q_X12_section_82 (m0 : zM) : ∀ (j : Nat) (x1 : Int32) (x2 : Int32) (x3 : Int32) (x4 : Int32) (x5 : Int32) (x6 : Int32) (m : zM), zFr (p_X12_section) m0 m → zFK (p_X12_section) m0 (f_X12_section_82 j x1 x2 x3 x4 x5 x6 m) (fun a => a.2) := by
  intro j
  induction j with
  | zero =>
    intro _ _ _ _ _ _ _ _
    exact zq_none
  | succ j ih =>
    intro x1 x2 x3 x4 x5 x6 m hm
    unfold f_X12_section_82
    refine zq_if ?_ ?_
    · exact zq_some (hm)
    · refine zq_bind (fun r2 => ?_)
      refine zq_if ?_ ?_
      · exact q_X12_section_129 m0 (f_X12_section_82 j) ih x1 x2 x3 x4 x5 x6 r2 (0 : Int32) m (hm)
      · refine zq_bind (fun r4 => ?_)
        refine zq_bind (fun r5 => ?_)
        refine zq_bind (fun r6 => ?_)
        exact q_X12_section_129 m0 (f_X12_section_82 j) ih x1 x2 x3 x4 x5 x6 r2 (r4 - r6) m (hm)
theorem q_X12_section_77 (m0 : zM) (x1 : Int32) (x2 : Int32) (x3 : Int32) (x4 : Int32) (s0 : Int32) (m : zM) (hm : zFr (p_X12_section) m0 m) : zFK (p_X12_section) m0 (f_X12_section_77 x1 x2 x3 x4 s0 m) (fun a => a.2) := by
  unfold f_X12_section_77
  exact q_X12_section_82 m0 zF x1 x2 x3 x4 s0 (0 : Int32) m (hm)
theorem q_X12_section (x1 : Int32) (x2 : Int32) (x3 : Int32) (m : zM) : zFK (p_X12_section) m (f_X12_section x1 x2 x3 m) (fun a => a.2) := by
  unfold f_X12_section
  refine zq_bind (fun r1 => ?_)
  refine zq_if ?_ ?_
  · exact q_X12_section_21 m (z_sI m 13 0 0 (0 : Int32)) (zFr.sI (zFr.refl m) _ (Or.inl ⟨rfl, rfl, rfl⟩))
  · refine zq_bind (fun r3 => ?_)
    refine zq_if ?_ ?_
    · exact q_X12_section_21 m (z_sI m 13 0 0 (0 : Int32)) (zFr.sI (zFr.refl m) _ (Or.inl ⟨rfl, rfl, rfl⟩))
    · refine zq_bind (fun r5 => ?_)
      refine zq_if ?_ ?_
      · refine zq_call (q_X12_raises (2 : Int32) (z_sI m 13 0 0 (0 : Int32))) (fun _ _ _ => (fun h => (Or.inl h))) (zFr.sI (zFr.refl m) _ (Or.inl ⟨rfl, rfl, rfl⟩)) (fun r7 gr7 => ?_)
        exact zq_some (gr7)
      · refine zq_bind (fun r8 => ?_)
        refine zq_if ?_ ?_
        · exact zq_some (zFr.sI (zFr.refl m) _ (Or.inl ⟨rfl, rfl, rfl⟩))
        · refine zq_call (q_X12_waters (z_sI m 13 0 0 (0 : Int32))) (fun _ _ _ => (fun h => Or.elim h (fun h => (Or.inr (Or.inl h))) (fun h => Or.elim h (fun h => (Or.inr (Or.inr (Or.inl h)))) (fun h => Or.elim h (fun h => (Or.inr (Or.inr (Or.inr (Or.inl h))))) (fun h => Or.elim h (fun h => (Or.inr (Or.inr (Or.inr (Or.inr (Or.inl h)))))) (fun h => (Or.inr (Or.inr (Or.inr (Or.inr (Or.inr h))))))))))) (zFr.sI (zFr.refl m) _ (Or.inl ⟨rfl, rfl, rfl⟩)) (fun r10 gr10 => ?_)
          refine zq_if ?_ ?_
          · exact q_X12_section_77 m x1 x2 x3 r8 (1000000 : Int32) r10 (gr10)
          · exact q_X12_section_77 m x1 x2 x3 r8 (0 : Int32) r10 (gr10)
abbrev p_X12_sees (k i j : Nat) : Prop := (k = 13 ∧ i = 0 ∧ j = 0)
theorem q_X12_sees_38 (m0 : zM) (x1 : Int32) (x2 : Int32) (x3 : Int32) (s1 : Int32) (m : zM) (hm : zFr (p_X12_sees) m0 m) : zFK (p_X12_sees) m0 (f_X12_sees_38 x1 x2 x3 s1 m) (fun a => a.2) := by
  unfold f_X12_sees_38
  refine zq_if ?_ ?_
  · refine zq_bind (fun r2 => ?_)
    refine zq_if ?_ ?_
    · exact zq_some (zFr.sI (hm) _ ⟨rfl, rfl, rfl⟩)
    · exact zq_some (zFr.sI (hm) _ ⟨rfl, rfl, rfl⟩)
  · exact zq_some (zFr.sI (hm) _ ⟨rfl, rfl, rfl⟩)
theorem q_X12_sees (x1 : Int32) (x2 : Int32) (x3 : Int32) (m : zM) : zFK (p_X12_sees) m (f_X12_sees x1 x2 x3 m) (fun a => a.2) := by
  unfold f_X12_sees
  refine zq_bind (fun r1 => ?_)
  refine zq_if ?_ ?_
  · exact q_X12_sees_38 m x1 x2 x3 (1 : Int32) m (zFr.refl m)
  · refine zq_bind (fun r3 => ?_)
    refine zq_if ?_ ?_
    · exact q_X12_sees_38 m x1 x2 x3 (1 : Int32) m (zFr.refl m)
    · refine zq_bind (fun r5 => ?_)
      refine zq_if ?_ ?_
      · exact q_X12_sees_38 m x1 x2 x3 (2 : Int32) m (zFr.refl m)
      · exact q_X12_sees_38 m x1 x2 x3 (0 : Int32) m (zFr.refl m)
abbrev p_X12_viewshed (k i j : Nat) : Prop := (k = 13 ∧ i = 0 ∧ j = 0)
theorem q_X12_viewshed_47 (m0 : zM) : ∀ (j : Nat) (x1 : Int32) (x2 : Int32) (x3 : Int64) (x5 : Int32) (m : zM), zFr (p_X12_viewshed) m0 m → zFK (p_X12_viewshed) m0 (f_X12_viewshed_47 j x1 x2 x3 x5 m) (fun a => a.2) := by
  intro j
  induction j with
  | zero =>
    intro _ _ _ _ _ _
    exact zq_none
  | succ j ih =>
    intro x1 x2 x3 x5 m hm
    unfold f_X12_viewshed_47
    refine zq_bind (fun r1 => ?_)
    refine zq_if ?_ ?_
    · exact zq_some (hm)
    · refine zq_bind (fun r3 => ?_)
      refine zq_if ?_ ?_
      · exact ih x1 x2 x3 (x5 + (1 : Int32)) m (hm)
      · exact ih x1 x2 (x3 ||| (z_shl (1 : Int64) x5)) (x5 + (1 : Int32)) m (hm)
theorem q_X12_viewshed_30 (m0 : zM) (x1 : Int32) (x2 : Int32) (s1 : Int32) (m : zM) (hm : zFr (p_X12_viewshed) m0 m) : zFK (p_X12_viewshed) m0 (f_X12_viewshed_30 x1 x2 s1 m) (fun a => a.2) := by
  unfold f_X12_viewshed_30
  refine zq_if ?_ ?_
  · exact q_X12_viewshed_47 m0 zF x1 x2 (0 : Int64) (0 : Int32) (z_sI m 13 0 0 s1) (zFr.sI (hm) _ ⟨rfl, rfl, rfl⟩)
  · exact zq_some (zFr.sI (hm) _ ⟨rfl, rfl, rfl⟩)
theorem q_X12_viewshed (x1 : Int32) (x2 : Int32) (m : zM) : zFK (p_X12_viewshed) m (f_X12_viewshed x1 x2 m) (fun a => a.2) := by
  unfold f_X12_viewshed
  refine zq_bind (fun r1 => ?_)
  refine zq_if ?_ ?_
  · exact q_X12_viewshed_30 m x1 x2 (1 : Int32) m (zFr.refl m)
  · refine zq_bind (fun r3 => ?_)
    refine zq_if ?_ ?_
    · exact q_X12_viewshed_30 m x1 x2 (2 : Int32) m (zFr.refl m)
    · exact q_X12_viewshed_30 m x1 x2 (0 : Int32) m (zFr.refl m)
abbrev p_L_resize (k i j : Nat) : Prop := (k = 7 ∧ i = 0 ∧ j = 1) ∨ (k = 6 ∧ i < 11 ∧ j = 0) ∨ (k = 6 ∧ i < 11 ∧ j = 1) ∨ (k = 6 ∧ i < 11 ∧ j = 2) ∨ (k = 6 ∧ i < 11 ∧ j = 3) ∨ (k = 20 ∧ i < 33) ∨ (k = 7 ∧ i = 0 ∧ j = 2) ∨ (k = 6 ∧ i = 0 ∧ j = 0) ∨ (k = 6 ∧ i = 0 ∧ j = 1) ∨ (k = 6 ∧ i = 0 ∧ j = 3) ∨ (k = 20 ∧ i = 0) ∨ (k = 20 ∧ i = 1) ∨ (k = 20 ∧ i = 2) ∨ (k = 32 ∧ i = 0)
theorem q_L_resize (x1 : Int32) (x2 : Int32) (m : zM) : zFK (p_L_resize) m (f_L_resize x1 x2 m) (fun a => a.2) := by
  unfold f_L_resize
  refine zq_callh (q_X11_resize x1 x2 m) (fun _ _ _ => (fun h => Or.elim h (fun h => (Or.inl h)) (fun h => Or.elim h (fun h => (Or.inr (Or.inl h))) (fun h => Or.elim h (fun h => (Or.inr (Or.inr (Or.inl h)))) (fun h => Or.elim h (fun h => (Or.inr (Or.inr (Or.inr (Or.inl h))))) (fun h => Or.elim h (fun h => (Or.inr (Or.inr (Or.inr (Or.inr (Or.inl h)))))) (fun h => Or.elim h (fun h => (Or.inr (Or.inr (Or.inr (Or.inr (Or.inr (Or.inl h))))))) (fun h => Or.elim h (fun h => (Or.inr (Or.inr (Or.inr (Or.inr (Or.inr (Or.inr (Or.inl h)))))))) (fun h => Or.elim h (fun h => (Or.inr (Or.inr (Or.inr (Or.inr (Or.inr (Or.inr (Or.inr (Or.inl h))))))))) (fun h => Or.elim h (fun h => (Or.inr (Or.inr (Or.inr (Or.inr (Or.inr (Or.inr (Or.inr (Or.inr (Or.inl h)))))))))) (fun h => Or.elim h (fun h => (Or.inr (Or.inr (Or.inr (Or.inr (Or.inr (Or.inr (Or.inr (Or.inr (Or.inr (Or.inl h))))))))))) (fun h => Or.elim h (fun h => (Or.inr (Or.inr (Or.inr (Or.inr (Or.inr (Or.inr (Or.inr (Or.inr (Or.inr (Or.inr (Or.inl h)))))))))))) (fun h => Or.elim h (fun h => (Or.inr (Or.inr (Or.inr (Or.inr (Or.inr (Or.inr (Or.inr (Or.inr (Or.inr (Or.inr (Or.inr (Or.inl h))))))))))))) (fun h => (Or.inr (Or.inr (Or.inr (Or.inr (Or.inr (Or.inr (Or.inr (Or.inr (Or.inr (Or.inr (Or.inr (Or.inr (Or.inl h))))))))))))))))))))))))))) (zFr.refl m) (fun _ _ => rfl) (fun r1 m2 gm2 => ?_)
  refine zq_gd ?_
  exact zq_some (zFr.sL (gm2) _ (Or.inr (Or.inr (Or.inr (Or.inr (Or.inr (Or.inr (Or.inr (Or.inr (Or.inr (Or.inr (Or.inr (Or.inr (Or.inr ⟨rfl, rfl⟩))))))))))))))
abbrev p_L_scatter (k i j : Nat) : Prop := (k = 7 ∧ i = 0 ∧ j = 1) ∨ (k = 6 ∧ i < 11 ∧ j = 0) ∨ (k = 6 ∧ i < 11 ∧ j = 1) ∨ (k = 6 ∧ i < 11 ∧ j = 2) ∨ (k = 6 ∧ i < 11 ∧ j = 3) ∨ (k = 20 ∧ i < 33) ∨ (k = 7 ∧ i = 0 ∧ j = 2) ∨ (k = 20 ∧ i = 0) ∨ (k = 32 ∧ i = 0)
theorem q_L_scatter (x1 : Int32) (x2 : Int32) (m : zM) : zFK (p_L_scatter) m (f_L_scatter x1 x2 m) (fun a => a.2) := by
  unfold f_L_scatter
  refine zq_callh (q_X11_scatter x1 x2 m) (fun _ _ _ => (fun h => Or.elim h (fun h => (Or.inl h)) (fun h => Or.elim h (fun h => (Or.inr (Or.inl h))) (fun h => Or.elim h (fun h => (Or.inr (Or.inr (Or.inl h)))) (fun h => Or.elim h (fun h => (Or.inr (Or.inr (Or.inr (Or.inl h))))) (fun h => Or.elim h (fun h => (Or.inr (Or.inr (Or.inr (Or.inr (Or.inl h)))))) (fun h => Or.elim h (fun h => (Or.inr (Or.inr (Or.inr (Or.inr (Or.inr (Or.inl h))))))) (fun h => Or.elim h (fun h => (Or.inr (Or.inr (Or.inr (Or.inr (Or.inr (Or.inr (Or.inl h)))))))) (fun h => (Or.inr (Or.inr (Or.inr (Or.inr (Or.inr (Or.inr (Or.inr (Or.inl h))))))))))))))))) (zFr.refl m) (fun _ _ => rfl) (fun r1 m2 gm2 => ?_)
  refine zq_gd ?_
  exact zq_some (zFr.sL (gm2) _ (Or.inr (Or.inr (Or.inr (Or.inr (Or.inr (Or.inr (Or.inr (Or.inr ⟨rfl, rfl⟩)))))))))
abbrev p_L_setHeight (k i j : Nat) : Prop := (k = 7 ∧ i = 0 ∧ j = 1) ∨ (k = 6 ∧ i < 11 ∧ j = 0) ∨ (k = 6 ∧ i < 11 ∧ j = 1) ∨ (k = 6 ∧ i < 11 ∧ j = 2) ∨ (k = 6 ∧ i < 11 ∧ j = 3) ∨ (k = 20 ∧ i < 33) ∨ (k = 7 ∧ i = 0 ∧ j = 2) ∨ (k = 20 ∧ i = 0) ∨ (k = 32 ∧ i = 0)
theorem q_L_setHeight (x1 : Int32) (x2 : Int32) (m : zM) : zFK (p_L_setHeight) m (f_L_setHeight x1 x2 m) (fun a => a.2) := by
  unfold f_L_setHeight
  refine zq_callh (q_X11_setHeight x1 x2 m) (fun _ _ _ => (fun h => Or.elim h (fun h => (Or.inl h)) (fun h => Or.elim h (fun h => (Or.inr (Or.inl h))) (fun h => Or.elim h (fun h => (Or.inr (Or.inr (Or.inl h)))) (fun h => Or.elim h (fun h => (Or.inr (Or.inr (Or.inr (Or.inl h))))) (fun h => Or.elim h (fun h => (Or.inr (Or.inr (Or.inr (Or.inr (Or.inl h)))))) (fun h => Or.elim h (fun h => (Or.inr (Or.inr (Or.inr (Or.inr (Or.inr (Or.inl h))))))) (fun h => Or.elim h (fun h => (Or.inr (Or.inr (Or.inr (Or.inr (Or.inr (Or.inr (Or.inl h)))))))) (fun h => (Or.inr (Or.inr (Or.inr (Or.inr (Or.inr (Or.inr (Or.inr (Or.inl h))))))))))))))))) (zFr.refl m) (fun _ _ => rfl) (fun r1 m2 gm2 => ?_)
  refine zq_gd ?_
  exact zq_some (zFr.sL (gm2) _ (Or.inr (Or.inr (Or.inr (Or.inr (Or.inr (Or.inr (Or.inr (Or.inr ⟨rfl, rfl⟩)))))))))
abbrev p_L_raise (k i j : Nat) : Prop := (k = 7 ∧ i = 0 ∧ j = 1) ∨ (k = 6 ∧ i < 11 ∧ j = 0) ∨ (k = 6 ∧ i < 11 ∧ j = 1) ∨ (k = 6 ∧ i < 11 ∧ j = 2) ∨ (k = 6 ∧ i < 11 ∧ j = 3) ∨ (k = 20 ∧ i < 33) ∨ (k = 7 ∧ i = 0 ∧ j = 2) ∨ (k = 20 ∧ i = 0) ∨ (k = 32 ∧ i = 0)
theorem q_L_raise (x1 : Int32) (x2 : Int32) (x3 : Int32) (m : zM) : zFK (p_L_raise) m (f_L_raise x1 x2 x3 m) (fun a => a.2) := by
  unfold f_L_raise
  refine zq_callh (q_X11_raise x1 x2 x3 m) (fun _ _ _ => (fun h => Or.elim h (fun h => (Or.inl h)) (fun h => Or.elim h (fun h => (Or.inr (Or.inl h))) (fun h => Or.elim h (fun h => (Or.inr (Or.inr (Or.inl h)))) (fun h => Or.elim h (fun h => (Or.inr (Or.inr (Or.inr (Or.inl h))))) (fun h => Or.elim h (fun h => (Or.inr (Or.inr (Or.inr (Or.inr (Or.inl h)))))) (fun h => Or.elim h (fun h => (Or.inr (Or.inr (Or.inr (Or.inr (Or.inr (Or.inl h))))))) (fun h => Or.elim h (fun h => (Or.inr (Or.inr (Or.inr (Or.inr (Or.inr (Or.inr (Or.inl h)))))))) (fun h => (Or.inr (Or.inr (Or.inr (Or.inr (Or.inr (Or.inr (Or.inr (Or.inl h))))))))))))))))) (zFr.refl m) (fun _ _ => rfl) (fun r1 m2 gm2 => ?_)
  refine zq_gd ?_
  exact zq_some (zFr.sL (gm2) _ (Or.inr (Or.inr (Or.inr (Or.inr (Or.inr (Or.inr (Or.inr (Or.inr ⟨rfl, rfl⟩)))))))))
abbrev p_L_setRain (k i j : Nat) : Prop := (k = 7 ∧ i = 0 ∧ j = 1) ∨ (k = 6 ∧ i < 11 ∧ j = 0) ∨ (k = 6 ∧ i < 11 ∧ j = 1) ∨ (k = 6 ∧ i < 11 ∧ j = 2) ∨ (k = 6 ∧ i < 11 ∧ j = 3) ∨ (k = 20 ∧ i < 33) ∨ (k = 7 ∧ i = 0 ∧ j = 2) ∨ (k = 20 ∧ i = 1) ∨ (k = 32 ∧ i = 0)
theorem q_L_setRain (x1 : Int32) (x2 : Int32) (m : zM) : zFK (p_L_setRain) m (f_L_setRain x1 x2 m) (fun a => a.2) := by
  unfold f_L_setRain
  refine zq_callh (q_X11_setRain x1 x2 m) (fun _ _ _ => (fun h => Or.elim h (fun h => (Or.inl h)) (fun h => Or.elim h (fun h => (Or.inr (Or.inl h))) (fun h => Or.elim h (fun h => (Or.inr (Or.inr (Or.inl h)))) (fun h => Or.elim h (fun h => (Or.inr (Or.inr (Or.inr (Or.inl h))))) (fun h => Or.elim h (fun h => (Or.inr (Or.inr (Or.inr (Or.inr (Or.inl h)))))) (fun h => Or.elim h (fun h => (Or.inr (Or.inr (Or.inr (Or.inr (Or.inr (Or.inl h))))))) (fun h => Or.elim h (fun h => (Or.inr (Or.inr (Or.inr (Or.inr (Or.inr (Or.inr (Or.inl h)))))))) (fun h => (Or.inr (Or.inr (Or.inr (Or.inr (Or.inr (Or.inr (Or.inr (Or.inl h))))))))))))))))) (zFr.refl m) (fun _ _ => rfl) (fun r1 m2 gm2 => ?_)
  refine zq_gd ?_
  exact zq_some (zFr.sL (gm2) _ (Or.inr (Or.inr (Or.inr (Or.inr (Or.inr (Or.inr (Or.inr (Or.inr ⟨rfl, rfl⟩)))))))))
abbrev p_L_setSoak (k i j : Nat) : Prop := (k = 7 ∧ i = 0 ∧ j = 1) ∨ (k = 6 ∧ i < 11 ∧ j = 0) ∨ (k = 6 ∧ i < 11 ∧ j = 1) ∨ (k = 6 ∧ i < 11 ∧ j = 2) ∨ (k = 6 ∧ i < 11 ∧ j = 3) ∨ (k = 20 ∧ i < 33) ∨ (k = 7 ∧ i = 0 ∧ j = 2) ∨ (k = 20 ∧ i = 2) ∨ (k = 32 ∧ i = 0)
theorem q_L_setSoak (x1 : Int32) (x2 : Int32) (m : zM) : zFK (p_L_setSoak) m (f_L_setSoak x1 x2 m) (fun a => a.2) := by
  unfold f_L_setSoak
  refine zq_callh (q_X11_setSoak x1 x2 m) (fun _ _ _ => (fun h => Or.elim h (fun h => (Or.inl h)) (fun h => Or.elim h (fun h => (Or.inr (Or.inl h))) (fun h => Or.elim h (fun h => (Or.inr (Or.inr (Or.inl h)))) (fun h => Or.elim h (fun h => (Or.inr (Or.inr (Or.inr (Or.inl h))))) (fun h => Or.elim h (fun h => (Or.inr (Or.inr (Or.inr (Or.inr (Or.inl h)))))) (fun h => Or.elim h (fun h => (Or.inr (Or.inr (Or.inr (Or.inr (Or.inr (Or.inl h))))))) (fun h => Or.elim h (fun h => (Or.inr (Or.inr (Or.inr (Or.inr (Or.inr (Or.inr (Or.inl h)))))))) (fun h => (Or.inr (Or.inr (Or.inr (Or.inr (Or.inr (Or.inr (Or.inr (Or.inl h))))))))))))))))) (zFr.refl m) (fun _ _ => rfl) (fun r1 m2 gm2 => ?_)
  refine zq_gd ?_
  exact zq_some (zFr.sL (gm2) _ (Or.inr (Or.inr (Or.inr (Or.inr (Or.inr (Or.inr (Or.inr (Or.inr ⟨rfl, rfl⟩)))))))))
abbrev p_L_setOutlet (k i j : Nat) : Prop := (k = 7 ∧ i = 0 ∧ j = 1) ∨ (k = 6 ∧ i < 11 ∧ j = 0) ∨ (k = 6 ∧ i < 11 ∧ j = 1) ∨ (k = 6 ∧ i < 11 ∧ j = 2) ∨ (k = 6 ∧ i < 11 ∧ j = 3) ∨ (k = 20 ∧ i < 33) ∨ (k = 7 ∧ i = 0 ∧ j = 2) ∨ (k = 6 ∧ i = 0 ∧ j = 3) ∨ (k = 32 ∧ i = 0)
theorem q_L_setOutlet_16 (m0 : zM) (s1 : Int32) (s2 : Int64) (m : zM) (hm : zFr (p_L_setOutlet) m0 m) : zFK (p_L_setOutlet) m0 (f_L_setOutlet_16 s1 s2 m) (fun a => a.2) := by
  unfold f_L_setOutlet_16
  refine zq_gd ?_
  exact zq_some (zFr.sL (hm) _ (Or.inr (Or.inr (Or.inr (Or.inr (Or.inr (Or.inr (Or.inr (Or.inr ⟨rfl, rfl⟩)))))))))
theorem q_L_setOutlet (x1 : Int32) (x2 : Int32) (m : zM) : zFK (p_L_setOutlet) m (f_L_setOutlet x1 x2 m) (fun a => a.2) := by
  unfold f_L_setOutlet
  refine zq_callh (q_X11_setOutlet x1 x2 m) (fun _ _ _ => (fun h => Or.elim h (fun h => (Or.inl h)) (fun h => Or.elim h (fun h => (Or.inr (Or.inl h))) (fun h => Or.elim h (fun h => (Or.inr (Or.inr (Or.inl h)))) (fun h => Or.elim h (fun h => (Or.inr (Or.inr (Or.inr (Or.inl h))))) (fun h => Or.elim h (fun h => (Or.inr (Or.inr (Or.inr (Or.inr (Or.inl h)))))) (fun h => Or.elim h (fun h => (Or.inr (Or.inr (Or.inr (Or.inr (Or.inr (Or.inl h))))))) (fun h => Or.elim h (fun h => (Or.inr (Or.inr (Or.inr (Or.inr (Or.inr (Or.inr (Or.inl h)))))))) (fun h => (Or.inr (Or.inr (Or.inr (Or.inr (Or.inr (Or.inr (Or.inr (Or.inl h))))))))))))))))) (zFr.refl m) (fun _ _ => rfl) (fun r1 m2 gm2 => ?_)
  refine zq_if ?_ ?_
  · exact q_L_setOutlet_16 m (0 : Int32) (0 : Int64) m2 (gm2)
  · exact q_L_setOutlet_16 m (0 : Int32) (1 : Int64) m2 (gm2)
abbrev p_L_setThreshold (k i j : Nat) : Prop := (k = 7 ∧ i = 0 ∧ j = 1) ∨ (k = 6 ∧ i < 11 ∧ j = 0) ∨ (k = 6 ∧ i < 11 ∧ j = 1) ∨ (k = 6 ∧ i < 11 ∧ j = 2) ∨ (k = 6 ∧ i < 11 ∧ j = 3) ∨ (k = 20 ∧ i < 33) ∨ (k = 7 ∧ i = 0 ∧ j = 2) ∨ (k = 6 ∧ i = 0 ∧ j = 2) ∨ (k = 32 ∧ i = 0)
theorem q_L_setThreshold (x1 : Int32) (m : zM) : zFK (p_L_setThreshold) m (f_L_setThreshold x1 m) (fun a => a.2) := by
  unfold f_L_setThreshold
  refine zq_callh (q_X11_setThreshold x1 m) (fun _ _ _ => (fun h => Or.elim h (fun h => (Or.inl h)) (fun h => Or.elim h (fun h => (Or.inr (Or.inl h))) (fun h => Or.elim h (fun h => (Or.inr (Or.inr (Or.inl h)))) (fun h => Or.elim h (fun h => (Or.inr (Or.inr (Or.inr (Or.inl h))))) (fun h => Or.elim h (fun h => (Or.inr (Or.inr (Or.inr (Or.inr (Or.inl h)))))) (fun h => Or.elim h (fun h => (Or.inr (Or.inr (Or.inr (Or.inr (Or.inr (Or.inl h))))))) (fun h => Or.elim h (fun h => (Or.inr (Or.inr (Or.inr (Or.inr (Or.inr (Or.inr (Or.inl h)))))))) (fun h => (Or.inr (Or.inr (Or.inr (Or.inr (Or.inr (Or.inr (Or.inr (Or.inl h))))))))))))))))) (zFr.refl m) (fun _ _ => rfl) (fun r1 m2 gm2 => ?_)
  refine zq_gd ?_
  exact zq_some (zFr.sL (gm2) _ (Or.inr (Or.inr (Or.inr (Or.inr (Or.inr (Or.inr (Or.inr (Or.inr ⟨rfl, rfl⟩)))))))))
abbrev p_L_pools (k i j : Nat) : Prop := (k = 32 ∧ i = 0)
theorem q_L_pools (x1 : Int32) (m : zM) : zFK (p_L_pools) m (f_L_pools x1 m) (fun a => a.2) := by
  unfold f_L_pools
  refine zq_callh (q_X11_pools x1 m) (fun _ _ _ h => h.elim) (zFr.refl m) (fun _ _ => rfl) (fun r1 m2 gm2 => ?_)
  refine zq_gd ?_
  exact zq_some (zFr.sL (gm2) _ ⟨rfl, rfl⟩)
abbrev p_L_contour (k i j : Nat) : Prop := (k = 32 ∧ i = 0)
theorem q_L_contour (x1 : Int32) (x2 : Int32) (m : zM) : zFK (p_L_contour) m (f_L_contour x1 x2 m) (fun a => a.2) := by
  unfold f_L_contour
  refine zq_callh (q_X11_contour x1 x2 m) (fun _ _ _ h => h.elim) (zFr.refl m) (fun _ _ => rfl) (fun r1 m2 gm2 => ?_)
  refine zq_gd ?_
  exact zq_some (zFr.sL (gm2) _ ⟨rfl, rfl⟩)
abbrev p_L_sectionCell (k i j : Nat) : Prop := (k = 8 ∧ i = 0 ∧ j = 1) ∨ (k = 22 ∧ i = 0) ∨ (k = 32 ∧ i = 0)
theorem q_L_sectionCell (x1 : Int32) (x2 : Int32) (x3 : Int32) (m : zM) : zFK (p_L_sectionCell) m (f_L_sectionCell x1 x2 x3 m) (fun a => a.2) := by
  unfold f_L_sectionCell
  refine zq_callh (q_X11_sectionCell x1 x2 x3 m) (fun _ _ _ => (fun h => Or.elim h (fun h => (Or.inl h)) (fun h => (Or.inr (Or.inl h))))) (zFr.refl m) (fun _ _ => rfl) (fun r1 m2 gm2 => ?_)
  refine zq_gd ?_
  exact zq_some (zFr.sL (gm2) _ (Or.inr (Or.inr ⟨rfl, rfl⟩)))
abbrev p_L_sees (k i j : Nat) : Prop := (k = 8 ∧ i = 0 ∧ j = 1) ∨ (k = 22 ∧ i = 0) ∨ (k = 32 ∧ i = 0)
theorem q_L_sees_18 (m0 : zM) (s1 : Int32) (s2 : Int64) (m : zM) (hm : zFr (p_L_sees) m0 m) : zFK (p_L_sees) m0 (f_L_sees_18 s1 s2 m) (fun a => a.2) := by
  unfold f_L_sees_18
  refine zq_gd ?_
  exact zq_some (zFr.sL (hm) _ (Or.inr (Or.inr ⟨rfl, rfl⟩)))
theorem q_L_sees (x1 : Int32) (x2 : Int32) (x3 : Int32) (m : zM) : zFK (p_L_sees) m (f_L_sees x1 x2 x3 m) (fun a => a.2) := by
  unfold f_L_sees
  refine zq_callh (q_X11_sees x1 x2 x3 m) (fun _ _ _ => (fun h => Or.elim h (fun h => (Or.inl h)) (fun h => (Or.inr (Or.inl h))))) (zFr.refl m) (fun _ _ => rfl) (fun r1 m2 gm2 => ?_)
  refine zq_if ?_ ?_
  · exact q_L_sees_18 m (0 : Int32) (0 : Int64) m2 (gm2)
  · exact q_L_sees_18 m (0 : Int32) (1 : Int64) m2 (gm2)
abbrev p_L_viewshed (k i j : Nat) : Prop := (k = 8 ∧ i = 0 ∧ j = 1) ∨ (k = 22 ∧ i = 0) ∨ (k = 32 ∧ i = 0)
theorem q_L_viewshed (x1 : Int32) (x2 : Int32) (m : zM) : zFK (p_L_viewshed) m (f_L_viewshed x1 x2 m) (fun a => a.2) := by
  unfold f_L_viewshed
  refine zq_callh (q_X11_viewshed x1 x2 m) (fun _ _ _ => (fun h => Or.elim h (fun h => (Or.inl h)) (fun h => (Or.inr (Or.inl h))))) (zFr.refl m) (fun _ _ => rfl) (fun r1 m2 gm2 => ?_)
  refine zq_gd ?_
  exact zq_some (zFr.sL (gm2) _ (Or.inr (Or.inr ⟨rfl, rfl⟩)))
abbrev p_L_undo (k i j : Nat) : Prop := (k = 6 ∧ i = 0 ∧ j = 0) ∨ (k = 6 ∧ i = 0 ∧ j = 1) ∨ (k = 6 ∧ i = 0 ∧ j = 2) ∨ (k = 6 ∧ i = 0 ∧ j = 3) ∨ (k = 20 ∧ i = 0) ∨ (k = 20 ∧ i = 1) ∨ (k = 20 ∧ i = 2) ∨ (k = 7 ∧ i = 0 ∧ j = 1) ∨ (k = 7 ∧ i = 0 ∧ j = 2) ∨ (k = 32 ∧ i = 0)
theorem q_L_undo (m : zM) : zFK (p_L_undo) m (f_L_undo m) (fun a => a.2) := by
  unfold f_L_undo
  refine zq_callh (q_X11_undo m) (fun _ _ _ => (fun h => Or.elim h (fun h => (Or.inl h)) (fun h => Or.elim h (fun h => (Or.inr (Or.inl h))) (fun h => Or.elim h (fun h => (Or.inr (Or.inr (Or.inl h)))) (fun h => Or.elim h (fun h => (Or.inr (Or.inr (Or.inr (Or.inl h))))) (fun h => Or.elim h (fun h => (Or.inr (Or.inr (Or.inr (Or.inr (Or.inl h)))))) (fun h => Or.elim h (fun h => (Or.inr (Or.inr (Or.inr (Or.inr (Or.inr (Or.inl h))))))) (fun h => Or.elim h (fun h => (Or.inr (Or.inr (Or.inr (Or.inr (Or.inr (Or.inr (Or.inl h)))))))) (fun h => Or.elim h (fun h => (Or.inr (Or.inr (Or.inr (Or.inr (Or.inr (Or.inr (Or.inr (Or.inl h))))))))) (fun h => (Or.inr (Or.inr (Or.inr (Or.inr (Or.inr (Or.inr (Or.inr (Or.inr (Or.inl h))))))))))))))))))) (zFr.refl m) (fun _ _ => rfl) (fun r1 m2 gm2 => ?_)
  refine zq_gd ?_
  exact zq_some (zFr.sL (gm2) _ (Or.inr (Or.inr (Or.inr (Or.inr (Or.inr (Or.inr (Or.inr (Or.inr (Or.inr ⟨rfl, rfl⟩))))))))))
abbrev p_L_restore (k i j : Nat) : Prop := (k = 7 ∧ i = 0 ∧ j = 1) ∨ (k = 6 ∧ i < 11 ∧ j = 0) ∨ (k = 6 ∧ i < 11 ∧ j = 1) ∨ (k = 6 ∧ i < 11 ∧ j = 2) ∨ (k = 6 ∧ i < 11 ∧ j = 3) ∨ (k = 20 ∧ i < 33) ∨ (k = 7 ∧ i = 0 ∧ j = 2) ∨ (k = 6 ∧ i = 0 ∧ j = 0) ∨ (k = 6 ∧ i = 0 ∧ j = 1) ∨ (k = 6 ∧ i = 0 ∧ j = 2) ∨ (k = 6 ∧ i = 0 ∧ j = 3) ∨ (k = 20 ∧ i = 0) ∨ (k = 20 ∧ i = 1) ∨ (k = 20 ∧ i = 2) ∨ (k = 32 ∧ i = 0)
theorem q_L_restore (m : zM) : zFK (p_L_restore) m (f_L_restore m) (fun a => a.2) := by
  unfold f_L_restore
  refine zq_callh (q_X11_restore m) (fun _ _ _ => (fun h => Or.elim h (fun h => (Or.inl h)) (fun h => Or.elim h (fun h => (Or.inr (Or.inl h))) (fun h => Or.elim h (fun h => (Or.inr (Or.inr (Or.inl h)))) (fun h => Or.elim h (fun h => (Or.inr (Or.inr (Or.inr (Or.inl h))))) (fun h => Or.elim h (fun h => (Or.inr (Or.inr (Or.inr (Or.inr (Or.inl h)))))) (fun h => Or.elim h (fun h => (Or.inr (Or.inr (Or.inr (Or.inr (Or.inr (Or.inl h))))))) (fun h => Or.elim h (fun h => (Or.inr (Or.inr (Or.inr (Or.inr (Or.inr (Or.inr (Or.inl h)))))))) (fun h => Or.elim h (fun h => (Or.inr (Or.inr (Or.inr (Or.inr (Or.inr (Or.inr (Or.inr (Or.inl h))))))))) (fun h => Or.elim h (fun h => (Or.inr (Or.inr (Or.inr (Or.inr (Or.inr (Or.inr (Or.inr (Or.inr (Or.inl h)))))))))) (fun h => Or.elim h (fun h => (Or.inr (Or.inr (Or.inr (Or.inr (Or.inr (Or.inr (Or.inr (Or.inr (Or.inr (Or.inl h))))))))))) (fun h => Or.elim h (fun h => (Or.inr (Or.inr (Or.inr (Or.inr (Or.inr (Or.inr (Or.inr (Or.inr (Or.inr (Or.inr (Or.inl h)))))))))))) (fun h => Or.elim h (fun h => (Or.inr (Or.inr (Or.inr (Or.inr (Or.inr (Or.inr (Or.inr (Or.inr (Or.inr (Or.inr (Or.inr (Or.inl h))))))))))))) (fun h => Or.elim h (fun h => (Or.inr (Or.inr (Or.inr (Or.inr (Or.inr (Or.inr (Or.inr (Or.inr (Or.inr (Or.inr (Or.inr (Or.inr (Or.inl h)))))))))))))) (fun h => (Or.inr (Or.inr (Or.inr (Or.inr (Or.inr (Or.inr (Or.inr (Or.inr (Or.inr (Or.inr (Or.inr (Or.inr (Or.inr (Or.inl h))))))))))))))))))))))))))))) (zFr.refl m) (fun _ _ => rfl) (fun r1 m2 gm2 => ?_)
  refine zq_gd ?_
  exact zq_some (zFr.sL (gm2) _ (Or.inr (Or.inr (Or.inr (Or.inr (Or.inr (Or.inr (Or.inr (Or.inr (Or.inr (Or.inr (Or.inr (Or.inr (Or.inr (Or.inr ⟨rfl, rfl⟩)))))))))))))))
abbrev p_X9_countCommands (k i j : Nat) : Prop := (k = 10 ∧ i = 0 ∧ j = 3) ∨ (k = 10 ∧ i = 0 ∧ j = 4) ∨ (k = 10 ∧ i = 0 ∧ j = 5) ∨ (k = 10 ∧ i = 0 ∧ j = 6) ∨ (k = 10 ∧ i = 0 ∧ j = 2)
theorem q_X9_countCommands_9 (m0 : zM) : ∀ (j : Nat) (x1 : Int32) (x2 : Int32) (x3 : Int32) (m : zM), zFr (p_X9_countCommands) m0 m → zFK (p_X9_countCommands) m0 (f_X9_countCommands_9 j x1 x2 x3 m) (fun a => a.2) := by
  intro j
  induction j with
  | zero =>
    intro _ _ _ _ _
    exact zq_none
  | succ j ih =>
    intro x1 x2 x3 m hm
    unfold f_X9_countCommands_9
    refine zq_if ?_ ?_
    · exact zq_some (hm)
    · refine zq_call (q_X9_readCommand x1 m) (fun _ _ _ => (fun h => Or.elim h (fun h => (Or.inr (Or.inl h))) (fun h => Or.elim h (fun h => (Or.inl h)) (fun h => Or.elim h (fun h => (Or.inr (Or.inr (Or.inl h)))) (fun h => (Or.inr (Or.inr (Or.inr (Or.inl h))))))))) (hm) (fun r2 gr2 => ?_)
      refine zq_if ?_ ?_
      · refine zq_bind (fun r4 => ?_)
        refine zq_if ?_ ?_
        · exact zq_some (zFr.sI (gr2) _ (Or.inr (Or.inr (Or.inr (Or.inr ⟨rfl, rfl, rfl⟩)))))
        · refine zq_bind (fun r6 => ?_)
          refine zq_if ?_ ?_
          · exact ih x1 (x2 + (1 : Int32)) (x3 + (1 : Int32)) (z_sI (z_sI r2.2 10 0 2 r2.1) 10 0 3 (((z_sI r2.2 10 0 2 r2.1).1 10 0 3) + (1 : Int32))) (zFr.sI (zFr.sI (gr2) _ (Or.inr (Or.inr (Or.inr (Or.inr ⟨rfl, rfl, rfl⟩))))) _ (Or.inl ⟨rfl, rfl, rfl⟩))
          · exact zq_some (zFr.sI (zFr.sI (gr2) _ (Or.inr (Or.inr (Or.inr (Or.inr ⟨rfl, rfl, rfl⟩))))) _ (Or.inr (Or.inr (Or.inr (Or.inr ⟨rfl, rfl, rfl⟩)))))
      · exact zq_some (zFr.sI (gr2) _ (Or.inr (Or.inr (Or.inr (Or.inr ⟨rfl, rfl, rfl⟩)))))
theorem q_X9_countCommands (x1 : Int32) (m : zM) : zFK (p_X9_countCommands) m (f_X9_countCommands x1 m) (fun a => a.2) := by
  unfold f_X9_countCommands
  exact q_X9_countCommands_9 m zF x1 (0 : Int32) (0 : Int32) (z_sI m 10 0 3 (0 : Int32)) (zFr.sI (zFr.refl m) _ (Or.inl ⟨rfl, rfl, rfl⟩))
