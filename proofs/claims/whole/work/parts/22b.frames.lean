abbrev p_X12_depressions (k i j : Nat) : Prop := (k = 13 ∧ i = 0 ∧ j = 21) ∨ (k = 13 ∧ i = 0 ∧ j = 20) ∨ (k = 20 ∧ i = 66) ∨ (k = 21 ∧ i = 4) ∨ (k = 31 ∧ i = 3) ∨ (k = 21 ∧ i = 3) ∨ (k = 21 ∧ i = 5) ∨ (k = 31 ∧ i = 2)
theorem q_X12_depressions_179 (m0 : zM) (c7 : Int32 → zM → Option (zM)) (c24 : Int32 → Int64 → Int32 → Int32 → zM → Option (zM)) (hc7 : ∀ (x1 : Int32) (m : zM), zFr (p_X12_depressions) m0 m → zFK (p_X12_depressions) m0 (c7 x1 m) id) (hc24 : ∀ (x1 : Int32) (x2 : Int64) (x4 : Int32) (x5 : Int32) (m : zM), zFr (p_X12_depressions) m0 m → zFK (p_X12_depressions) m0 (c24 x1 x2 x4 x5 m) id) : ∀ (j : Nat) (x1 : Int32) (x2 : Int64) (x4 : Int32) (x5 : Int32) (x8 : Int32) (m : zM), zFr (p_X12_depressions) m0 m → zFK (p_X12_depressions) m0 (f_X12_depressions_179 c7 c24 j x1 x2 x4 x5 x8 m) id := by
  intro j
  induction j with
  | zero =>
    intro _ _ _ _ _ _ _
    exact zq_none
  | succ j ih =>
    intro x1 x2 x4 x5 x8 m hm
    unfold f_X12_depressions_179
    refine zq_if ?_ ?_
    · refine zq_gd ?_
      refine zq_gd ?_
      refine zq_gd ?_
      refine zq_gd ?_
      refine zq_gd ?_
      exact hc24 x1 x2 x4 (x5 + (1 : Int32)) (z_sL (z_sI (z_sL (z_sI (z_sI (z_sI m 21 3 (Int32.toNatClampNeg (m.1 13 0 21)) x1) 21 4 (Int32.toNatClampNeg ((z_sI m 21 3 (Int32.toNatClampNeg (m.1 13 0 21)) x1).1 13 0 21)) x1) 21 5 (Int32.toNatClampNeg ((z_sI (z_sI m 21 3 (Int32.toNatClampNeg (m.1 13 0 21)) x1) 21 4 (Int32.toNatClampNeg ((z_sI m 21 3 (Int32.toNatClampNeg (m.1 13 0 21)) x1).1 13 0 21)) x1).1 13 0 21)) (-1 : Int32)) 31 2 (Int32.toNatClampNeg ((z_sI (z_sI (z_sI m 21 3 (Int32.toNatClampNeg (m.1 13 0 21)) x1) 21 4 (Int32.toNatClampNeg ((z_sI m 21 3 (Int32.toNatClampNeg (m.1 13 0 21)) x1).1 13 0 21)) x1) 21 5 (Int32.toNatClampNeg ((z_sI (z_sI m 21 3 (Int32.toNatClampNeg (m.1 13 0 21)) x1) 21 4 (Int32.toNatClampNeg ((z_sI m 21 3 (Int32.toNatClampNeg (m.1 13 0 21)) x1).1 13 0 21)) x1).1 13 0 21)) (-1 : Int32)).1 13 0 21)) ((z_sI (z_sI (z_sI m 21 3 (Int32.toNatClampNeg (m.1 13 0 21)) x1) 21 4 (Int32.toNatClampNeg ((z_sI m 21 3 (Int32.toNatClampNeg (m.1 13 0 21)) x1).1 13 0 21)) x1) 21 5 (Int32.toNatClampNeg ((z_sI (z_sI m 21 3 (Int32.toNatClampNeg (m.1 13 0 21)) x1) 21 4 (Int32.toNatClampNeg ((z_sI m 21 3 (Int32.toNatClampNeg (m.1 13 0 21)) x1).1 13 0 21)) x1).1 13 0 21)) (-1 : Int32)).2.1 13 0 20)) 13 0 21 (((z_sL (z_sI (z_sI (z_sI m 21 3 (Int32.toNatClampNeg (m.1 13 0 21)) x1) 21 4 (Int32.toNatClampNeg ((z_sI m 21 3 (Int32.toNatClampNeg (m.1 13 0 21)) x1).1 13 0 21)) x1) 21 5 (Int32.toNatClampNeg ((z_sI (z_sI m 21 3 (Int32.toNatClampNeg (m.1 13 0 21)) x1) 21 4 (Int32.toNatClampNeg ((z_sI m 21 3 (Int32.toNatClampNeg (m.1 13 0 21)) x1).1 13 0 21)) x1).1 13 0 21)) (-1 : Int32)) 31 2 (Int32.toNatClampNeg ((z_sI (z_sI (z_sI m 21 3 (Int32.toNatClampNeg (m.1 13 0 21)) x1) 21 4 (Int32.toNatClampNeg ((z_sI m 21 3 (Int32.toNatClampNeg (m.1 13 0 21)) x1).1 13 0 21)) x1) 21 5 (Int32.toNatClampNeg ((z_sI (z_sI m 21 3 (Int32.toNatClampNeg (m.1 13 0 21)) x1) 21 4 (Int32.toNatClampNeg ((z_sI m 21 3 (Int32.toNatClampNeg (m.1 13 0 21)) x1).1 13 0 21)) x1).1 13 0 21)) (-1 : Int32)).1 13 0 21)) ((z_sI (z_sI (z_sI m 21 3 (Int32.toNatClampNeg (m.1 13 0 21)) x1) 21 4 (Int32.toNatClampNeg ((z_sI m 21 3 (Int32.toNatClampNeg (m.1 13 0 21)) x1).1 13 0 21)) x1) 21 5 (Int32.toNatClampNeg ((z_sI (z_sI m 21 3 (Int32.toNatClampNeg (m.1 13 0 21)) x1) 21 4 (Int32.toNatClampNeg ((z_sI m 21 3 (Int32.toNatClampNeg (m.1 13 0 21)) x1).1 13 0 21)) x1).1 13 0 21)) (-1 : Int32)).2.1 13 0 20)).1 13 0 21) + (1 : Int32))) 31 3 (Int32.toNatClampNeg ((z_sL (z_sI (z_sI (z_sI m 21 3 (Int32.toNatClampNeg (m.1 13 0 21)) x1) 21 4 (Int32.toNatClampNeg ((z_sI m 21 3 (Int32.toNatClampNeg (m.1 13 0 21)) x1).1 13 0 21)) x1) 21 5 (Int32.toNatClampNeg ((z_sI (z_sI m 21 3 (Int32.toNatClampNeg (m.1 13 0 21)) x1) 21 4 (Int32.toNatClampNeg ((z_sI m 21 3 (Int32.toNatClampNeg (m.1 13 0 21)) x1).1 13 0 21)) x1).1 13 0 21)) (-1 : Int32)) 31 2 (Int32.toNatClampNeg ((z_sI (z_sI (z_sI m 21 3 (Int32.toNatClampNeg (m.1 13 0 21)) x1) 21 4 (Int32.toNatClampNeg ((z_sI m 21 3 (Int32.toNatClampNeg (m.1 13 0 21)) x1).1 13 0 21)) x1) 21 5 (Int32.toNatClampNeg ((z_sI (z_sI m 21 3 (Int32.toNatClampNeg (m.1 13 0 21)) x1) 21 4 (Int32.toNatClampNeg ((z_sI m 21 3 (Int32.toNatClampNeg (m.1 13 0 21)) x1).1 13 0 21)) x1).1 13 0 21)) (-1 : Int32)).1 13 0 21)) ((z_sI (z_sI (z_sI m 21 3 (Int32.toNatClampNeg (m.1 13 0 21)) x1) 21 4 (Int32.toNatClampNeg ((z_sI m 21 3 (Int32.toNatClampNeg (m.1 13 0 21)) x1).1 13 0 21)) x1) 21 5 (Int32.toNatClampNeg ((z_sI (z_sI m 21 3 (Int32.toNatClampNeg (m.1 13 0 21)) x1) 21 4 (Int32.toNatClampNeg ((z_sI m 21 3 (Int32.toNatClampNeg (m.1 13 0 21)) x1).1 13 0 21)) x1).1 13 0 21)) (-1 : Int32)).2.1 13 0 20)).1 13 0 21)) ((z_sI (z_sL (z_sI (z_sI (z_sI m 21 3 (Int32.toNatClampNeg (m.1 13 0 21)) x1) 21 4 (Int32.toNatClampNeg ((z_sI m 21 3 (Int32.toNatClampNeg (m.1 13 0 21)) x1).1 13 0 21)) x1) 21 5 (Int32.toNatClampNeg ((z_sI (z_sI m 21 3 (Int32.toNatClampNeg (m.1 13 0 21)) x1) 21 4 (Int32.toNatClampNeg ((z_sI m 21 3 (Int32.toNatClampNeg (m.1 13 0 21)) x1).1 13 0 21)) x1).1 13 0 21)) (-1 : Int32)) 31 2 (Int32.toNatClampNeg ((z_sI (z_sI (z_sI m 21 3 (Int32.toNatClampNeg (m.1 13 0 21)) x1) 21 4 (Int32.toNatClampNeg ((z_sI m 21 3 (Int32.toNatClampNeg (m.1 13 0 21)) x1).1 13 0 21)) x1) 21 5 (Int32.toNatClampNeg ((z_sI (z_sI m 21 3 (Int32.toNatClampNeg (m.1 13 0 21)) x1) 21 4 (Int32.toNatClampNeg ((z_sI m 21 3 (Int32.toNatClampNeg (m.1 13 0 21)) x1).1 13 0 21)) x1).1 13 0 21)) (-1 : Int32)).1 13 0 21)) ((z_sI (z_sI (z_sI m 21 3 (Int32.toNatClampNeg (m.1 13 0 21)) x1) 21 4 (Int32.toNatClampNeg ((z_sI m 21 3 (Int32.toNatClampNeg (m.1 13 0 21)) x1).1 13 0 21)) x1) 21 5 (Int32.toNatClampNeg ((z_sI (z_sI m 21 3 (Int32.toNatClampNeg (m.1 13 0 21)) x1) 21 4 (Int32.toNatClampNeg ((z_sI m 21 3 (Int32.toNatClampNeg (m.1 13 0 21)) x1).1 13 0 21)) x1).1 13 0 21)) (-1 : Int32)).2.1 13 0 20)) 13 0 21 (((z_sL (z_sI (z_sI (z_sI m 21 3 (Int32.toNatClampNeg (m.1 13 0 21)) x1) 21 4 (Int32.toNatClampNeg ((z_sI m 21 3 (Int32.toNatClampNeg (m.1 13 0 21)) x1).1 13 0 21)) x1) 21 5 (Int32.toNatClampNeg ((z_sI (z_sI m 21 3 (Int32.toNatClampNeg (m.1 13 0 21)) x1) 21 4 (Int32.toNatClampNeg ((z_sI m 21 3 (Int32.toNatClampNeg (m.1 13 0 21)) x1).1 13 0 21)) x1).1 13 0 21)) (-1 : Int32)) 31 2 (Int32.toNatClampNeg ((z_sI (z_sI (z_sI m 21 3 (Int32.toNatClampNeg (m.1 13 0 21)) x1) 21 4 (Int32.toNatClampNeg ((z_sI m 21 3 (Int32.toNatClampNeg (m.1 13 0 21)) x1).1 13 0 21)) x1) 21 5 (Int32.toNatClampNeg ((z_sI (z_sI m 21 3 (Int32.toNatClampNeg (m.1 13 0 21)) x1) 21 4 (Int32.toNatClampNeg ((z_sI m 21 3 (Int32.toNatClampNeg (m.1 13 0 21)) x1).1 13 0 21)) x1).1 13 0 21)) (-1 : Int32)).1 13 0 21)) ((z_sI (z_sI (z_sI m 21 3 (Int32.toNatClampNeg (m.1 13 0 21)) x1) 21 4 (Int32.toNatClampNeg ((z_sI m 21 3 (Int32.toNatClampNeg (m.1 13 0 21)) x1).1 13 0 21)) x1) 21 5 (Int32.toNatClampNeg ((z_sI (z_sI m 21 3 (Int32.toNatClampNeg (m.1 13 0 21)) x1) 21 4 (Int32.toNatClampNeg ((z_sI m 21 3 (Int32.toNatClampNeg (m.1 13 0 21)) x1).1 13 0 21)) x1).1 13 0 21)) (-1 : Int32)).2.1 13 0 20)).1 13 0 21) + (1 : Int32))).2.1 13 0 20)) (zFr.sL (zFr.sI (zFr.sL (zFr.sI (zFr.sI (zFr.sI (hm) _ (Or.inr (Or.inr (Or.inr (Or.inr (Or.inr (Or.inl ⟨rfl, rfl⟩))))))) _ (Or.inr (Or.inr (Or.inr (Or.inl ⟨rfl, rfl⟩))))) _ (Or.inr (Or.inr (Or.inr (Or.inr (Or.inr (Or.inr (Or.inl ⟨rfl, rfl⟩)))))))) _ (Or.inr (Or.inr (Or.inr (Or.inr (Or.inr (Or.inr (Or.inr ⟨rfl, rfl⟩)))))))) _ (Or.inl ⟨rfl, rfl, rfl⟩)) _ (Or.inr (Or.inr (Or.inr (Or.inr (Or.inl ⟨rfl, rfl⟩))))))
    · refine zq_gd ?_
      refine zq_if ?_ ?_
      · refine zq_gd ?_
        refine zq_if ?_ ?_
        · refine zq_gd ?_
          exact ih x1 x2 x4 x5 (x8 + (1 : Int32)) (z_sI m 21 5 (Int32.toNatClampNeg x8) (m.1 13 0 21)) (zFr.sI (hm) _ (Or.inr (Or.inr (Or.inr (Or.inr (Or.inr (Or.inr (Or.inl ⟨rfl, rfl⟩))))))))
        · exact ih x1 x2 x4 x5 (x8 + (1 : Int32)) m (hm)
      · exact ih x1 x2 x4 x5 (x8 + (1 : Int32)) m (hm)
theorem q_X12_depressions_91 (m0 : zM) (c7 : Int32 → zM → Option (zM)) (c24 : Int32 → Int64 → Int32 → Int32 → zM → Option (zM)) (hc7 : ∀ (x1 : Int32) (m : zM), zFr (p_X12_depressions) m0 m → zFK (p_X12_depressions) m0 (c7 x1 m) id) (hc24 : ∀ (x1 : Int32) (x2 : Int64) (x4 : Int32) (x5 : Int32) (m : zM), zFr (p_X12_depressions) m0 m → zFK (p_X12_depressions) m0 (c24 x1 x2 x4 x5 m) id) : ∀ (j : Nat) (x1 : Int32) (x2 : Int64) (x4 : Int32) (x5 : Int32) (x6 : Int32) (x7 : Int32) (x8 : Int32) (m : zM), zFr (p_X12_depressions) m0 m → zFK (p_X12_depressions) m0 (f_X12_depressions_91 c7 c24 j x1 x2 x4 x5 x6 x7 x8 m) id := by
  intro j
  induction j with
  | zero =>
    intro _ _ _ _ _ _ _ _ _
    exact zq_none
  | succ j ih =>
    intro x1 x2 x4 x5 x6 x7 x8 m hm
    unfold f_X12_depressions_91
    refine zq_if ?_ ?_
    · refine zq_if ?_ ?_
      · refine zq_gd ?_
        refine zq_gd ?_
        exact hc24 x1 x2 x4 (x5 + (1 : Int32)) (z_sL (z_sI m 21 4 (Int32.toNatClampNeg x7) x1) 31 3 (Int32.toNatClampNeg x7) ((z_sI m 21 4 (Int32.toNatClampNeg x7) x1).2.1 13 0 20)) (zFr.sL (zFr.sI (hm) _ (Or.inr (Or.inr (Or.inr (Or.inl ⟨rfl, rfl⟩))))) _ (Or.inr (Or.inr (Or.inr (Or.inr (Or.inl ⟨rfl, rfl⟩))))))
      · exact q_X12_depressions_179 m0 c7 c24 hc7 hc24 zF x1 x2 x4 x5 (0 : Int32) m (hm)
    · refine zq_gd ?_
      refine zq_if ?_ ?_
      · refine zq_gd ?_
        refine zq_if ?_ ?_
        · exact ih x1 x2 x4 x5 (x6 + (1 : Int32)) x8 (x8 + (1 : Int32)) m (hm)
        · exact ih x1 x2 x4 x5 x6 x7 (x8 + (1 : Int32)) m (hm)
      · exact ih x1 x2 x4 x5 x6 x7 (x8 + (1 : Int32)) m (hm)
theorem q_X12_depressions_24 (m0 : zM) (c7 : Int32 → zM → Option (zM)) (hc7 : ∀ (x1 : Int32) (m : zM), zFr (p_X12_depressions) m0 m → zFK (p_X12_depressions) m0 (c7 x1 m) id) : ∀ (j : Nat) (x1 : Int32) (x2 : Int64) (x4 : Int32) (x5 : Int32) (m : zM), zFr (p_X12_depressions) m0 m → zFK (p_X12_depressions) m0 (f_X12_depressions_24 c7 j x1 x2 x4 x5 m) id := by
  intro j
  induction j with
  | zero =>
    intro _ _ _ _ _ _
    exact zq_none
  | succ j ih =>
    intro x1 x2 x4 x5 m hm
    unfold f_X12_depressions_24
    refine zq_bind (fun r1 => ?_)
    refine zq_if ?_ ?_
    · exact hc7 (x1 + (1 : Int32)) m (hm)
    · refine zq_bind (fun r3 => ?_)
      refine zq_if ?_ ?_
      · exact ih x1 x2 x4 (x5 + (1 : Int32)) m (hm)
      · refine zq_if ?_ ?_
        · exact ih x1 x2 x4 (x5 + (1 : Int32)) m (hm)
        · refine zq_call (q_X12_land x5 (0 : Int32) x1 m) (fun _ _ _ => (fun h => Or.elim h (fun h => (Or.inr (Or.inl h))) (fun h => (Or.inr (Or.inr (Or.inl h)))))) (hm) (fun r6 gr6 => ?_)
          refine zq_bind (fun r7 => ?_)
          refine zq_if ?_ ?_
          · exact ih x1 (x2 ||| (r6.2.1 13 0 20)) x4 (x5 + (1 : Int32)) r6 (gr6)
          · exact q_X12_depressions_91 m0 c7 (f_X12_depressions_24 c7 j) hc7 ih zF x1 (x2 ||| (r6.2.1 13 0 20)) x4 x5 (0 : Int32) (-1 : Int32) (0 : Int32) r6 (gr6)
theorem q_X12_depressions_7 (m0 : zM) : ∀ (j : Nat) (x1 : Int32) (m : zM), zFr (p_X12_depressions) m0 m → zFK (p_X12_depressions) m0 (f_X12_depressions_7 j x1 m) id := by
  intro j
  induction j with
  | zero =>
    intro _ _ _
    exact zq_none
  | succ j ih =>
    intro x1 m hm
    unfold f_X12_depressions_7
    refine zq_if ?_ ?_
    · exact zq_some (hm)
    · exact q_X12_depressions_24 m0 (f_X12_depressions_7 j) ih zF x1 (0 : Int64) (m.1 13 0 21) (0 : Int32) m (hm)
theorem q_X12_depressions (m : zM) : zFK (p_X12_depressions) m (f_X12_depressions m) id := by
  unfold f_X12_depressions
  exact q_X12_depressions_7 m zF (0 : Int32) (z_sI m 13 0 21 (0 : Int32)) (zFr.sI (zFr.refl m) _ (Or.inl ⟨rfl, rfl, rfl⟩))
abbrev p_X12_level (k i j : Nat) : Prop := (k = 13 ∧ i = 0 ∧ j = 0) ∨ (k = 20 ∧ i = 59)
theorem q_X12_level (x1 : Int32) (m : zM) : zFK (p_X12_level) m (f_X12_level x1 m) (fun a => a.2) := by
  unfold f_X12_level
  refine zq_bind (fun r1 => ?_)
  refine zq_if ?_ ?_
  · refine zq_call (q_X12_raises (1 : Int32) (z_sI m 13 0 0 (0 : Int32))) (fun _ _ _ => (fun h => (Or.inl h))) (zFr.sI (zFr.refl m) _ (Or.inl ⟨rfl, rfl, rfl⟩)) (fun r3 gr3 => ?_)
    exact zq_some (gr3)
  · refine zq_call (q_X12_levels (z_sI m 13 0 0 (0 : Int32))) (fun _ _ _ => (fun h => (Or.inr h))) (zFr.sI (zFr.refl m) _ (Or.inl ⟨rfl, rfl, rfl⟩)) (fun r4 gr4 => ?_)
    refine zq_gd ?_
    exact zq_some (gr4)
abbrev p_X12_meanDepth (k i j : Nat) : Prop := (k = 13 ∧ i = 0 ∧ j = 0) ∨ (k = 20 ∧ i = 59)
theorem q_X12_meanDepth_15 (m0 : zM) : ∀ (j : Nat) (x1 : Int32) (x2 : Int32) (x3 : Int32) (m : zM), zFr (p_X12_meanDepth) m0 m → zFK (p_X12_meanDepth) m0 (f_X12_meanDepth_15 j x1 x2 x3 m) (fun a => a.2) := by
  intro j
  induction j with
  | zero =>
    intro _ _ _ _ _
    exact zq_none
  | succ j ih =>
    intro x1 x2 x3 m hm
    unfold f_X12_meanDepth_15
    refine zq_bind (fun r1 => ?_)
    refine zq_if ?_ ?_
    · refine zq_if ?_ ?_
      · refine zq_call (q_X12_raises (1 : Int32) m) (fun _ _ _ => (fun h => (Or.inl h))) (hm) (fun r4 gr4 => ?_)
        exact zq_some (gr4)
      · refine zq_gd ?_
        exact zq_some (hm)
    · refine zq_bind (fun r6 => ?_)
      refine zq_bind (fun r7 => ?_)
      refine zq_if ?_ ?_
      · exact ih (x1 + r6) x2 (x3 + (1 : Int32)) m (hm)
      · exact ih (x1 + r6) (x2 + (1 : Int32)) (x3 + (1 : Int32)) m (hm)
theorem q_X12_meanDepth (m : zM) : zFK (p_X12_meanDepth) m (f_X12_meanDepth m) (fun a => a.2) := by
  unfold f_X12_meanDepth
  refine zq_call (q_X12_levels (z_sI m 13 0 0 (0 : Int32))) (fun _ _ _ => (fun h => (Or.inr h))) (zFr.sI (zFr.refl m) _ (Or.inl ⟨rfl, rfl, rfl⟩)) (fun r1 gr1 => ?_)
  exact q_X12_meanDepth_15 m zF (0 : Int32) (0 : Int32) (0 : Int32) r1 (gr1)
abbrev p_X12_depths (k i j : Nat) : Prop := (k = 20 ∧ i = 59)
theorem q_X12_depths_8 (m0 : zM) : ∀ (j : Nat) (x1 : Int32) (x2 : Int32) (m : zM), zFr (p_X12_depths) m0 m → zFK (p_X12_depths) m0 (f_X12_depths_8 j x1 x2 m) (fun a => a.2) := by
  intro j
  induction j with
  | zero =>
    intro _ _ _ _
    exact zq_none
  | succ j ih =>
    intro x1 x2 m hm
    unfold f_X12_depths_8
    refine zq_bind (fun r1 => ?_)
    refine zq_if ?_ ?_
    · exact zq_some (hm)
    · refine zq_bind (fun r3 => ?_)
      exact ih (x1 + r3) (x2 + (1 : Int32)) m (hm)
theorem q_X12_depths (m : zM) : zFK (p_X12_depths) m (f_X12_depths m) (fun a => a.2) := by
  unfold f_X12_depths
  refine zq_call (q_X12_levels m) (fun _ _ _ => (fun h => h)) (zFr.refl m) (fun r1 gr1 => ?_)
  exact q_X12_depths_8 m zF (0 : Int32) (0 : Int32) r1 (gr1)
abbrev p_X12_pools (k i j : Nat) : Prop := (k = 13 ∧ i = 0 ∧ j = 0) ∨ (k = 13 ∧ i = 0 ∧ j = 20) ∨ (k = 20 ∧ i = 66)
theorem q_X12_pools_35 (m0 : zM) : ∀ (j : Nat) (x1 : Int32) (x2 : Int64) (x4 : Int32) (m : zM), zFr (p_X12_pools) m0 m → zFK (p_X12_pools) m0 (f_X12_pools_35 j x1 x2 x4 m) (fun a => a.2) := by
  intro j
  induction j with
  | zero =>
    intro _ _ _ _ _
    exact zq_none
  | succ j ih =>
    intro x1 x2 x4 m hm
    unfold f_X12_pools_35
    refine zq_bind (fun r1 => ?_)
    refine zq_if ?_ ?_
    · exact zq_some (hm)
    · refine zq_bind (fun r3 => ?_)
      refine zq_if ?_ ?_
      · refine zq_call (q_X12_land x4 (0 : Int32) x1 m) (fun _ _ _ => (fun h => Or.elim h (fun h => (Or.inr (Or.inl h))) (fun h => (Or.inr (Or.inr h))))) (hm) (fun r5 gr5 => ?_)
        refine zq_bind (fun r6 => ?_)
        refine zq_if ?_ ?_
        · exact ih x1 x2 (x4 + (1 : Int32)) r5 (gr5)
        · exact ih x1 (x2 ||| (z_shl (1 : Int64) x4)) (x4 + (1 : Int32)) r5 (gr5)
      · exact ih x1 x2 (x4 + (1 : Int32)) m (hm)
theorem q_X12_pools_18 (m0 : zM) (x1 : Int32) (s1 : Int32) (m : zM) (hm : zFr (p_X12_pools) m0 m) : zFK (p_X12_pools) m0 (f_X12_pools_18 x1 s1 m) (fun a => a.2) := by
  unfold f_X12_pools_18
  refine zq_if ?_ ?_
  · exact q_X12_pools_35 m0 zF x1 (0 : Int64) (0 : Int32) (z_sI m 13 0 0 s1) (zFr.sI (hm) _ (Or.inl ⟨rfl, rfl, rfl⟩))
  · exact zq_some (zFr.sI (hm) _ (Or.inl ⟨rfl, rfl, rfl⟩))
theorem q_X12_pools (x1 : Int32) (m : zM) : zFK (p_X12_pools) m (f_X12_pools x1 m) (fun a => a.2) := by
  unfold f_X12_pools
  refine zq_bind (fun r1 => ?_)
  refine zq_if ?_ ?_
  · exact q_X12_pools_18 m x1 (1 : Int32) m (zFr.refl m)
  · exact q_X12_pools_18 m x1 (0 : Int32) m (zFr.refl m)
abbrev p_X12_contour (k i j : Nat) : Prop := (k = 13 ∧ i = 0 ∧ j = 0) ∨ (k = 13 ∧ i = 0 ∧ j = 20) ∨ (k = 20 ∧ i = 66)
theorem q_X12_contour_29 (m0 : zM) (m : zM) (hm : zFr (p_X12_contour) m0 m) : zFK (p_X12_contour) m0 (f_X12_contour_29 m) (fun a => a.2) := by
  unfold f_X12_contour_29
  refine zq_call (q_X12_raises (1 : Int32) m) (fun _ _ _ => (fun h => (Or.inl h))) (hm) (fun r1 gr1 => ?_)
  exact zq_some (gr1)
theorem q_X12_contour_221 (m0 : zM) (c43 : Int32 → Int32 → Int32 → Int64 → Int32 → zM → Option (Int32 × zM)) (hc43 : ∀ (x1 : Int32) (x2 : Int32) (x3 : Int32) (x4 : Int64) (x6 : Int32) (m : zM), zFr (p_X12_contour) m0 m → zFK (p_X12_contour) m0 (c43 x1 x2 x3 x4 x6 m) (fun a => a.2)) : ∀ (j : Nat) (x1 : Int32) (x2 : Int32) (x3 : Int32) (x4 : Int64) (x6 : Int32) (x8 : Int32) (x9 : Int32) (m : zM), zFr (p_X12_contour) m0 m → zFK (p_X12_contour) m0 (f_X12_contour_221 c43 j x1 x2 x3 x4 x6 x8 x9 m) (fun a => a.2) := by
  intro j
  induction j with
  | zero =>
    intro _ _ _ _ _ _ _ _ _
    exact zq_none
  | succ j ih =>
    intro x1 x2 x3 x4 x6 x8 x9 m hm
    unfold f_X12_contour_221
    refine zq_bind (fun r1 => ?_)
    refine zq_if ?_ ?_
    · refine zq_if ?_ ?_
      · exact hc43 x1 x2 x3 x4 (x6 + (1 : Int32)) m (hm)
      · exact hc43 x1 x2 (x3 + (1 : Int32)) x4 (x6 + (1 : Int32)) m (hm)
    · refine zq_if ?_ ?_
      · refine zq_if ?_ ?_
        · refine zq_bind (fun r6 => ?_)
          refine zq_if ?_ ?_
          · exact ih x1 x2 x3 x4 x6 x8 (x9 + (1 : Int32)) m (hm)
          · exact ih x1 x2 x3 x4 x6 (0 : Int32) (x9 + (1 : Int32)) m (hm)
        · exact ih x1 x2 x3 x4 x6 x8 (x9 + (1 : Int32)) m (hm)
      · exact ih x1 x2 x3 x4 x6 x8 (x9 + (1 : Int32)) m (hm)
theorem q_X12_contour_203 (m0 : zM) (c43 : Int32 → Int32 → Int32 → Int64 → Int32 → zM → Option (Int32 × zM)) (hc43 : ∀ (x1 : Int32) (x2 : Int32) (x3 : Int32) (x4 : Int64) (x6 : Int32) (m : zM), zFr (p_X12_contour) m0 m → zFK (p_X12_contour) m0 (c43 x1 x2 x3 x4 x6 m) (fun a => a.2)) (x1 : Int32) (x2 : Int32) (x3 : Int32) (x4 : Int64) (x6 : Int32) (s1 : Int32) (s2 : Int32) (s3 : Int32) (m : zM) (hm : zFr (p_X12_contour) m0 m) : zFK (p_X12_contour) m0 (f_X12_contour_203 c43 x1 x2 x3 x4 x6 s1 s2 s3 m) (fun a => a.2) := by
  unfold f_X12_contour_203
  refine zq_call (q_X12_land s1 s2 s3 m) (fun _ _ _ => (fun h => Or.elim h (fun h => (Or.inr (Or.inl h))) (fun h => (Or.inr (Or.inr h))))) (hm) (fun r1 gr1 => ?_)
  exact q_X12_contour_221 m0 c43 hc43 zF x1 x2 x3 (x4 ||| (r1.2.1 13 0 20)) x6 (1 : Int32) (0 : Int32) r1 (gr1)
theorem q_X12_contour_190 (m0 : zM) (c43 : Int32 → Int32 → Int32 → Int64 → Int32 → zM → Option (Int32 × zM)) (hc43 : ∀ (x1 : Int32) (x2 : Int32) (x3 : Int32) (x4 : Int64) (x6 : Int32) (m : zM), zFr (p_X12_contour) m0 m → zFK (p_X12_contour) m0 (c43 x1 x2 x3 x4 x6 m) (fun a => a.2)) (x1 : Int32) (x2 : Int32) (x3 : Int32) (x4 : Int64) (x6 : Int32) (x7 : Int32) (s1 : Int32) (s2 : Int32) (m : zM) (hm : zFr (p_X12_contour) m0 m) : zFK (p_X12_contour) m0 (f_X12_contour_190 c43 x1 x2 x3 x4 x6 x7 s1 s2 m) (fun a => a.2) := by
  unfold f_X12_contour_190
  refine zq_if ?_ ?_
  · exact q_X12_contour_203 m0 c43 hc43 x1 x2 x3 x4 x6 s1 s2 (x1 - (1 : Int32)) m (hm)
  · exact q_X12_contour_203 m0 c43 hc43 x1 x2 x3 x4 x6 s1 s2 (99 : Int32) m (hm)
theorem q_X12_contour_159 (m0 : zM) (c43 : Int32 → Int32 → Int32 → Int64 → Int32 → zM → Option (Int32 × zM)) (hc43 : ∀ (x1 : Int32) (x2 : Int32) (x3 : Int32) (x4 : Int64) (x6 : Int32) (m : zM), zFr (p_X12_contour) m0 m → zFK (p_X12_contour) m0 (c43 x1 x2 x3 x4 x6 m) (fun a => a.2)) (x1 : Int32) (x2 : Int32) (x3 : Int32) (x4 : Int64) (x6 : Int32) (x7 : Int32) (s0 : Int32) (s1 : Int32) (m : zM) (hm : zFr (p_X12_contour) m0 m) : zFK (p_X12_contour) m0 (f_X12_contour_159 c43 x1 x2 x3 x4 x6 x7 s0 s1 m) (fun a => a.2) := by
  unfold f_X12_contour_159
  refine zq_if ?_ ?_
  · refine zq_if ?_ ?_
    · exact hc43 x1 x2 x3 x4 (x6 + (1 : Int32)) m (hm)
    · refine zq_if ?_ ?_
      · exact q_X12_contour_190 m0 c43 hc43 x1 x2 x3 x4 x6 x7 x6 (0 : Int32) m (hm)
      · exact q_X12_contour_190 m0 c43 hc43 x1 x2 x3 x4 x6 x7 x6 x1 m (hm)
  · exact hc43 x1 x2 x3 x4 (x6 + (1 : Int32)) m (hm)
theorem q_X12_contour_141 (m0 : zM) (c43 : Int32 → Int32 → Int32 → Int64 → Int32 → zM → Option (Int32 × zM)) (hc43 : ∀ (x1 : Int32) (x2 : Int32) (x3 : Int32) (x4 : Int64) (x6 : Int32) (m : zM), zFr (p_X12_contour) m0 m → zFK (p_X12_contour) m0 (c43 x1 x2 x3 x4 x6 m) (fun a => a.2)) (x1 : Int32) (x2 : Int32) (x3 : Int32) (x4 : Int64) (x6 : Int32) (x7 : Int32) (m : zM) (hm : zFr (p_X12_contour) m0 m) : zFK (p_X12_contour) m0 (f_X12_contour_141 c43 x1 x2 x3 x4 x6 x7 m) (fun a => a.2) := by
  unfold f_X12_contour_141
  refine zq_gd ?_
  refine zq_if ?_ ?_
  · exact hc43 x1 x2 x3 x4 (x6 + (1 : Int32)) m (hm)
  · refine zq_if ?_ ?_
    · exact q_X12_contour_159 m0 c43 hc43 x1 x2 x3 x4 x6 x7 x7 (1 : Int32) m (hm)
    · exact q_X12_contour_159 m0 c43 hc43 x1 x2 x3 x4 x6 x7 x7 (0 : Int32) m (hm)
theorem q_X12_contour_127 (m0 : zM) (c43 : Int32 → Int32 → Int32 → Int64 → Int32 → zM → Option (Int32 × zM)) (c89 : Int32 → Int32 → Int32 → Int64 → Int32 → Int32 → Int32 → zM → Option (Int32 × zM)) (hc43 : ∀ (x1 : Int32) (x2 : Int32) (x3 : Int32) (x4 : Int64) (x6 : Int32) (m : zM), zFr (p_X12_contour) m0 m → zFK (p_X12_contour) m0 (c43 x1 x2 x3 x4 x6 m) (fun a => a.2)) (hc89 : ∀ (x1 : Int32) (x2 : Int32) (x3 : Int32) (x4 : Int64) (x6 : Int32) (x7 : Int32) (x8 : Int32) (m : zM), zFr (p_X12_contour) m0 m → zFK (p_X12_contour) m0 (c89 x1 x2 x3 x4 x6 x7 x8 m) (fun a => a.2)) (x1 : Int32) (x2 : Int32) (x3 : Int32) (x4 : Int64) (x6 : Int32) (x7 : Int32) (x8 : Int32) (s0 : Int32) (m : zM) (hm : zFr (p_X12_contour) m0 m) : zFK (p_X12_contour) m0 (f_X12_contour_127 c43 c89 x1 x2 x3 x4 x6 x7 x8 s0 m) (fun a => a.2) := by
  unfold f_X12_contour_127
  refine zq_if ?_ ?_
  · exact hc89 x1 x2 x3 x4 x6 x7 (x8 + (1 : Int32)) m (hm)
  · exact hc89 x1 x2 (x3 + (1 : Int32)) x4 x6 x7 (x8 + (1 : Int32)) m (hm)
theorem q_X12_contour_89 (m0 : zM) (c43 : Int32 → Int32 → Int32 → Int64 → Int32 → zM → Option (Int32 × zM)) (hc43 : ∀ (x1 : Int32) (x2 : Int32) (x3 : Int32) (x4 : Int64) (x6 : Int32) (m : zM), zFr (p_X12_contour) m0 m → zFK (p_X12_contour) m0 (c43 x1 x2 x3 x4 x6 m) (fun a => a.2)) : ∀ (j : Nat) (x1 : Int32) (x2 : Int32) (x3 : Int32) (x4 : Int64) (x6 : Int32) (x7 : Int32) (x8 : Int32) (m : zM), zFr (p_X12_contour) m0 m → zFK (p_X12_contour) m0 (f_X12_contour_89 c43 j x1 x2 x3 x4 x6 x7 x8 m) (fun a => a.2) := by
  intro j
  induction j with
  | zero =>
    intro _ _ _ _ _ _ _ _ _
    exact zq_none
  | succ j ih =>
    intro x1 x2 x3 x4 x6 x7 x8 m hm
    unfold f_X12_contour_89
    refine zq_if ?_ ?_
    · exact q_X12_contour_141 m0 c43 hc43 x1 x2 x3 x4 x6 x7 m (hm)
    · refine zq_bind (fun r2 => ?_)
      refine zq_if ?_ ?_
      · exact ih x1 x2 x3 x4 x6 x7 (x8 + (1 : Int32)) m (hm)
      · refine zq_bind (fun r4 => ?_)
        refine zq_bind (fun r5 => ?_)
        refine zq_if ?_ ?_
        · exact q_X12_contour_127 m0 c43 (f_X12_contour_89 c43 j) hc43 ih x1 x2 x3 x4 x6 x7 x8 (0 : Int32) m (hm)
        · exact q_X12_contour_127 m0 c43 (f_X12_contour_89 c43 j) hc43 ih x1 x2 x3 x4 x6 x7 x8 (1 : Int32) m (hm)
theorem q_X12_contour_81 (m0 : zM) (c43 : Int32 → Int32 → Int32 → Int64 → Int32 → zM → Option (Int32 × zM)) (hc43 : ∀ (x1 : Int32) (x2 : Int32) (x3 : Int32) (x4 : Int64) (x6 : Int32) (m : zM), zFr (p_X12_contour) m0 m → zFK (p_X12_contour) m0 (c43 x1 x2 x3 x4 x6 m) (fun a => a.2)) (x1 : Int32) (x2 : Int32) (x3 : Int32) (x4 : Int64) (x6 : Int32) (x7 : Int32) (m : zM) (hm : zFr (p_X12_contour) m0 m) : zFK (p_X12_contour) m0 (f_X12_contour_81 c43 x1 x2 x3 x4 x6 x7 m) (fun a => a.2) := by
  unfold f_X12_contour_81
  refine zq_if ?_ ?_
  · exact q_X12_contour_89 m0 c43 hc43 zF x1 x2 x3 x4 x6 x7 (1 : Int32) m (hm)
  · exact q_X12_contour_141 m0 c43 hc43 x1 x2 x3 x4 x6 x7 m (hm)
theorem q_X12_contour_67 (m0 : zM) (c43 : Int32 → Int32 → Int32 → Int64 → Int32 → zM → Option (Int32 × zM)) (hc43 : ∀ (x1 : Int32) (x2 : Int32) (x3 : Int32) (x4 : Int64) (x6 : Int32) (m : zM), zFr (p_X12_contour) m0 m → zFK (p_X12_contour) m0 (c43 x1 x2 x3 x4 x6 m) (fun a => a.2)) (x1 : Int32) (x2 : Int32) (x3 : Int32) (x4 : Int64) (x6 : Int32) (s0 : Int32) (m : zM) (hm : zFr (p_X12_contour) m0 m) : zFK (p_X12_contour) m0 (f_X12_contour_67 c43 x1 x2 x3 x4 x6 s0 m) (fun a => a.2) := by
  unfold f_X12_contour_67
  refine zq_if ?_ ?_
  · refine zq_if ?_ ?_
    · exact q_X12_contour_81 m0 c43 hc43 x1 x2 x3 x4 x6 s0 m (hm)
    · exact q_X12_contour_81 m0 c43 hc43 x1 x2 (x3 + (1 : Int32)) x4 x6 s0 m (hm)
  · exact q_X12_contour_81 m0 c43 hc43 x1 x2 x3 x4 x6 s0 m (hm)
theorem q_X12_contour_43 (m0 : zM) : ∀ (j : Nat) (x1 : Int32) (x2 : Int32) (x3 : Int32) (x4 : Int64) (x6 : Int32) (m : zM), zFr (p_X12_contour) m0 m → zFK (p_X12_contour) m0 (f_X12_contour_43 j x1 x2 x3 x4 x6 m) (fun a => a.2) := by
  intro j
  induction j with
  | zero =>
    intro _ _ _ _ _ _ _
    exact zq_none
  | succ j ih =>
    intro x1 x2 x3 x4 x6 m hm
    unfold f_X12_contour_43
    refine zq_bind (fun r1 => ?_)
    refine zq_if ?_ ?_
    · exact zq_some (hm)
    · refine zq_bind (fun r3 => ?_)
      refine zq_if ?_ ?_
      · exact q_X12_contour_67 m0 (f_X12_contour_43 j) ih x1 x2 x3 x4 x6 (0 : Int32) m (hm)
      · exact q_X12_contour_67 m0 (f_X12_contour_43 j) ih x1 x2 x3 x4 x6 (1 : Int32) m (hm)
theorem q_X12_contour (x1 : Int32) (x2 : Int32) (m : zM) : zFK (p_X12_contour) m (f_X12_contour x1 x2 m) (fun a => a.2) := by
  unfold f_X12_contour
  refine zq_bind (fun r1 => ?_)
  refine zq_if ?_ ?_
  · exact q_X12_contour_29 m (z_sI m 13 0 0 (0 : Int32)) (zFr.sI (zFr.refl m) _ (Or.inl ⟨rfl, rfl, rfl⟩))
  · refine zq_bind (fun r3 => ?_)
    refine zq_if ?_ ?_
    · exact q_X12_contour_29 m (z_sI m 13 0 0 (0 : Int32)) (zFr.sI (zFr.refl m) _ (Or.inl ⟨rfl, rfl, rfl⟩))
    · exact q_X12_contour_43 m zF x1 x2 (0 : Int32) (0 : Int64) (0 : Int32) (z_sI m 13 0 0 (0 : Int32)) (zFr.sI (zFr.refl m) _ (Or.inl ⟨rfl, rfl, rfl⟩))
abbrev p_X12_command (k i j : Nat) : Prop := (k = 13 ∧ i = 0 ∧ j = 9) ∨ (k = 23 ∧ i = 2)
theorem q_X12_command_190 (m0 : zM) (s1 : Int32) (s2 : Int32) (m : zM) (hm : zFr (p_X12_command) m0 m) : zFK (p_X12_command) m0 (f_X12_command_190 s1 s2 m) (fun a => a.2) := by
  unfold f_X12_command_190
  refine zq_gd ?_
  exact zq_some (zFr.sI (hm) _ (Or.inr ⟨rfl, rfl⟩))
theorem q_X12_command_171 (m0 : zM) (x3 : Int32) (x4 : Int32) (m : zM) (hm : zFr (p_X12_command) m0 m) : zFK (p_X12_command) m0 (f_X12_command_171 x3 x4 m) (fun a => a.2) := by
  unfold f_X12_command_171
  refine zq_if ?_ ?_
  · exact q_X12_command_190 m0 ((195 : Int32) + x3) (0 : Int32) m (hm)
  · exact q_X12_command_190 m0 ((195 : Int32) + x3) (1 : Int32) m (hm)
theorem q_X12_command_108 (m0 : zM) : ∀ (j : Nat) (x3 : Int32) (x4 : Int32) (x5 : Int32) (x6 : Int32) (m : zM), zFr (p_X12_command) m0 m → zFK (p_X12_command) m0 (f_X12_command_108 j x3 x4 x5 x6 m) (fun a => a.2) := by
  intro j
  induction j with
  | zero =>
    intro _ _ _ _ _ _
    exact zq_none
  | succ j ih =>
    intro x3 x4 x5 x6 m hm
    unfold f_X12_command_108
    refine zq_bind (fun r1 => ?_)
    refine zq_if ?_ ?_
    · refine zq_if ?_ ?_
      · refine zq_gd ?_
        refine zq_if ?_ ?_
        · refine zq_if ?_ ?_
          · exact zq_some (hm)
          · exact q_X12_command_171 m0 x3 x4 m (hm)
        · exact q_X12_command_171 m0 x3 x4 m (hm)
      · exact q_X12_command_171 m0 x3 x4 m (hm)
    · refine zq_if ?_ ?_
      · exact ih x3 x4 x5 (x6 + (1 : Int32)) m (hm)
      · refine zq_gd ?_
        exact ih x3 x4 (x5 + (m.1 23 2 (Int32.toNatClampNeg ((195 : Int32) + x6)))) (x6 + (1 : Int32)) m (hm)
theorem q_X12_command_102 (m0 : zM) (x3 : Int32) (x4 : Int32) (m : zM) (hm : zFr (p_X12_command) m0 m) : zFK (p_X12_command) m0 (f_X12_command_102 x3 x4 m) (fun a => a.2) := by
  unfold f_X12_command_102
  exact q_X12_command_108 m0 zF x3 x4 (0 : Int32) (0 : Int32) m (hm)
theorem q_X12_command_295 (m0 : zM) (x3 : Int32) (x4 : Int32) (s1 : Int32) (m : zM) (hm : zFr (p_X12_command) m0 m) : zFK (p_X12_command) m0 (f_X12_command_295 x3 x4 s1 m) (fun a => a.2) := by
  unfold f_X12_command_295
  refine zq_gd ?_
  exact zq_some (zFr.sI (hm) _ (Or.inr ⟨rfl, rfl⟩))
theorem q_X12_command_260 (m0 : zM) (x1 : Int32) (x3 : Int32) (x4 : Int32) (m : zM) (hm : zFr (p_X12_command) m0 m) : zFK (p_X12_command) m0 (f_X12_command_260 x1 x3 x4 m) (fun a => a.2) := by
  unfold f_X12_command_260
  refine zq_if ?_ ?_
  · refine zq_if ?_ ?_
    · exact q_X12_command_295 m0 x3 x4 (3 : Int32) m (hm)
    · refine zq_if ?_ ?_
      · exact q_X12_command_295 m0 x3 x4 (67 : Int32) m (hm)
      · exact q_X12_command_295 m0 x3 x4 (131 : Int32) m (hm)
  · exact zq_some (hm)
theorem q_X12_command_31 (m0 : zM) (x1 : Int32) (m : zM) (hm : zFr (p_X12_command) m0 m) : zFK (p_X12_command) m0 (f_X12_command_31 x1 m) (fun a => a.2) := by
  unfold f_X12_command_31
  refine zq_call (q_X12_number (z_sI m 13 0 9 ((m.1 13 0 9) + (1 : Int32)))) (fun _ _ _ => (fun h => (Or.inl h))) (zFr.sI (hm) _ (Or.inl ⟨rfl, rfl, rfl⟩)) (fun r1 gr1 => ?_)
  refine zq_if ?_ ?_
  · refine zq_bind (fun r3 => ?_)
    refine zq_if ?_ ?_
    · exact zq_some (zFr.sI (gr1) _ (Or.inl ⟨rfl, rfl, rfl⟩))
    · refine zq_if ?_ ?_
      · refine zq_call (q_X12_takes (43 : Int32) r1.2) (fun _ _ _ => (fun h => (Or.inl h))) (gr1) (fun r6 gr6 => ?_)
        refine zq_if ?_ ?_
        · refine zq_call (q_X12_takes (45 : Int32) r6.2) (fun _ _ _ => (fun h => (Or.inl h))) (gr6) (fun r8 gr8 => ?_)
          refine zq_if ?_ ?_
          · exact zq_some (gr8)
          · exact q_X12_command_102 m0 r1.1 (z_bi r6.1) r8.2 (gr8)
        · exact q_X12_command_102 m0 r1.1 (z_bi r6.1) r6.2 (gr6)
      · refine zq_call (q_X12_takes (61 : Int32) r1.2) (fun _ _ _ => (fun h => (Or.inl h))) (gr1) (fun r10 gr10 => ?_)
        refine zq_if ?_ ?_
        · exact zq_some (gr10)
        · refine zq_if ?_ ?_
          · refine zq_call (q_X12_number r10.2) (fun _ _ _ => (fun h => (Or.inl h))) (gr10) (fun r13 gr13 => ?_)
            exact q_X12_command_260 m0 x1 r1.1 r13.1 r13.2 (gr13)
          · refine zq_bind (fun r14 => ?_)
            refine zq_bind (fun r15 => ?_)
            refine zq_if ?_ ?_
            · exact q_X12_command_260 m0 x1 r1.1 (-1 : Int32) r10.2 (gr10)
            · refine zq_gd ?_
              exact q_X12_command_260 m0 x1 r1.1 (((z_sI r10.2 13 0 9 ((r10.2.1 13 0 9) + (1 : Int32))).1 25 0 (Int32.toNatClampNeg (r10.2.1 13 0 9))) - (48 : Int32)) (z_sI r10.2 13 0 9 ((r10.2.1 13 0 9) + (1 : Int32))) (zFr.sI (gr10) _ (Or.inl ⟨rfl, rfl, rfl⟩))
  · exact zq_some (gr1)
theorem q_X12_command (m : zM) : zFK (p_X12_command) m (f_X12_command m) (fun a => a.2) := by
  unfold f_X12_command
  refine zq_bind (fun r1 => ?_)
  refine zq_if ?_ ?_
  · exact q_X12_command_31 m r1 m (zFr.refl m)
  · refine zq_if ?_ ?_
    · exact q_X12_command_31 m r1 m (zFr.refl m)
    · refine zq_if ?_ ?_
      · exact q_X12_command_31 m r1 m (zFr.refl m)
      · refine zq_if ?_ ?_
        · exact q_X12_command_31 m r1 m (zFr.refl m)
        · exact zq_some (zFr.refl m)
abbrev p_L_append (k i j : Nat) : Prop := (k = 34 ∧ i = 0) ∨ (k = 10 ∧ i = 0 ∧ j = 1) ∨ (k = 32 ∧ i = 0)
theorem q_L_append (x1 : Int32) (m : zM) : zFK (p_L_append) m (f_L_append x1 m) (fun a => a.2) := by
  unfold f_L_append
  refine zq_callh (q_X11_append x1 m) (fun _ _ _ => (fun h => Or.elim h (fun h => (Or.inl h)) (fun h => (Or.inr (Or.inl h))))) (zFr.refl m) (fun _ _ => rfl) (fun r1 m2 gm2 => ?_)
  refine zq_gd ?_
  exact zq_some (zFr.sL (gm2) _ (Or.inr (Or.inr ⟨rfl, rfl⟩)))
abbrev p_X0_solve (g1 : Nat) (k i j : Nat) : Prop := (k = 20 ∧ i = 57)
theorem q_X0_solve_92 (g1 : Nat) (m0 : zM) (c50 : Int32 → Int32 → Int32 → Int32 → zM → Option (zM)) (c68 : Int32 → Int32 → Int32 → Int32 → Int32 → zM → Option (zM)) (hc50 : ∀ (x2 : Int32) (x3 : Int32) (x4 : Int32) (x5 : Int32) (m : zM), zFr (p_X0_solve g1) m0 m → zFK (p_X0_solve g1) m0 (c50 x2 x3 x4 x5 m) id) (hc68 : ∀ (x2 : Int32) (x3 : Int32) (x4 : Int32) (x5 : Int32) (x6 : Int32) (m : zM), zFr (p_X0_solve g1) m0 m → zFK (p_X0_solve g1) m0 (c68 x2 x3 x4 x5 x6 m) id) (x2 : Int32) (x3 : Int32) (x4 : Int32) (x5 : Int32) (x6 : Int32) (s0 : Int32) (m : zM) (hm : zFr (p_X0_solve g1) m0 m) : zFK (p_X0_solve g1) m0 (f_X0_solve_92 g1 c50 c68 x2 x3 x4 x5 x6 s0 m) id := by
  unfold f_X0_solve_92
  refine zq_bind (fun r1 => ?_)
  refine zq_if ?_ ?_
  · exact hc68 x2 x3 x4 x5 (x6 + (1 : Int32)) m (hm)
  · refine zq_call (q_X0_improve g1 s0 x2 m) (fun _ _ _ => (fun h => h)) (hm) (fun r3 gr3 => ?_)
    refine zq_if ?_ ?_
    · exact hc68 x2 x3 x4 x5 (x6 + (1 : Int32)) r3.2 (gr3)
    · exact hc68 x2 x3 (1 : Int32) x5 (x6 + (1 : Int32)) r3.2 (gr3)
theorem q_X0_solve_68 (g1 : Nat) (m0 : zM) (c50 : Int32 → Int32 → Int32 → Int32 → zM → Option (zM)) (hc50 : ∀ (x2 : Int32) (x3 : Int32) (x4 : Int32) (x5 : Int32) (m : zM), zFr (p_X0_solve g1) m0 m → zFK (p_X0_solve g1) m0 (c50 x2 x3 x4 x5 m) id) : ∀ (j : Nat) (x2 : Int32) (x3 : Int32) (x4 : Int32) (x5 : Int32) (x6 : Int32) (m : zM), zFr (p_X0_solve g1) m0 m → zFK (p_X0_solve g1) m0 (f_X0_solve_68 g1 c50 j x2 x3 x4 x5 x6 m) id := by
  intro j
  induction j with
  | zero =>
    intro _ _ _ _ _ _ _
    exact zq_none
  | succ j ih =>
    intro x2 x3 x4 x5 x6 m hm
    unfold f_X0_solve_68
    refine zq_if ?_ ?_
    · exact hc50 x2 x3 x4 (x5 + (1 : Int32)) m (hm)
    · refine zq_gd ?_
      refine zq_if ?_ ?_
      · exact q_X0_solve_92 g1 m0 c50 (f_X0_solve_68 g1 c50 j) hc50 ih x2 x3 x4 x5 x6 x6 m (hm)
      · exact q_X0_solve_92 g1 m0 c50 (f_X0_solve_68 g1 c50 j) hc50 ih x2 x3 x4 x5 x6 ((x3 - (1 : Int32)) - x6) m (hm)
theorem q_X0_solve_50 (g1 : Nat) (m0 : zM) : ∀ (j : Nat) (x2 : Int32) (x3 : Int32) (x4 : Int32) (x5 : Int32) (m : zM), zFr (p_X0_solve g1) m0 m → zFK (p_X0_solve g1) m0 (f_X0_solve_50 g1 j x2 x3 x4 x5 m) id := by
  intro j
  induction j with
  | zero =>
    intro _ _ _ _ _ _
    exact zq_none
  | succ j ih =>
    intro x2 x3 x4 x5 m hm
    unfold f_X0_solve_50
    refine zq_if ?_ ?_
    · exact zq_some (hm)
    · refine zq_if ?_ ?_
      · exact zq_some (hm)
      · exact q_X0_solve_68 g1 m0 (f_X0_solve_50 g1 j) ih zF x2 x3 (0 : Int32) x5 (0 : Int32) m (hm)
theorem q_X0_solve_35 (g1 : Nat) (m0 : zM) (c8 : Int32 → Int32 → Int32 → zM → Option (zM)) (hc8 : ∀ (x2 : Int32) (x3 : Int32) (x4 : Int32) (m : zM), zFr (p_X0_solve g1) m0 m → zFK (p_X0_solve g1) m0 (c8 x2 x3 x4 m) id) (x2 : Int32) (x3 : Int32) (x4 : Int32) (s1 : Int32) (s2 : Int32) (m : zM) (hm : zFr (p_X0_solve g1) m0 m) : zFK (p_X0_solve g1) m0 (f_X0_solve_35 g1 c8 x2 x3 x4 s1 s2 m) id := by
  unfold f_X0_solve_35
  refine zq_call (q_X7_put 20 57 s1 s2 m) (fun _ _ _ => (fun h => h)) (hm) (fun r1 gr1 => ?_)
  exact hc8 x2 x3 (x4 + (1 : Int32)) r1 (gr1)
theorem q_X0_solve_8 (g1 : Nat) (m0 : zM) : ∀ (j : Nat) (x2 : Int32) (x3 : Int32) (x4 : Int32) (m : zM), zFr (p_X0_solve g1) m0 m → zFK (p_X0_solve g1) m0 (f_X0_solve_8 g1 j x2 x3 x4 m) id := by
  intro j
  induction j with
  | zero =>
    intro _ _ _ _ _
    exact zq_none
  | succ j ih =>
    intro x2 x3 x4 m hm
    unfold f_X0_solve_8
    refine zq_if ?_ ?_
    · exact q_X0_solve_50 g1 m0 zF x2 x3 (1 : Int32) (0 : Int32) m (hm)
    · refine zq_bind (fun r2 => ?_)
      refine zq_if ?_ ?_
      · exact q_X0_solve_35 g1 m0 (f_X0_solve_8 g1 j) ih x2 x3 x4 x4 (1000000000 : Int32) m (hm)
      · exact q_X0_solve_35 g1 m0 (f_X0_solve_8 g1 j) ih x2 x3 x4 x4 (0 : Int32) m (hm)
theorem q_X0_solve (g1 : Nat) (x2 : Int32) (m : zM) : zFK (p_X0_solve g1) m (f_X0_solve g1 x2 m) id := by
  unfold f_X0_solve
  refine zq_bind (fun r1 => ?_)
  exact q_X0_solve_8 g1 m zF x2 r1 (0 : Int32) m (zFr.refl m)
abbrev p_X1_find (g1 : Nat) (k i j : Nat) : Prop := (k = 3 ∧ i = 0 ∧ j = 0) ∨ (k = 21 ∧ i = 1) ∨ (k = 31 ∧ i = 1) ∨ (k = 21 ∧ i = 0) ∨ (k = 21 ∧ i = 2) ∨ (k = 31 ∧ i = 0)
theorem q_X1_find_28 (g1 : Nat) (m0 : zM) (c12 : Int32 → Int32 → zM → Option (zM)) (hc12 : ∀ (x2 : Int32) (x3 : Int32) (m : zM), zFr (p_X1_find g1) m0 m → zFK (p_X1_find g1) m0 (c12 x2 x3 m) id) : ∀ (j : Nat) (x2 : Int32) (x3 : Int32) (x4 : Int64) (x6 : Int32) (m : zM), zFr (p_X1_find g1) m0 m → zFK (p_X1_find g1) m0 (f_X1_find_28 g1 c12 j x2 x3 x4 x6 m) id := by
  intro j
  induction j with
  | zero =>
    intro _ _ _ _ _ _
    exact zq_none
  | succ j ih =>
    intro x2 x3 x4 x6 m hm
    unfold f_X1_find_28
    refine zq_if ?_ ?_
    · exact hc12 x2 (x3 + (1 : Int32)) m (hm)
    · refine zq_if ?_ ?_
      · exact hc12 x2 (x3 + (1 : Int32)) m (hm)
      · refine zq_bind (fun r3 => ?_)
        refine zq_if ?_ ?_
        · exact ih x2 x3 x4 (x6 + (1 : Int32)) m (hm)
        · refine zq_bind (fun r5 => ?_)
          refine zq_call (q_X1_place r5 x3 m) (fun _ _ _ => (fun h => Or.elim h (fun h => (Or.inr (Or.inl h))) (fun h => Or.elim h (fun h => (Or.inr (Or.inr (Or.inl h)))) (fun h => Or.elim h (fun h => (Or.inr (Or.inr (Or.inr (Or.inl h))))) (fun h => Or.elim h (fun h => (Or.inr (Or.inr (Or.inr (Or.inr (Or.inl h)))))) (fun h => Or.elim h (fun h => (Or.inr (Or.inr (Or.inr (Or.inr (Or.inr h)))))) (fun h => (Or.inl h)))))))) (hm) (fun r6 gr6 => ?_)
          exact ih x2 x3 (x4 &&& (r5 ^^^ (-1 : Int64))) (x6 + (1 : Int32)) r6 (gr6)
theorem q_X1_find_12 (g1 : Nat) (m0 : zM) : ∀ (j : Nat) (x2 : Int32) (x3 : Int32) (m : zM), zFr (p_X1_find g1) m0 m → zFK (p_X1_find g1) m0 (f_X1_find_12 g1 j x2 x3 m) id := by
  intro j
  induction j with
  | zero =>
    intro _ _ _ _
    exact zq_none
  | succ j ih =>
    intro x2 x3 m hm
    unfold f_X1_find_12
    refine zq_if ?_ ?_
    · exact zq_some (hm)
    · refine zq_bind (fun r2 => ?_)
      exact q_X1_find_28 g1 m0 (f_X1_find_12 g1 j) ih zF x2 x3 r2 (0 : Int32) m (hm)
theorem q_X1_find (g1 : Nat) (m : zM) : zFK (p_X1_find g1) m (f_X1_find g1 m) id := by
  unfold f_X1_find
  refine zq_bind (fun r1 => ?_)
  exact q_X1_find_12 g1 m zF r1 (0 : Int32) (z_sI m 3 0 0 (0 : Int32)) (zFr.sI (zFr.refl m) _ (Or.inl ⟨rfl, rfl, rfl⟩))
abbrev p_X2_fill (g1 : Nat) (k i j : Nat) : Prop := (k = 20 ∧ i = 33) ∨ (k = 4 ∧ i = 0 ∧ j = 5) ∨ (k = 20 ∧ i = 34) ∨ (k = 20 ∧ i = 35) ∨ (k = 4 ∧ i = 0 ∧ j = 4) ∨ (k = 30 ∧ i = 0)
theorem q_X2_fill (g1 : Nat) (m : zM) : zFK (p_X2_fill g1) m (f_X2_fill g1 m) id := by
  unfold f_X2_fill
  refine zq_call (q_X2_findLevels g1 m) (fun _ _ _ => (fun h => (Or.inl h))) (zFr.refl m) (fun r1 gr1 => ?_)
  refine zq_call (q_X2_findDepths g1 r1) (fun _ _ _ => (fun h => Or.elim h (fun h => (Or.inr (Or.inl h))) (fun h => (Or.inr (Or.inr (Or.inl h)))))) (gr1) (fun r2 gr2 => ?_)
  refine zq_call (q_X2_findLakes g1 r2) (fun _ _ _ => (fun h => Or.elim h (fun h => (Or.inr (Or.inr (Or.inr (Or.inl h))))) (fun h => Or.elim h (fun h => (Or.inr (Or.inr (Or.inr (Or.inr (Or.inl h)))))) (fun h => (Or.inr (Or.inr (Or.inr (Or.inr (Or.inr h))))))))) (gr2) (fun r3 gr3 => ?_)
  exact zq_some (gr3)
abbrev p_X3_findFlat (g1 : Nat) (k i j : Nat) : Prop := (k = 5 ∧ i = 0 ∧ j = 1)
theorem q_X3_findFlat_37 (g1 : Nat) (m0 : zM) (c7 : Int32 → zM → Option (zM)) (hc7 : ∀ (x3 : Int32) (m : zM), zFr (p_X3_findFlat g1) m0 m → zFK (p_X3_findFlat g1) m0 (c7 x3 m) id) (x3 : Int32) (s0 : Int32) (m : zM) (hm : zFr (p_X3_findFlat g1) m0 m) : zFK (p_X3_findFlat g1) m0 (f_X3_findFlat_37 g1 c7 x3 s0 m) id := by
  unfold f_X3_findFlat_37
  refine zq_if ?_ ?_
  · refine zq_bind (fun r2 => ?_)
    refine zq_if ?_ ?_
    · exact hc7 (x3 + (1 : Int32)) (z_sL m 5 0 1 ((m.2.1 5 0 1) ||| (z_shl (1 : Int64) x3))) (zFr.sL (hm) _ ⟨rfl, rfl, rfl⟩)
    · exact hc7 (x3 + (1 : Int32)) m (hm)
  · exact hc7 (x3 + (1 : Int32)) m (hm)
theorem q_X3_findFlat_7 (g1 : Nat) (m0 : zM) : ∀ (j : Nat) (x3 : Int32) (m : zM), zFr (p_X3_findFlat g1) m0 m → zFK (p_X3_findFlat g1) m0 (f_X3_findFlat_7 g1 j x3 m) id := by
  intro j
  induction j with
  | zero =>
    intro _ _ _
    exact zq_none
  | succ j ih =>
    intro x3 m hm
    unfold f_X3_findFlat_7
    refine zq_if ?_ ?_
    · exact zq_some (hm)
    · refine zq_bind (fun r2 => ?_)
      refine zq_bind (fun r3 => ?_)
      refine zq_if ?_ ?_
      · exact q_X3_findFlat_37 g1 m0 (f_X3_findFlat_7 g1 j) ih x3 (0 : Int32) m (hm)
      · exact q_X3_findFlat_37 g1 m0 (f_X3_findFlat_7 g1 j) ih x3 (1 : Int32) m (hm)
theorem q_X3_findFlat (g1 : Nat) (m : zM) : zFK (p_X3_findFlat g1) m (f_X3_findFlat g1 m) id := by
  unfold f_X3_findFlat
  exact q_X3_findFlat_7 g1 m zF (0 : Int32) (z_sL m 5 0 1 (0 : Int64)) (zFr.sL (zFr.refl m) _ ⟨rfl, rfl, rfl⟩)
abbrev p_X3_findRanks (g1 : Nat) (k i j : Nat) : Prop := (k = 20 ∧ i = 36)
theorem q_X3_findRanks_61 (g1 : Nat) (m0 : zM) (c45 : Int32 → Int32 → zM → Option (zM)) (hc45 : ∀ (x3 : Int32) (x4 : Int32) (m : zM), zFr (p_X3_findRanks g1) m0 m → zFK (p_X3_findRanks g1) m0 (c45 x3 x4 m) id) : ∀ (j : Nat) (x3 : Int32) (x4 : Int32) (x5 : Int32) (m : zM), zFr (p_X3_findRanks g1) m0 m → zFK (p_X3_findRanks g1) m0 (f_X3_findRanks_61 g1 c45 j x3 x4 x5 m) id := by
  intro j
  induction j with
  | zero =>
    intro _ _ _ _ _
    exact zq_none
  | succ j ih =>
    intro x3 x4 x5 m hm
    unfold f_X3_findRanks_61
    refine zq_if ?_ ?_
    · exact hc45 x3 (x4 + (1 : Int32)) m (hm)
    · refine zq_bind (fun r2 => ?_)
      refine zq_if ?_ ?_
      · refine zq_bind (fun r4 => ?_)
        refine zq_if ?_ ?_
        · exact ih x3 x4 (x5 + (1 : Int32)) m (hm)
        · refine zq_call (q_X7_put 20 36 x5 x4 m) (fun _ _ _ => (fun h => h)) (hm) (fun r6 gr6 => ?_)
          exact ih (1 : Int32) x4 (x5 + (1 : Int32)) r6 (gr6)
      · exact ih x3 x4 (x5 + (1 : Int32)) m (hm)
theorem q_X3_findRanks_45 (g1 : Nat) (m0 : zM) : ∀ (j : Nat) (x3 : Int32) (x4 : Int32) (m : zM), zFr (p_X3_findRanks g1) m0 m → zFK (p_X3_findRanks g1) m0 (f_X3_findRanks_45 g1 j x3 x4 m) id := by
  intro j
  induction j with
  | zero =>
    intro _ _ _ _
    exact zq_none
  | succ j ih =>
    intro x3 x4 m hm
    unfold f_X3_findRanks_45
    refine zq_if ?_ ?_
    · exact zq_some (hm)
    · refine zq_if ?_ ?_
      · exact zq_some (hm)
      · exact q_X3_findRanks_61 g1 m0 (f_X3_findRanks_45 g1 j) ih zF (0 : Int32) x4 (0 : Int32) m (hm)
theorem q_X3_findRanks_31 (g1 : Nat) (m0 : zM) (c2 : Int32 → zM → Option (zM)) (hc2 : ∀ (x3 : Int32) (m : zM), zFr (p_X3_findRanks g1) m0 m → zFK (p_X3_findRanks g1) m0 (c2 x3 m) id) (x3 : Int32) (s1 : Int32) (s2 : Int32) (m : zM) (hm : zFr (p_X3_findRanks g1) m0 m) : zFK (p_X3_findRanks g1) m0 (f_X3_findRanks_31 g1 c2 x3 s1 s2 m) id := by
  unfold f_X3_findRanks_31
  refine zq_call (q_X7_put 20 36 s1 s2 m) (fun _ _ _ => (fun h => h)) (hm) (fun r1 gr1 => ?_)
  exact hc2 (x3 + (1 : Int32)) r1 (gr1)
theorem q_X3_findRanks_2 (g1 : Nat) (m0 : zM) : ∀ (j : Nat) (x3 : Int32) (m : zM), zFr (p_X3_findRanks g1) m0 m → zFK (p_X3_findRanks g1) m0 (f_X3_findRanks_2 g1 j x3 m) id := by
  intro j
  induction j with
  | zero =>
    intro _ _ _
    exact zq_none
  | succ j ih =>
    intro x3 m hm
    unfold f_X3_findRanks_2
    refine zq_if ?_ ?_
    · exact q_X3_findRanks_45 g1 m0 zF (1 : Int32) (1 : Int32) m (hm)
    · refine zq_bind (fun r2 => ?_)
      refine zq_if ?_ ?_
      · exact q_X3_findRanks_31 g1 m0 (f_X3_findRanks_2 g1 j) ih x3 x3 (0 : Int32) m (hm)
      · exact q_X3_findRanks_31 g1 m0 (f_X3_findRanks_2 g1 j) ih x3 x3 (-1 : Int32) m (hm)
theorem q_X3_findRanks (g1 : Nat) (m : zM) : zFK (p_X3_findRanks g1) m (f_X3_findRanks g1 m) id := by
  unfold f_X3_findRanks
  exact q_X3_findRanks_2 g1 m zF (0 : Int32) m (zFr.refl m)
abbrev p_X3_choose (g1 : Nat) (k i j : Nat) : Prop := (k = 20 ∧ i = 37) ∨ (k = 20 ∧ i = 38) ∨ (k = 20 ∧ i = 39)
theorem q_X3_choose_118 (g1 : Nat) (m0 : zM) (c47 : Int32 → Int32 → Int32 → zM → Option (zM)) (hc47 : ∀ (x3 : Int32) (x4 : Int32) (x5 : Int32) (m : zM), zFr (p_X3_choose g1) m0 m → zFK (p_X3_choose g1) m0 (c47 x3 x4 x5 m) id) (x3 : Int32) (x4 : Int32) (x5 : Int32) (x6 : Int32) (s0 : Int32) (m : zM) (hm : zFr (p_X3_choose g1) m0 m) : zFK (p_X3_choose g1) m0 (f_X3_choose_118 g1 c47 x3 x4 x5 x6 s0 m) id := by
  unfold f_X3_choose_118
  refine zq_if ?_ ?_
  · exact hc47 x3 x4 (x5 + (-1 : Int32)) m (hm)
  · refine zq_call (q_X7_put 20 37 x3 x5 m) (fun _ _ _ => (fun h => (Or.inl h))) (hm) (fun r2 gr2 => ?_)
    refine zq_call (q_X7_add 20 38 x3 (1 : Int32) r2) (fun _ _ _ => (fun h => (Or.inr (Or.inl h)))) (gr2) (fun r3 gr3 => ?_)
    refine zq_call (q_X7_put 20 39 x3 x6 r3) (fun _ _ _ => (fun h => (Or.inr (Or.inr h)))) (gr3) (fun r4 gr4 => ?_)
    exact hc47 x3 x4 (x5 + (-1 : Int32)) r4 (gr4)
theorem q_X3_choose_117 (g1 : Nat) (m0 : zM) (c47 : Int32 → Int32 → Int32 → zM → Option (zM)) (hc47 : ∀ (x3 : Int32) (x4 : Int32) (x5 : Int32) (m : zM), zFr (p_X3_choose g1) m0 m → zFK (p_X3_choose g1) m0 (c47 x3 x4 x5 m) id) (x3 : Int32) (x4 : Int32) (x5 : Int32) (x6 : Int32) (m : zM) (hm : zFr (p_X3_choose g1) m0 m) : zFK (p_X3_choose g1) m0 (f_X3_choose_117 g1 c47 x3 x4 x5 x6 m) id := by
  unfold f_X3_choose_117
  exact q_X3_choose_118 g1 m0 c47 hc47 x3 x4 x5 x6 (0 : Int32) m (hm)
theorem q_X3_choose_47 (g1 : Nat) (m0 : zM) : ∀ (j : Nat) (x3 : Int32) (x4 : Int32) (x5 : Int32) (m : zM), zFr (p_X3_choose g1) m0 m → zFK (p_X3_choose g1) m0 (f_X3_choose_47 g1 j x3 x4 x5 m) id := by
  intro j
  induction j with
  | zero =>
    intro _ _ _ _ _
    exact zq_none
  | succ j ih =>
    intro x3 x4 x5 m hm
    unfold f_X3_choose_47
    refine zq_if ?_ ?_
    · exact zq_some (hm)
    · refine zq_bind (fun r2 => ?_)
      refine zq_bind (fun r3 => ?_)
      refine zq_if ?_ ?_
      · refine zq_if ?_ ?_
        · exact q_X3_choose_117 g1 m0 (f_X3_choose_47 g1 j) ih x3 x4 x5 r2 m (hm)
        · refine zq_bind (fun r6 => ?_)
          refine zq_if ?_ ?_
          · exact q_X3_choose_118 g1 m0 (f_X3_choose_47 g1 j) ih x3 x4 x5 r2 (1 : Int32) m (hm)
          · exact q_X3_choose_117 g1 m0 (f_X3_choose_47 g1 j) ih x3 x4 x5 r2 m (hm)
      · refine zq_bind (fun r8 => ?_)
        refine zq_bind (fun r9 => ?_)
        exact q_X3_choose_118 g1 m0 (f_X3_choose_47 g1 j) ih x3 x4 x5 r2 (z_bi r9) m (hm)
theorem q_X3_choose (g1 : Nat) (x3 : Int32) (m : zM) : zFK (p_X3_choose g1) m (f_X3_choose g1 x3 m) id := by
  unfold f_X3_choose
  refine zq_call (q_X7_put 20 37 x3 (-1 : Int32) m) (fun _ _ _ => (fun h => (Or.inl h))) (zFr.refl m) (fun r1 gr1 => ?_)
  refine zq_call (q_X7_put 20 38 x3 (0 : Int32) r1) (fun _ _ _ => (fun h => (Or.inr (Or.inl h)))) (gr1) (fun r2 gr2 => ?_)
  refine zq_call (q_X7_put 20 39 x3 (-1 : Int32) r2) (fun _ _ _ => (fun h => (Or.inr (Or.inr h)))) (gr2) (fun r3 gr3 => ?_)
  refine zq_bind (fun r4 => ?_)
  refine zq_if ?_ ?_
  · refine zq_bind (fun r6 => ?_)
    exact q_X3_choose_47 g1 m zF x3 r6 (3 : Int32) r3 (gr3)
  · exact zq_some (gr3)
abbrev p_X8_find (g1 : Nat) (k i j : Nat) : Prop := (k = 9 ∧ i = 0 ∧ j = 0) ∨ (k = 20 ∧ i = 48) ∨ (k = 20 ∧ i = 49) ∨ (k = 20 ∧ i = 50) ∨ (k = 20 ∧ i = 51) ∨ (k = 20 ∧ i = 55) ∨ (k = 9 ∧ i = 0 ∧ j = 6) ∨ (k = 20 ∧ i = 52) ∨ (k = 20 ∧ i = 53) ∨ (k = 20 ∧ i = 54)
theorem q_X8_find (g1 : Nat) (m : zM) : zFK (p_X8_find g1) m (f_X8_find g1 m) id := by
  unfold f_X8_find
  refine zq_call (q_X8_findCells g1 m) (fun _ _ _ => (fun h => (Or.inl h))) (zFr.refl m) (fun r1 gr1 => ?_)
  refine zq_call (q_X8_findOrders r1) (fun _ _ _ => (fun h => Or.elim h (fun h => (Or.inr (Or.inl h))) (fun h => Or.elim h (fun h => (Or.inr (Or.inr (Or.inl h)))) (fun h => Or.elim h (fun h => (Or.inr (Or.inr (Or.inr (Or.inl h))))) (fun h => (Or.inr (Or.inr (Or.inr (Or.inr (Or.inl h)))))))))) (gr1) (fun r2 gr2 => ?_)
  refine zq_call (q_X8_beginReaches g1 r2) (fun _ _ _ => (fun h => Or.elim h (fun h => (Or.inr (Or.inr (Or.inr (Or.inr (Or.inr (Or.inl h))))))) (fun h => Or.elim h (fun h => (Or.inr (Or.inr (Or.inr (Or.inr (Or.inr (Or.inr (Or.inl h)))))))) (fun h => Or.elim h (fun h => (Or.inr (Or.inr (Or.inr (Or.inr (Or.inr (Or.inr (Or.inr (Or.inl h))))))))) (fun h => (Or.inr (Or.inr (Or.inr (Or.inr (Or.inr (Or.inr (Or.inr (Or.inr (Or.inl h)))))))))))))) (gr2) (fun r3 gr3 => ?_)
  refine zq_call (q_X8_followReaches r3) (fun _ _ _ => (fun h => Or.elim h (fun h => (Or.inr (Or.inr (Or.inr (Or.inr (Or.inr (Or.inr (Or.inr (Or.inr (Or.inr h)))))))))) (fun h => Or.elim h (fun h => (Or.inr (Or.inr (Or.inr (Or.inr (Or.inr (Or.inl h))))))) (fun h => (Or.inr (Or.inr (Or.inr (Or.inr (Or.inr (Or.inr (Or.inr (Or.inl h)))))))))))) (gr3) (fun r4 gr4 => ?_)
  exact zq_some (gr4)
abbrev p_X9_readValue (k i j : Nat) : Prop := (k = 10 ∧ i = 0 ∧ j = 3) ∨ (k = 10 ∧ i = 0 ∧ j = 6)
theorem q_X9_readValue_57 (m0 : zM) (s1 : Int32) (m : zM) (hm : zFr (p_X9_readValue) m0 m) : zFK (p_X9_readValue) m0 (f_X9_readValue_57 s1 m) (fun a => a.2) := by
  unfold f_X9_readValue_57
  exact zq_some (zFr.sI (hm) _ (Or.inr ⟨rfl, rfl, rfl⟩))
theorem q_X9_readValue (m : zM) : zFK (p_X9_readValue) m (f_X9_readValue m) (fun a => a.2) := by
  unfold f_X9_readValue
  refine zq_bind (fun r1 => ?_)
  refine zq_if ?_ ?_
  · refine zq_bind (fun r3 => ?_)
    refine zq_if ?_ ?_
    · exact zq_some (zFr.sI (zFr.refl m) _ (Or.inl ⟨rfl, rfl, rfl⟩))
    · refine zq_if ?_ ?_
      · refine zq_call (q_X9_readNumber (z_sI m 10 0 3 ((m.1 10 0 3) + (1 : Int32)))) (fun _ _ _ => (fun h => (Or.inl h))) (zFr.sI (zFr.refl m) _ (Or.inl ⟨rfl, rfl, rfl⟩)) (fun r6 gr6 => ?_)
        exact q_X9_readValue_57 m r6.1 r6.2 (gr6)
      · refine zq_call (q_X9_readDigit (z_sI m 10 0 3 ((m.1 10 0 3) + (1 : Int32)))) (fun _ _ _ => (fun h => (Or.inl h))) (zFr.sI (zFr.refl m) _ (Or.inl ⟨rfl, rfl, rfl⟩)) (fun r7 gr7 => ?_)
        exact q_X9_readValue_57 m r7.1 r7.2 (gr7)
  · exact zq_some (zFr.refl m)
abbrev p_X11_resize (k i j : Nat) : Prop := (k = 7 ∧ i = 0 ∧ j = 1) ∨ (k = 6 ∧ i < 11 ∧ j = 0) ∨ (k = 6 ∧ i < 11 ∧ j = 1) ∨ (k = 6 ∧ i < 11 ∧ j = 2) ∨ (k = 6 ∧ i < 11 ∧ j = 3) ∨ (k = 20 ∧ i < 33) ∨ (k = 7 ∧ i = 0 ∧ j = 2) ∨ (k = 6 ∧ i = 0 ∧ j = 0) ∨ (k = 6 ∧ i = 0 ∧ j = 1) ∨ (k = 6 ∧ i = 0 ∧ j = 3) ∨ (k = 20 ∧ i = 0) ∨ (k = 20 ∧ i = 1) ∨ (k = 20 ∧ i = 2)
theorem q_X11_resize (x1 : Int32) (x2 : Int32) (m : zM) : zFK (p_X11_resize) m (f_X11_resize x1 x2 m) (fun a => a.2) := by
  unfold f_X11_resize
  refine zq_callx (q_X11_requireRange x1 (2 : Int32) (8 : Int32) m) (fun _ _ _ h => h.elim) (zFr.refl m) (fun _ _ => rfl) (fun r1 m2 gm2 => ?_)
  refine zq_callx (q_X11_requireRange x2 (2 : Int32) (8 : Int32) m2) (fun _ _ _ h => h.elim) (gm2) (fun _ _ => rfl) (fun r3 m4 gm4 => ?_)
  refine zq_call (q_X5_remember 0 m4) (fun _ _ _ => (fun h => Or.elim h (fun h => (Or.inl h)) (fun h => Or.elim h (fun h => (Or.inr (Or.inl h))) (fun h => Or.elim h (fun h => (Or.inr (Or.inr (Or.inl h)))) (fun h => Or.elim h (fun h => (Or.inr (Or.inr (Or.inr (Or.inl h))))) (fun h => Or.elim h (fun h => (Or.inr (Or.inr (Or.inr (Or.inr (Or.inl h)))))) (fun h => Or.elim h (fun h => (Or.inr (Or.inr (Or.inr (Or.inr (Or.inr (Or.inl h))))))) (fun h => (Or.inr (Or.inr (Or.inr (Or.inr (Or.inr (Or.inr (Or.inl h))))))))))))))) (gm4) (fun r5 gr5 => ?_)
  refine zq_call (q_X4_startAfresh 0 x1 x2 r5) (fun _ _ _ => (fun h => Or.elim h (fun h => (Or.inr (Or.inr (Or.inr (Or.inr (Or.inr (Or.inr (Or.inr (Or.inl h))))))))) (fun h => Or.elim h (fun h => (Or.inr (Or.inr (Or.inr (Or.inr (Or.inr (Or.inr (Or.inr (Or.inr (Or.inl h)))))))))) (fun h => Or.elim h (fun h => (Or.inr (Or.inr (Or.inr (Or.inr (Or.inr (Or.inr (Or.inr (Or.inr (Or.inr (Or.inl h))))))))))) (fun h => Or.elim h (fun h => (Or.inr (Or.inr (Or.inr (Or.inr (Or.inr (Or.inr (Or.inr (Or.inr (Or.inr (Or.inr (Or.inl h)))))))))))) (fun h => Or.elim h (fun h => (Or.inr (Or.inr (Or.inr (Or.inr (Or.inr (Or.inr (Or.inr (Or.inr (Or.inr (Or.inr (Or.inr (Or.inl h))))))))))))) (fun h => (Or.inr (Or.inr (Or.inr (Or.inr (Or.inr (Or.inr (Or.inr (Or.inr (Or.inr (Or.inr (Or.inr (Or.inr h))))))))))))))))))) (gr5) (fun r6 gr6 => ?_)
  refine zq_bind (fun r7 => ?_)
  exact zq_some (gr6)
abbrev p_X11_scatter (k i j : Nat) : Prop := (k = 7 ∧ i = 0 ∧ j = 1) ∨ (k = 6 ∧ i < 11 ∧ j = 0) ∨ (k = 6 ∧ i < 11 ∧ j = 1) ∨ (k = 6 ∧ i < 11 ∧ j = 2) ∨ (k = 6 ∧ i < 11 ∧ j = 3) ∨ (k = 20 ∧ i < 33) ∨ (k = 7 ∧ i = 0 ∧ j = 2) ∨ (k = 20 ∧ i = 0)
theorem q_X11_scatter_46 (m0 : zM) : ∀ (j : Nat) (x2 : Int32) (x3 : Int32) (x4 : Int32) (x5 : Int32) (m : zM), zFr (p_X11_scatter) m0 m → zFK (p_X11_scatter) m0 (f_X11_scatter_46 j x2 x3 x4 x5 m) (fun a => a.2) := by
  intro j
  induction j with
  | zero =>
    intro _ _ _ _ _ _
    exact zq_none
  | succ j ih =>
    intro x2 x3 x4 x5 m hm
    unfold f_X11_scatter_46
    refine zq_if ?_ ?_
    · refine zq_bind (fun r2 => ?_)
      exact zq_some (hm)
    · refine zq_gd ?_
      refine zq_call (q_X7_put 20 0 x5 (z_irem (z_iushr ((x3 * (1103515245 : Int32)) + (12345 : Int32)) (16 : Int32)) x2) m) (fun _ _ _ => (fun h => (Or.inr (Or.inr (Or.inr (Or.inr (Or.inr (Or.inr (Or.inr h))))))))) (hm) (fun r4 gr4 => ?_)
      exact ih x2 ((x3 * (1103515245 : Int32)) + (12345 : Int32)) x4 (x5 + (1 : Int32)) r4 (gr4)
theorem q_X11_scatter (x1 : Int32) (x2 : Int32) (m : zM) : zFK (p_X11_scatter) m (f_X11_scatter x1 x2 m) (fun a => a.2) := by
  unfold f_X11_scatter
  refine zq_if ?_ ?_
  · exact zq_some (zFr.refl m)
  · refine zq_if ?_ ?_
    · refine zq_call (q_X5_remember 0 m) (fun _ _ _ => (fun h => Or.elim h (fun h => (Or.inl h)) (fun h => Or.elim h (fun h => (Or.inr (Or.inl h))) (fun h => Or.elim h (fun h => (Or.inr (Or.inr (Or.inl h)))) (fun h => Or.elim h (fun h => (Or.inr (Or.inr (Or.inr (Or.inl h))))) (fun h => Or.elim h (fun h => (Or.inr (Or.inr (Or.inr (Or.inr (Or.inl h)))))) (fun h => Or.elim h (fun h => (Or.inr (Or.inr (Or.inr (Or.inr (Or.inr (Or.inl h))))))) (fun h => (Or.inr (Or.inr (Or.inr (Or.inr (Or.inr (Or.inr (Or.inl h))))))))))))))) (zFr.refl m) (fun r3 gr3 => ?_)
      refine zq_bind (fun r4 => ?_)
      exact q_X11_scatter_46 m zF x2 x1 r4 (0 : Int32) r3 (gr3)
    · exact zq_some (zFr.refl m)
abbrev p_X11_setHeight (k i j : Nat) : Prop := (k = 7 ∧ i = 0 ∧ j = 1) ∨ (k = 6 ∧ i < 11 ∧ j = 0) ∨ (k = 6 ∧ i < 11 ∧ j = 1) ∨ (k = 6 ∧ i < 11 ∧ j = 2) ∨ (k = 6 ∧ i < 11 ∧ j = 3) ∨ (k = 20 ∧ i < 33) ∨ (k = 7 ∧ i = 0 ∧ j = 2) ∨ (k = 20 ∧ i = 0)
theorem q_X11_setHeight (x1 : Int32) (x2 : Int32) (m : zM) : zFK (p_X11_setHeight) m (f_X11_setHeight x1 x2 m) (fun a => a.2) := by
  unfold f_X11_setHeight
  refine zq_callx (q_X11_requireCell x1 m) (fun _ _ _ h => h.elim) (zFr.refl m) (fun _ _ => rfl) (fun r1 m2 gm2 => ?_)
  refine zq_callx (q_X11_requireRange x2 (0 : Int32) (99 : Int32) m2) (fun _ _ _ h => h.elim) (gm2) (fun _ _ => rfl) (fun r3 m4 gm4 => ?_)
  refine zq_call (q_X5_remember 0 m4) (fun _ _ _ => (fun h => Or.elim h (fun h => (Or.inl h)) (fun h => Or.elim h (fun h => (Or.inr (Or.inl h))) (fun h => Or.elim h (fun h => (Or.inr (Or.inr (Or.inl h)))) (fun h => Or.elim h (fun h => (Or.inr (Or.inr (Or.inr (Or.inl h))))) (fun h => Or.elim h (fun h => (Or.inr (Or.inr (Or.inr (Or.inr (Or.inl h)))))) (fun h => Or.elim h (fun h => (Or.inr (Or.inr (Or.inr (Or.inr (Or.inr (Or.inl h))))))) (fun h => (Or.inr (Or.inr (Or.inr (Or.inr (Or.inr (Or.inr (Or.inl h))))))))))))))) (gm4) (fun r5 gr5 => ?_)
  refine zq_bind (fun r6 => ?_)
  refine zq_call (q_X7_put 20 0 x1 x2 r5) (fun _ _ _ => (fun h => (Or.inr (Or.inr (Or.inr (Or.inr (Or.inr (Or.inr (Or.inr h))))))))) (gr5) (fun r7 gr7 => ?_)
  exact zq_some (gr7)
abbrev p_X11_raise (k i j : Nat) : Prop := (k = 7 ∧ i = 0 ∧ j = 1) ∨ (k = 6 ∧ i < 11 ∧ j = 0) ∨ (k = 6 ∧ i < 11 ∧ j = 1) ∨ (k = 6 ∧ i < 11 ∧ j = 2) ∨ (k = 6 ∧ i < 11 ∧ j = 3) ∨ (k = 20 ∧ i < 33) ∨ (k = 7 ∧ i = 0 ∧ j = 2) ∨ (k = 20 ∧ i = 0)
theorem q_X11_raise (x1 : Int32) (x2 : Int32) (x3 : Int32) (m : zM) : zFK (p_X11_raise) m (f_X11_raise x1 x2 x3 m) (fun a => a.2) := by
  unfold f_X11_raise
  refine zq_callx (q_X11_requireCell x1 m) (fun _ _ _ h => h.elim) (zFr.refl m) (fun _ _ => rfl) (fun r1 m2 gm2 => ?_)
  refine zq_callx (q_X11_requireCell x2 m2) (fun _ _ _ h => h.elim) (gm2) (fun _ _ => rfl) (fun r3 m4 gm4 => ?_)
  refine zq_callx (q_X11_requireRange x3 (-99 : Int32) (99 : Int32) m4) (fun _ _ _ h => h.elim) (gm4) (fun _ _ => rfl) (fun r5 m6 gm6 => ?_)
  refine zq_call (q_X5_remember 0 m6) (fun _ _ _ => (fun h => Or.elim h (fun h => (Or.inl h)) (fun h => Or.elim h (fun h => (Or.inr (Or.inl h))) (fun h => Or.elim h (fun h => (Or.inr (Or.inr (Or.inl h)))) (fun h => Or.elim h (fun h => (Or.inr (Or.inr (Or.inr (Or.inl h))))) (fun h => Or.elim h (fun h => (Or.inr (Or.inr (Or.inr (Or.inr (Or.inl h)))))) (fun h => Or.elim h (fun h => (Or.inr (Or.inr (Or.inr (Or.inr (Or.inr (Or.inl h))))))) (fun h => (Or.inr (Or.inr (Or.inr (Or.inr (Or.inr (Or.inr (Or.inl h))))))))))))))) (gm6) (fun r7 gr7 => ?_)
  refine zq_call (q_X4_raiseRectangle 0 x1 x2 x3 r7) (fun _ _ _ => (fun h => (Or.inr (Or.inr (Or.inr (Or.inr (Or.inr (Or.inr (Or.inr h))))))))) (gr7) (fun r8 gr8 => ?_)
  exact zq_some (gr8)
abbrev p_X11_setRain (k i j : Nat) : Prop := (k = 7 ∧ i = 0 ∧ j = 1) ∨ (k = 6 ∧ i < 11 ∧ j = 0) ∨ (k = 6 ∧ i < 11 ∧ j = 1) ∨ (k = 6 ∧ i < 11 ∧ j = 2) ∨ (k = 6 ∧ i < 11 ∧ j = 3) ∨ (k = 20 ∧ i < 33) ∨ (k = 7 ∧ i = 0 ∧ j = 2) ∨ (k = 20 ∧ i = 1)
theorem q_X11_setRain (x1 : Int32) (x2 : Int32) (m : zM) : zFK (p_X11_setRain) m (f_X11_setRain x1 x2 m) (fun a => a.2) := by
  unfold f_X11_setRain
  refine zq_callx (q_X11_requireCell x1 m) (fun _ _ _ h => h.elim) (zFr.refl m) (fun _ _ => rfl) (fun r1 m2 gm2 => ?_)
  refine zq_callx (q_X11_requireRange x2 (0 : Int32) (9 : Int32) m2) (fun _ _ _ h => h.elim) (gm2) (fun _ _ => rfl) (fun r3 m4 gm4 => ?_)
  refine zq_call (q_X5_remember 0 m4) (fun _ _ _ => (fun h => Or.elim h (fun h => (Or.inl h)) (fun h => Or.elim h (fun h => (Or.inr (Or.inl h))) (fun h => Or.elim h (fun h => (Or.inr (Or.inr (Or.inl h)))) (fun h => Or.elim h (fun h => (Or.inr (Or.inr (Or.inr (Or.inl h))))) (fun h => Or.elim h (fun h => (Or.inr (Or.inr (Or.inr (Or.inr (Or.inl h)))))) (fun h => Or.elim h (fun h => (Or.inr (Or.inr (Or.inr (Or.inr (Or.inr (Or.inl h))))))) (fun h => (Or.inr (Or.inr (Or.inr (Or.inr (Or.inr (Or.inr (Or.inl h))))))))))))))) (gm4) (fun r5 gr5 => ?_)
  refine zq_bind (fun r6 => ?_)
  refine zq_call (q_X7_put 20 1 x1 x2 r5) (fun _ _ _ => (fun h => (Or.inr (Or.inr (Or.inr (Or.inr (Or.inr (Or.inr (Or.inr h))))))))) (gr5) (fun r7 gr7 => ?_)
  exact zq_some (gr7)
abbrev p_X11_setSoak (k i j : Nat) : Prop := (k = 7 ∧ i = 0 ∧ j = 1) ∨ (k = 6 ∧ i < 11 ∧ j = 0) ∨ (k = 6 ∧ i < 11 ∧ j = 1) ∨ (k = 6 ∧ i < 11 ∧ j = 2) ∨ (k = 6 ∧ i < 11 ∧ j = 3) ∨ (k = 20 ∧ i < 33) ∨ (k = 7 ∧ i = 0 ∧ j = 2) ∨ (k = 20 ∧ i = 2)
theorem q_X11_setSoak (x1 : Int32) (x2 : Int32) (m : zM) : zFK (p_X11_setSoak) m (f_X11_setSoak x1 x2 m) (fun a => a.2) := by
  unfold f_X11_setSoak
  refine zq_callx (q_X11_requireCell x1 m) (fun _ _ _ h => h.elim) (zFr.refl m) (fun _ _ => rfl) (fun r1 m2 gm2 => ?_)
  refine zq_callx (q_X11_requireRange x2 (0 : Int32) (9 : Int32) m2) (fun _ _ _ h => h.elim) (gm2) (fun _ _ => rfl) (fun r3 m4 gm4 => ?_)
  refine zq_call (q_X5_remember 0 m4) (fun _ _ _ => (fun h => Or.elim h (fun h => (Or.inl h)) (fun h => Or.elim h (fun h => (Or.inr (Or.inl h))) (fun h => Or.elim h (fun h => (Or.inr (Or.inr (Or.inl h)))) (fun h => Or.elim h (fun h => (Or.inr (Or.inr (Or.inr (Or.inl h))))) (fun h => Or.elim h (fun h => (Or.inr (Or.inr (Or.inr (Or.inr (Or.inl h)))))) (fun h => Or.elim h (fun h => (Or.inr (Or.inr (Or.inr (Or.inr (Or.inr (Or.inl h))))))) (fun h => (Or.inr (Or.inr (Or.inr (Or.inr (Or.inr (Or.inr (Or.inl h))))))))))))))) (gm4) (fun r5 gr5 => ?_)
  refine zq_bind (fun r6 => ?_)
  refine zq_call (q_X7_put 20 2 x1 x2 r5) (fun _ _ _ => (fun h => (Or.inr (Or.inr (Or.inr (Or.inr (Or.inr (Or.inr (Or.inr h))))))))) (gr5) (fun r7 gr7 => ?_)
  exact zq_some (gr7)
abbrev p_X11_setOutlet (k i j : Nat) : Prop := (k = 7 ∧ i = 0 ∧ j = 1) ∨ (k = 6 ∧ i < 11 ∧ j = 0) ∨ (k = 6 ∧ i < 11 ∧ j = 1) ∨ (k = 6 ∧ i < 11 ∧ j = 2) ∨ (k = 6 ∧ i < 11 ∧ j = 3) ∨ (k = 20 ∧ i < 33) ∨ (k = 7 ∧ i = 0 ∧ j = 2) ∨ (k = 6 ∧ i = 0 ∧ j = 3)
theorem q_X11_setOutlet_30 (m0 : zM) (x1 : Int32) (x2 : Int32) (m : zM) (hm : zFr (p_X11_setOutlet) m0 m) : zFK (p_X11_setOutlet) m0 (f_X11_setOutlet_30 x1 x2 m) (fun a => a.2) := by
  unfold f_X11_setOutlet_30
  refine zq_call (q_X5_remember 0 m) (fun _ _ _ => (fun h => Or.elim h (fun h => (Or.inl h)) (fun h => Or.elim h (fun h => (Or.inr (Or.inl h))) (fun h => Or.elim h (fun h => (Or.inr (Or.inr (Or.inl h)))) (fun h => Or.elim h (fun h => (Or.inr (Or.inr (Or.inr (Or.inl h))))) (fun h => Or.elim h (fun h => (Or.inr (Or.inr (Or.inr (Or.inr (Or.inl h)))))) (fun h => Or.elim h (fun h => (Or.inr (Or.inr (Or.inr (Or.inr (Or.inr (Or.inl h))))))) (fun h => (Or.inr (Or.inr (Or.inr (Or.inr (Or.inr (Or.inr (Or.inl h))))))))))))))) (hm) (fun r1 gr1 => ?_)
  refine zq_bind (fun r2 => ?_)
  refine zq_call (q_X4_markOutlet 0 x1 x2 r1) (fun _ _ _ => (fun h => (Or.inr (Or.inr (Or.inr (Or.inr (Or.inr (Or.inr (Or.inr h))))))))) (gr1) (fun r3 gr3 => ?_)
  exact zq_some (gr3)
theorem q_X11_setOutlet (x1 : Int32) (x2 : Int32) (m : zM) : zFK (p_X11_setOutlet) m (f_X11_setOutlet x1 x2 m) (fun a => a.2) := by
  unfold f_X11_setOutlet
  refine zq_callx (q_X11_requireCell x1 m) (fun _ _ _ h => h.elim) (zFr.refl m) (fun _ _ => rfl) (fun r1 m2 gm2 => ?_)
  refine zq_if ?_ ?_
  · refine zq_bind (fun r4 => ?_)
    refine zq_if ?_ ?_
    · exact q_X11_setOutlet_30 m x1 x2 m2 (gm2)
    · exact zq_some (gm2)
  · exact q_X11_setOutlet_30 m x1 x2 m2 (gm2)
abbrev p_X11_setThreshold (k i j : Nat) : Prop := (k = 7 ∧ i = 0 ∧ j = 1) ∨ (k = 6 ∧ i < 11 ∧ j = 0) ∨ (k = 6 ∧ i < 11 ∧ j = 1) ∨ (k = 6 ∧ i < 11 ∧ j = 2) ∨ (k = 6 ∧ i < 11 ∧ j = 3) ∨ (k = 20 ∧ i < 33) ∨ (k = 7 ∧ i = 0 ∧ j = 2) ∨ (k = 6 ∧ i = 0 ∧ j = 2)
theorem q_X11_setThreshold (x1 : Int32) (m : zM) : zFK (p_X11_setThreshold) m (f_X11_setThreshold x1 m) (fun a => a.2) := by
  unfold f_X11_setThreshold
  refine zq_callx (q_X11_requireRange x1 (1 : Int32) (99 : Int32) m) (fun _ _ _ h => h.elim) (zFr.refl m) (fun _ _ => rfl) (fun r1 m2 gm2 => ?_)
  refine zq_call (q_X5_remember 0 m2) (fun _ _ _ => (fun h => Or.elim h (fun h => (Or.inl h)) (fun h => Or.elim h (fun h => (Or.inr (Or.inl h))) (fun h => Or.elim h (fun h => (Or.inr (Or.inr (Or.inl h)))) (fun h => Or.elim h (fun h => (Or.inr (Or.inr (Or.inr (Or.inl h))))) (fun h => Or.elim h (fun h => (Or.inr (Or.inr (Or.inr (Or.inr (Or.inl h)))))) (fun h => Or.elim h (fun h => (Or.inr (Or.inr (Or.inr (Or.inr (Or.inr (Or.inl h))))))) (fun h => (Or.inr (Or.inr (Or.inr (Or.inr (Or.inr (Or.inr (Or.inl h))))))))))))))) (gm2) (fun r3 gr3 => ?_)
  exact zq_some (zFr.sI (gr3) _ (Or.inr (Or.inr (Or.inr (Or.inr (Or.inr (Or.inr (Or.inr ⟨rfl, rfl, rfl⟩))))))))
abbrev p_X11_pools (k i j : Nat) : Prop := False
theorem q_X11_pools (x1 : Int32) (m : zM) : zFK (p_X11_pools) m (f_X11_pools x1 m) (fun a => a.2) := by
  unfold f_X11_pools
  refine zq_callx (q_X11_requireRange x1 (0 : Int32) (99 : Int32) m) (fun _ _ _ h => h.elim) (zFr.refl m) (fun _ _ => rfl) (fun r1 m2 gm2 => ?_)
  refine zq_bind (fun r3 => ?_)
  exact zq_some (gm2)
abbrev p_X11_contour (k i j : Nat) : Prop := False
theorem q_X11_contour (x1 : Int32) (x2 : Int32) (m : zM) : zFK (p_X11_contour) m (f_X11_contour x1 x2 m) (fun a => a.2) := by
  unfold f_X11_contour
  refine zq_callx (q_X11_requireRange x1 (1 : Int32) (99 : Int32) m) (fun _ _ _ h => h.elim) (zFr.refl m) (fun _ _ => rfl) (fun r1 m2 gm2 => ?_)
  refine zq_callx (q_X11_requireRange x2 (0 : Int32) (3 : Int32) m2) (fun _ _ _ h => h.elim) (gm2) (fun _ _ => rfl) (fun r3 m4 gm4 => ?_)
  refine zq_bind (fun r5 => ?_)
  refine zq_bind (fun r6 => ?_)
  refine zq_if ?_ ?_
  · refine zq_bind (fun r7 => ?_)
    exact zq_some (gm4)
  refine zq_if ?_ ?_
  · refine zq_bind (fun r8 => ?_)
    exact zq_some (gm4)
  refine zq_if ?_ ?_
  · refine zq_bind (fun r9 => ?_)
    exact zq_some (gm4)
  · refine zq_bind (fun r10 => ?_)
    refine zq_bind (fun r11 => ?_)
    exact zq_some (gm4)
abbrev p_X11_sectionCell (k i j : Nat) : Prop := (k = 8 ∧ i = 0 ∧ j = 1) ∨ (k = 22 ∧ i = 0)
theorem q_X11_sectionCell (x1 : Int32) (x2 : Int32) (x3 : Int32) (m : zM) : zFK (p_X11_sectionCell) m (f_X11_sectionCell x1 x2 x3 m) (fun a => a.2) := by
  unfold f_X11_sectionCell
  refine zq_callx (q_X11_requireCell x1 m) (fun _ _ _ h => h.elim) (zFr.refl m) (fun _ _ => rfl) (fun r1 m2 gm2 => ?_)
  refine zq_callx (q_X11_requireCell x2 m2) (fun _ _ _ h => h.elim) (gm2) (fun _ _ => rfl) (fun r3 m4 gm4 => ?_)
  refine zq_call (q_X6_draw 0 x1 x2 m4) (fun _ _ _ => (fun h => Or.elim h (fun h => (Or.inl h)) (fun h => (Or.inr h)))) (gm4) (fun r5 gr5 => ?_)
  refine zq_if ?_ ?_
  · exact zq_some (gr5)
  · refine zq_if ?_ ?_
    · refine zq_bind (fun r8 => ?_)
      exact zq_some (gr5)
    · exact zq_some (gr5)
abbrev p_X11_sees (k i j : Nat) : Prop := (k = 8 ∧ i = 0 ∧ j = 1) ∨ (k = 22 ∧ i = 0)
theorem q_X11_sees (x1 : Int32) (x2 : Int32) (x3 : Int32) (m : zM) : zFK (p_X11_sees) m (f_X11_sees x1 x2 x3 m) (fun a => a.2) := by
  unfold f_X11_sees
  refine zq_callx (q_X11_requireCell x1 m) (fun _ _ _ h => h.elim) (zFr.refl m) (fun _ _ => rfl) (fun r1 m2 gm2 => ?_)
  refine zq_callx (q_X11_requireCell x2 m2) (fun _ _ _ h => h.elim) (gm2) (fun _ _ => rfl) (fun r3 m4 gm4 => ?_)
  refine zq_callx (q_X11_requireRange x3 (0 : Int32) (99 : Int32) m4) (fun _ _ _ h => h.elim) (gm4) (fun _ _ => rfl) (fun r5 m6 gm6 => ?_)
  refine zq_call (q_X6_draw 0 x1 x2 m6) (fun _ _ _ => (fun h => Or.elim h (fun h => (Or.inl h)) (fun h => (Or.inr h)))) (gm6) (fun r7 gr7 => ?_)
  refine zq_bind (fun r8 => ?_)
  exact zq_some (gr7)
abbrev p_X11_viewshed (k i j : Nat) : Prop := (k = 8 ∧ i = 0 ∧ j = 1) ∨ (k = 22 ∧ i = 0)
theorem q_X11_viewshed_26 (m0 : zM) : ∀ (j : Nat) (x1 : Int32) (x2 : Int32) (x3 : Int64) (x5 : Int32) (x6 : Int32) (m : zM), zFr (p_X11_viewshed) m0 m → zFK (p_X11_viewshed) m0 (f_X11_viewshed_26 j x1 x2 x3 x5 x6 m) (fun a => a.2) := by
  intro j
  induction j with
  | zero =>
    intro _ _ _ _ _ _ _
    exact zq_none
  | succ j ih =>
    intro x1 x2 x3 x5 x6 m hm
    unfold f_X11_viewshed_26
    refine zq_if ?_ ?_
    · exact zq_some (hm)
    · refine zq_call (q_X6_draw 0 x1 x6 m) (fun _ _ _ => (fun h => Or.elim h (fun h => (Or.inl h)) (fun h => (Or.inr h)))) (hm) (fun r2 gr2 => ?_)
      refine zq_bind (fun r3 => ?_)
      refine zq_if ?_ ?_
      · exact ih x1 x2 x3 x5 (x6 + (1 : Int32)) r2 (gr2)
      · exact ih x1 x2 (x3 ||| (z_shl (1 : Int64) x6)) x5 (x6 + (1 : Int32)) r2 (gr2)
theorem q_X11_viewshed (x1 : Int32) (x2 : Int32) (m : zM) : zFK (p_X11_viewshed) m (f_X11_viewshed x1 x2 m) (fun a => a.2) := by
  unfold f_X11_viewshed
  refine zq_callx (q_X11_requireCell x1 m) (fun _ _ _ h => h.elim) (zFr.refl m) (fun _ _ => rfl) (fun r1 m2 gm2 => ?_)
  refine zq_callx (q_X11_requireRange x2 (0 : Int32) (99 : Int32) m2) (fun _ _ _ h => h.elim) (gm2) (fun _ _ => rfl) (fun r3 m4 gm4 => ?_)
  refine zq_bind (fun r5 => ?_)
  exact q_X11_viewshed_26 m zF x1 x2 (0 : Int64) r5 (0 : Int32) m4 (gm4)
abbrev p_X11_undo (k i j : Nat) : Prop := (k = 6 ∧ i = 0 ∧ j = 0) ∨ (k = 6 ∧ i = 0 ∧ j = 1) ∨ (k = 6 ∧ i = 0 ∧ j = 2) ∨ (k = 6 ∧ i = 0 ∧ j = 3) ∨ (k = 20 ∧ i = 0) ∨ (k = 20 ∧ i = 1) ∨ (k = 20 ∧ i = 2) ∨ (k = 7 ∧ i = 0 ∧ j = 1) ∨ (k = 7 ∧ i = 0 ∧ j = 2)
theorem q_X11_undo (m : zM) : zFK (p_X11_undo) m (f_X11_undo m) (fun a => a.2) := by
  unfold f_X11_undo
  refine zq_if ?_ ?_
  · exact zq_some (zFr.refl m)
  · refine zq_call (q_X5_takeBack 0 m) (fun _ _ _ => (fun h => Or.elim h (fun h => (Or.inl h)) (fun h => Or.elim h (fun h => (Or.inr (Or.inl h))) (fun h => Or.elim h (fun h => (Or.inr (Or.inr (Or.inl h)))) (fun h => Or.elim h (fun h => (Or.inr (Or.inr (Or.inr (Or.inl h))))) (fun h => Or.elim h (fun h => (Or.inr (Or.inr (Or.inr (Or.inr (Or.inl h)))))) (fun h => Or.elim h (fun h => (Or.inr (Or.inr (Or.inr (Or.inr (Or.inr (Or.inl h))))))) (fun h => Or.elim h (fun h => (Or.inr (Or.inr (Or.inr (Or.inr (Or.inr (Or.inr (Or.inl h)))))))) (fun h => Or.elim h (fun h => (Or.inr (Or.inr (Or.inr (Or.inr (Or.inr (Or.inr (Or.inr (Or.inl h))))))))) (fun h => (Or.inr (Or.inr (Or.inr (Or.inr (Or.inr (Or.inr (Or.inr (Or.inr h)))))))))))))))))) (zFr.refl m) (fun r2 gr2 => ?_)
    exact zq_some (gr2)
abbrev p_X11_restore (k i j : Nat) : Prop := (k = 7 ∧ i = 0 ∧ j = 1) ∨ (k = 6 ∧ i < 11 ∧ j = 0) ∨ (k = 6 ∧ i < 11 ∧ j = 1) ∨ (k = 6 ∧ i < 11 ∧ j = 2) ∨ (k = 6 ∧ i < 11 ∧ j = 3) ∨ (k = 20 ∧ i < 33) ∨ (k = 7 ∧ i = 0 ∧ j = 2) ∨ (k = 6 ∧ i = 0 ∧ j = 0) ∨ (k = 6 ∧ i = 0 ∧ j = 1) ∨ (k = 6 ∧ i = 0 ∧ j = 2) ∨ (k = 6 ∧ i = 0 ∧ j = 3) ∨ (k = 20 ∧ i = 0) ∨ (k = 20 ∧ i = 1) ∨ (k = 20 ∧ i = 2)
theorem q_X11_restore (m : zM) : zFK (p_X11_restore) m (f_X11_restore m) (fun a => a.2) := by
  unfold f_X11_restore
  refine zq_if ?_ ?_
  · exact zq_some (zFr.refl m)
  · refine zq_call (q_X5_remember 0 m) (fun _ _ _ => (fun h => Or.elim h (fun h => (Or.inl h)) (fun h => Or.elim h (fun h => (Or.inr (Or.inl h))) (fun h => Or.elim h (fun h => (Or.inr (Or.inr (Or.inl h)))) (fun h => Or.elim h (fun h => (Or.inr (Or.inr (Or.inr (Or.inl h))))) (fun h => Or.elim h (fun h => (Or.inr (Or.inr (Or.inr (Or.inr (Or.inl h)))))) (fun h => Or.elim h (fun h => (Or.inr (Or.inr (Or.inr (Or.inr (Or.inr (Or.inl h))))))) (fun h => (Or.inr (Or.inr (Or.inr (Or.inr (Or.inr (Or.inr (Or.inl h))))))))))))))) (zFr.refl m) (fun r2 gr2 => ?_)
    refine zq_call (q_X4_copyFrom 0 2 r2) (fun _ _ _ => (fun h => Or.elim h (fun h => (Or.inr (Or.inr (Or.inr (Or.inr (Or.inr (Or.inr (Or.inr (Or.inl h))))))))) (fun h => Or.elim h (fun h => (Or.inr (Or.inr (Or.inr (Or.inr (Or.inr (Or.inr (Or.inr (Or.inr (Or.inl h)))))))))) (fun h => Or.elim h (fun h => (Or.inr (Or.inr (Or.inr (Or.inr (Or.inr (Or.inr (Or.inr (Or.inr (Or.inr (Or.inl h))))))))))) (fun h => Or.elim h (fun h => (Or.inr (Or.inr (Or.inr (Or.inr (Or.inr (Or.inr (Or.inr (Or.inr (Or.inr (Or.inr (Or.inl h)))))))))))) (fun h => Or.elim h (fun h => (Or.inr (Or.inr (Or.inr (Or.inr (Or.inr (Or.inr (Or.inr (Or.inr (Or.inr (Or.inr (Or.inr (Or.inl h))))))))))))) (fun h => Or.elim h (fun h => (Or.inr (Or.inr (Or.inr (Or.inr (Or.inr (Or.inr (Or.inr (Or.inr (Or.inr (Or.inr (Or.inr (Or.inr (Or.inl h)))))))))))))) (fun h => (Or.inr (Or.inr (Or.inr (Or.inr (Or.inr (Or.inr (Or.inr (Or.inr (Or.inr (Or.inr (Or.inr (Or.inr (Or.inr h))))))))))))))))))))) (gr2) (fun r3 gr3 => ?_)
    refine zq_bind (fun r4 => ?_)
    exact zq_some (gr3)
abbrev p_X12_setHeight (k i j : Nat) : Prop := (k = 13 ∧ i = 0 ∧ j = 0) ∨ (k = 13 ∧ i = 0 ∧ j = 3) ∨ (k = 24 ∧ i = 0) ∨ (k = 23 ∧ i = 0)
theorem q_X12_setHeight (x1 : Int32) (x2 : Int32) (m : zM) : zFK (p_X12_setHeight) m (f_X12_setHeight x1 x2 m) (fun a => a.2) := by
  unfold f_X12_setHeight
  refine zq_call (q_X12_sets (3 : Int32) x1 x2 (99 : Int32) m) (fun _ _ _ => (fun h => Or.elim h (fun h => (Or.inl h)) (fun h => Or.elim h (fun h => (Or.inr (Or.inl h))) (fun h => Or.elim h (fun h => (Or.inr (Or.inr (Or.inl h)))) (fun h => (Or.inr (Or.inr (Or.inr h)))))))) (zFr.refl m) (fun r1 gr1 => ?_)
  exact zq_some (gr1)
abbrev p_X12_setRain (k i j : Nat) : Prop := (k = 13 ∧ i = 0 ∧ j = 0) ∨ (k = 13 ∧ i = 0 ∧ j = 3) ∨ (k = 24 ∧ i = 0) ∨ (k = 23 ∧ i = 0)
theorem q_X12_setRain (x1 : Int32) (x2 : Int32) (m : zM) : zFK (p_X12_setRain) m (f_X12_setRain x1 x2 m) (fun a => a.2) := by
  unfold f_X12_setRain
  refine zq_call (q_X12_sets (67 : Int32) x1 x2 (9 : Int32) m) (fun _ _ _ => (fun h => Or.elim h (fun h => (Or.inl h)) (fun h => Or.elim h (fun h => (Or.inr (Or.inl h))) (fun h => Or.elim h (fun h => (Or.inr (Or.inr (Or.inl h)))) (fun h => (Or.inr (Or.inr (Or.inr h)))))))) (zFr.refl m) (fun r1 gr1 => ?_)
  exact zq_some (gr1)
abbrev p_X12_setSoak (k i j : Nat) : Prop := (k = 13 ∧ i = 0 ∧ j = 0) ∨ (k = 13 ∧ i = 0 ∧ j = 3) ∨ (k = 24 ∧ i = 0) ∨ (k = 23 ∧ i = 0)
theorem q_X12_setSoak (x1 : Int32) (x2 : Int32) (m : zM) : zFK (p_X12_setSoak) m (f_X12_setSoak x1 x2 m) (fun a => a.2) := by
  unfold f_X12_setSoak
  refine zq_call (q_X12_sets (131 : Int32) x1 x2 (9 : Int32) m) (fun _ _ _ => (fun h => Or.elim h (fun h => (Or.inl h)) (fun h => Or.elim h (fun h => (Or.inr (Or.inl h))) (fun h => Or.elim h (fun h => (Or.inr (Or.inr (Or.inl h)))) (fun h => (Or.inr (Or.inr (Or.inr h)))))))) (zFr.refl m) (fun r1 gr1 => ?_)
  exact zq_some (gr1)
abbrev p_X12_waters (k i j : Nat) : Prop := (k = 20 ∧ i = 59) ∨ (k = 20 ∧ i = 61) ∨ (k = 20 ∧ i = 62) ∨ (k = 20 ∧ i = 60) ∨ (k = 20 ∧ i = 63)
theorem q_X12_waters_37 (m0 : zM) (c29 : Int32 → zM → Option (zM)) (hc29 : ∀ (x1 : Int32) (m : zM), zFr (p_X12_waters) m0 m → zFK (p_X12_waters) m0 (c29 x1 m) id) : ∀ (j : Nat) (x1 : Int32) (x2 : Int32) (m : zM), zFr (p_X12_waters) m0 m → zFK (p_X12_waters) m0 (f_X12_waters_37 c29 j x1 x2 m) id := by
  intro j
  induction j with
  | zero =>
    intro _ _ _ _
    exact zq_none
  | succ j ih =>
    intro x1 x2 m hm
    unfold f_X12_waters_37
    refine zq_bind (fun r1 => ?_)
    refine zq_if ?_ ?_
    · exact hc29 x1 m (hm)
    · refine zq_bind (fun r3 => ?_)
      refine zq_gd ?_
      refine zq_gd ?_
      refine zq_if ?_ ?_
      · exact ih x1 (x2 + (1 : Int32)) m (hm)
      · refine zq_gd ?_
        exact ih (1 : Int32) (x2 + (1 : Int32)) (z_sI m 20 63 (Int32.toNatClampNeg x2) (r3 + (m.1 23 0 (Int32.toNatClampNeg ((67 : Int32) + x2))))) (zFr.sI (hm) _ (Or.inr (Or.inr (Or.inr (Or.inr ⟨rfl, rfl⟩)))))
theorem q_X12_waters_29 (m0 : zM) : ∀ (j : Nat) (x1 : Int32) (m : zM), zFr (p_X12_waters) m0 m → zFK (p_X12_waters) m0 (f_X12_waters_29 j x1 m) id := by
  intro j
  induction j with
  | zero =>
    intro _ _ _
    exact zq_none
  | succ j ih =>
    intro x1 m hm
    unfold f_X12_waters_29
    refine zq_if ?_ ?_
    · exact zq_some (hm)
    · exact q_X12_waters_37 m0 (f_X12_waters_29 j) ih zF (0 : Int32) (0 : Int32) m (hm)
theorem q_X12_waters_6 (m0 : zM) : ∀ (j : Nat) (x1 : Int32) (m : zM), zFr (p_X12_waters) m0 m → zFK (p_X12_waters) m0 (f_X12_waters_6 j x1 m) id := by
  intro j
  induction j with
  | zero =>
    intro _ _ _
    exact zq_none
  | succ j ih =>
    intro x1 m hm
    unfold f_X12_waters_6
    refine zq_bind (fun r1 => ?_)
    refine zq_if ?_ ?_
    · exact q_X12_waters_29 m0 zF (1 : Int32) m (hm)
    · refine zq_gd ?_
      exact ih (x1 + (1 : Int32)) (z_sI m 20 63 (Int32.toNatClampNeg x1) (0 : Int32)) (zFr.sI (hm) _ (Or.inr (Or.inr (Or.inr (Or.inr ⟨rfl, rfl⟩)))))
theorem q_X12_waters (m : zM) : zFK (p_X12_waters) m (f_X12_waters m) id := by
  unfold f_X12_waters
  refine zq_call (q_X12_looks m) (fun _ _ _ => (fun h => Or.elim h (fun h => (Or.inl h)) (fun h => Or.elim h (fun h => (Or.inr (Or.inl h))) (fun h => Or.elim h (fun h => (Or.inr (Or.inr (Or.inl h)))) (fun h => (Or.inr (Or.inr (Or.inr (Or.inl h))))))))) (zFr.refl m) (fun r1 gr1 => ?_)
  exact q_X12_waters_6 m zF (0 : Int32) r1 (gr1)
abbrev p_X12_lakes (k i j : Nat) : Prop := (k = 20 ∧ i = 59) ∨ (k = 20 ∧ i = 61) ∨ (k = 20 ∧ i = 62) ∨ (k = 20 ∧ i = 60) ∨ (k = 13 ∧ i = 0 ∧ j = 18) ∨ (k = 20 ∧ i = 66) ∨ (k = 20 ∧ i = 65)
theorem q_X12_lakes_101 (m0 : zM) (c34 : Int32 → zM → Option (zM)) (c84 : Int32 → Int32 → zM → Option (zM)) (hc34 : ∀ (x1 : Int32) (m : zM), zFr (p_X12_lakes) m0 m → zFK (p_X12_lakes) m0 (c34 x1 m) id) (hc84 : ∀ (x1 : Int32) (x2 : Int32) (m : zM), zFr (p_X12_lakes) m0 m → zFK (p_X12_lakes) m0 (c84 x1 x2 m) id) : ∀ (j : Nat) (x1 : Int32) (x2 : Int32) (x3 : Int32) (x4 : Int32) (m : zM), zFr (p_X12_lakes) m0 m → zFK (p_X12_lakes) m0 (f_X12_lakes_101 c34 c84 j x1 x2 x3 x4 m) id := by
  intro j
  induction j with
  | zero =>
    intro _ _ _ _ _ _
    exact zq_none
  | succ j ih =>
    intro x1 x2 x3 x4 m hm
    unfold f_X12_lakes_101
    refine zq_if ?_ ?_
    · exact hc84 x1 x2 m (hm)
    · refine zq_bind (fun r2 => ?_)
      refine zq_if ?_ ?_
      · exact ih x1 x2 x3 (x4 + (1 : Int32)) m (hm)
      · refine zq_gd ?_
        refine zq_if ?_ ?_
        · exact ih x1 x2 x3 (x4 + (1 : Int32)) m (hm)
        · refine zq_bind (fun r6 => ?_)
          refine zq_if ?_ ?_
          · exact ih x1 x2 x3 (x4 + (1 : Int32)) m (hm)
          · refine zq_gd ?_
            refine zq_gd ?_
            refine zq_if ?_ ?_
            · refine zq_gd ?_
              refine zq_gd ?_
              exact ih x1 (x2 + (1 : Int32)) x3 (x4 + (1 : Int32)) (z_sI (z_sI m 20 65 (Int32.toNatClampNeg r2) (m.1 13 0 18)) 20 66 (Int32.toNatClampNeg x2) r2) (zFr.sI (zFr.sI (hm) _ (Or.inr (Or.inr (Or.inr (Or.inr (Or.inr (Or.inr ⟨rfl, rfl⟩))))))) _ (Or.inr (Or.inr (Or.inr (Or.inr (Or.inr (Or.inl ⟨rfl, rfl⟩)))))))
            · exact ih x1 x2 x3 (x4 + (1 : Int32)) m (hm)
theorem q_X12_lakes_84 (m0 : zM) (c34 : Int32 → zM → Option (zM)) (hc34 : ∀ (x1 : Int32) (m : zM), zFr (p_X12_lakes) m0 m → zFK (p_X12_lakes) m0 (c34 x1 m) id) : ∀ (j : Nat) (x1 : Int32) (x2 : Int32) (m : zM), zFr (p_X12_lakes) m0 m → zFK (p_X12_lakes) m0 (f_X12_lakes_84 c34 j x1 x2 m) id := by
  intro j
  induction j with
  | zero =>
    intro _ _ _ _
    exact zq_none
  | succ j ih =>
    intro x1 x2 m hm
    unfold f_X12_lakes_84
    refine zq_if ?_ ?_
    · exact hc34 (x1 + (1 : Int32)) (z_sI m 13 0 18 ((m.1 13 0 18) + (1 : Int32))) (zFr.sI (hm) _ (Or.inr (Or.inr (Or.inr (Or.inr (Or.inl ⟨rfl, rfl, rfl⟩))))))
    · refine zq_gd ?_
      exact q_X12_lakes_101 m0 c34 (f_X12_lakes_84 c34 j) hc34 ih zF x1 (x2 + (-1 : Int32)) (m.1 20 66 (Int32.toNatClampNeg (x2 + (-1 : Int32)))) (0 : Int32) m (hm)
theorem q_X12_lakes_34 (m0 : zM) : ∀ (j : Nat) (x1 : Int32) (m : zM), zFr (p_X12_lakes) m0 m → zFK (p_X12_lakes) m0 (f_X12_lakes_34 j x1 m) id := by
  intro j
  induction j with
  | zero =>
    intro _ _ _
    exact zq_none
  | succ j ih =>
    intro x1 m hm
    unfold f_X12_lakes_34
    refine zq_bind (fun r1 => ?_)
    refine zq_if ?_ ?_
    · exact zq_some (hm)
    · refine zq_bind (fun r3 => ?_)
      refine zq_if ?_ ?_
      · exact ih (x1 + (1 : Int32)) m (hm)
      · refine zq_gd ?_
        refine zq_if ?_ ?_
        · refine zq_gd ?_
          refine zq_gd ?_
          exact q_X12_lakes_84 m0 (f_X12_lakes_34 j) ih zF x1 ((0 : Int32) + (1 : Int32)) (z_sI (z_sI m 20 66 (Int32.toNatClampNeg (0 : Int32)) x1) 20 65 (Int32.toNatClampNeg x1) ((z_sI m 20 66 (Int32.toNatClampNeg (0 : Int32)) x1).1 13 0 18)) (zFr.sI (zFr.sI (hm) _ (Or.inr (Or.inr (Or.inr (Or.inr (Or.inr (Or.inl ⟨rfl, rfl⟩))))))) _ (Or.inr (Or.inr (Or.inr (Or.inr (Or.inr (Or.inr ⟨rfl, rfl⟩)))))))
        · exact ih (x1 + (1 : Int32)) m (hm)
theorem q_X12_lakes_6 (m0 : zM) : ∀ (j : Nat) (x1 : Int32) (m : zM), zFr (p_X12_lakes) m0 m → zFK (p_X12_lakes) m0 (f_X12_lakes_6 j x1 m) id := by
  intro j
  induction j with
  | zero =>
    intro _ _ _
    exact zq_none
  | succ j ih =>
    intro x1 m hm
    unfold f_X12_lakes_6
    refine zq_bind (fun r1 => ?_)
    refine zq_if ?_ ?_
    · exact q_X12_lakes_34 m0 zF (0 : Int32) (z_sI m 13 0 18 (0 : Int32)) (zFr.sI (hm) _ (Or.inr (Or.inr (Or.inr (Or.inr (Or.inl ⟨rfl, rfl, rfl⟩))))))
    · refine zq_gd ?_
      exact ih (x1 + (1 : Int32)) (z_sI m 20 65 (Int32.toNatClampNeg x1) (-1 : Int32)) (zFr.sI (hm) _ (Or.inr (Or.inr (Or.inr (Or.inr (Or.inr (Or.inr ⟨rfl, rfl⟩)))))))
theorem q_X12_lakes (m : zM) : zFK (p_X12_lakes) m (f_X12_lakes m) id := by
  unfold f_X12_lakes
  refine zq_call (q_X12_looks m) (fun _ _ _ => (fun h => Or.elim h (fun h => (Or.inl h)) (fun h => Or.elim h (fun h => (Or.inr (Or.inl h))) (fun h => Or.elim h (fun h => (Or.inr (Or.inr (Or.inl h)))) (fun h => (Or.inr (Or.inr (Or.inr (Or.inl h))))))))) (zFr.refl m) (fun r1 gr1 => ?_)
  exact q_X12_lakes_6 m zF (0 : Int32) r1 (gr1)
abbrev p_X12_levelByPools (k i j : Nat) : Prop := (k = 13 ∧ i = 0 ∧ j = 0) ∨ (k = 13 ∧ i = 0 ∧ j = 21) ∨ (k = 13 ∧ i = 0 ∧ j = 20) ∨ (k = 20 ∧ i = 66) ∨ (k = 21 ∧ i = 4) ∨ (k = 31 ∧ i = 3) ∨ (k = 21 ∧ i = 3) ∨ (k = 21 ∧ i = 5) ∨ (k = 31 ∧ i = 2)
theorem q_X12_levelByPools_25 (m0 : zM) : ∀ (j : Nat) (x1 : Int32) (x2 : Int32) (m : zM), zFr (p_X12_levelByPools) m0 m → zFK (p_X12_levelByPools) m0 (f_X12_levelByPools_25 j x1 x2 m) (fun a => a.2) := by
  intro j
  induction j with
  | zero =>
    intro _ _ _ _
    exact zq_none
  | succ j ih =>
    intro x1 x2 m hm
    unfold f_X12_levelByPools_25
    refine zq_if ?_ ?_
    · refine zq_bind (fun r2 => ?_)
      exact zq_some (hm)
    · refine zq_gd ?_
      refine zq_if ?_ ?_
      · exact ih x1 (x2 + (1 : Int32)) m (hm)
      · refine zq_gd ?_
        refine zq_if ?_ ?_
        · refine zq_gd ?_
          exact zq_some (hm)
        · exact ih x1 (x2 + (1 : Int32)) m (hm)
theorem q_X12_levelByPools (x1 : Int32) (m : zM) : zFK (p_X12_levelByPools) m (f_X12_levelByPools x1 m) (fun a => a.2) := by
  unfold f_X12_levelByPools
  refine zq_bind (fun r1 => ?_)
  refine zq_if ?_ ?_
  · refine zq_call (q_X12_raises (1 : Int32) (z_sI m 13 0 0 (0 : Int32))) (fun _ _ _ => (fun h => (Or.inl h))) (zFr.sI (zFr.refl m) _ (Or.inl ⟨rfl, rfl, rfl⟩)) (fun r3 gr3 => ?_)
    exact zq_some (gr3)
  · refine zq_call (q_X12_depressions (z_sI m 13 0 0 (0 : Int32))) (fun _ _ _ => (fun h => Or.elim h (fun h => (Or.inr (Or.inl h))) (fun h => Or.elim h (fun h => (Or.inr (Or.inr (Or.inl h)))) (fun h => Or.elim h (fun h => (Or.inr (Or.inr (Or.inr (Or.inl h))))) (fun h => Or.elim h (fun h => (Or.inr (Or.inr (Or.inr (Or.inr (Or.inl h)))))) (fun h => Or.elim h (fun h => (Or.inr (Or.inr (Or.inr (Or.inr (Or.inr (Or.inl h))))))) (fun h => Or.elim h (fun h => (Or.inr (Or.inr (Or.inr (Or.inr (Or.inr (Or.inr (Or.inl h)))))))) (fun h => Or.elim h (fun h => (Or.inr (Or.inr (Or.inr (Or.inr (Or.inr (Or.inr (Or.inr (Or.inl h))))))))) (fun h => (Or.inr (Or.inr (Or.inr (Or.inr (Or.inr (Or.inr (Or.inr (Or.inr h))))))))))))))))) (zFr.sI (zFr.refl m) _ (Or.inl ⟨rfl, rfl, rfl⟩)) (fun r4 gr4 => ?_)
    exact q_X12_levelByPools_25 m zF x1 (0 : Int32) r4 (gr4)
abbrev p_X12_bestWay (k i j : Nat) : Prop := (k = 13 ∧ i = 0 ∧ j = 30) ∨ (k = 13 ∧ i = 0 ∧ j = 29) ∨ (k = 27 ∧ i = 0) ∨ (k = 26 ∧ i = 0)
theorem q_X12_bestWay_206 (m0 : zM) (c195 : Int32 → Int32 → zM → Option (zM)) (hc195 : ∀ (x2 : Int32) (x3 : Int32) (m : zM), zFr (p_X12_bestWay) m0 m → zFK (p_X12_bestWay) m0 (c195 x2 x3 m) id) : ∀ (j : Nat) (x2 : Int32) (x3 : Int32) (x4 : Int32) (m : zM), zFr (p_X12_bestWay) m0 m → zFK (p_X12_bestWay) m0 (f_X12_bestWay_206 c195 j x2 x3 x4 m) id := by
  intro j
  induction j with
  | zero =>
    intro _ _ _ _ _
    exact zq_none
  | succ j ih =>
    intro x2 x3 x4 m hm
    unfold f_X12_bestWay_206
    refine zq_bind (fun r1 => ?_)
    refine zq_bind (fun r2 => ?_)
    refine zq_if ?_ ?_
    · refine zq_bind (fun r4 => ?_)
      refine zq_bind (fun r5 => ?_)
      refine zq_bind (fun r6 => ?_)
      refine zq_gd ?_
      exact hc195 r6 r4 (z_sI (z_sI m 13 0 29 ((m.1 13 0 29) + (1 : Int32))) 27 0 (Int32.toNatClampNeg (m.1 13 0 29)) r4) (zFr.sI (zFr.sI (hm) _ (Or.inr (Or.inl ⟨rfl, rfl, rfl⟩))) _ (Or.inr (Or.inr (Or.inl ⟨rfl, rfl⟩))))
    · exact ih x2 x3 (x4 + (1 : Int32)) m (hm)
theorem q_X12_bestWay_195 (m0 : zM) : ∀ (j : Nat) (x2 : Int32) (x3 : Int32) (m : zM), zFr (p_X12_bestWay) m0 m → zFK (p_X12_bestWay) m0 (f_X12_bestWay_195 j x2 x3 m) id := by
  intro j
  induction j with
  | zero =>
    intro _ _ _ _
    exact zq_none
  | succ j ih =>
    intro x2 x3 m hm
    unfold f_X12_bestWay_195
    refine zq_bind (fun r1 => ?_)
    refine zq_if ?_ ?_
    · exact q_X12_bestWay_206 m0 (f_X12_bestWay_195 j) ih zF x2 x3 (0 : Int32) m (hm)
    · exact zq_some (hm)
theorem q_X12_bestWay_75 (m0 : zM) (c2 : Int32 → Int32 → zM → Option (zM)) (c42 : Int32 → Int32 → Int32 → zM → Option (zM)) (c51 : Int32 → Int32 → Int32 → Int32 → zM → Option (zM)) (hc2 : ∀ (x1 : Int32) (x2 : Int32) (m : zM), zFr (p_X12_bestWay) m0 m → zFK (p_X12_bestWay) m0 (c2 x1 x2 m) id) (hc42 : ∀ (x1 : Int32) (x2 : Int32) (x3 : Int32) (m : zM), zFr (p_X12_bestWay) m0 m → zFK (p_X12_bestWay) m0 (c42 x1 x2 x3 m) id) (hc51 : ∀ (x1 : Int32) (x2 : Int32) (x3 : Int32) (x4 : Int32) (m : zM), zFr (p_X12_bestWay) m0 m → zFK (p_X12_bestWay) m0 (c51 x1 x2 x3 x4 m) id) : ∀ (j : Nat) (x1 : Int32) (x2 : Int32) (x3 : Int32) (x4 : Int32) (x5 : Int32) (m : zM), zFr (p_X12_bestWay) m0 m → zFK (p_X12_bestWay) m0 (f_X12_bestWay_75 c2 c42 c51 j x1 x2 x3 x4 x5 m) id := by
  intro j
  induction j with
  | zero =>
    intro _ _ _ _ _ _ _
    exact zq_none
  | succ j ih =>
    intro x1 x2 x3 x4 x5 m hm
    unfold f_X12_bestWay_75
    refine zq_if ?_ ?_
    · exact hc51 x1 x2 x3 (x4 + (1 : Int32)) m (hm)
    · refine zq_bind (fun r2 => ?_)
      refine zq_gd ?_
      refine zq_if ?_ ?_
      · refine zq_gd ?_
        exact ih x1 x2 (1 : Int32) x4 (x5 + (1 : Int32)) (z_sI m 26 0 (Int32.toNatClampNeg (((64 : Int32) * x2) + x4)) r2) (zFr.sI (hm) _ (Or.inr (Or.inr (Or.inr ⟨rfl, rfl⟩))))
      · exact ih x1 x2 x3 x4 (x5 + (1 : Int32)) m (hm)
theorem q_X12_bestWay_51 (m0 : zM) (c2 : Int32 → Int32 → zM → Option (zM)) (c42 : Int32 → Int32 → Int32 → zM → Option (zM)) (hc2 : ∀ (x1 : Int32) (x2 : Int32) (m : zM), zFr (p_X12_bestWay) m0 m → zFK (p_X12_bestWay) m0 (c2 x1 x2 m) id) (hc42 : ∀ (x1 : Int32) (x2 : Int32) (x3 : Int32) (m : zM), zFr (p_X12_bestWay) m0 m → zFK (p_X12_bestWay) m0 (c42 x1 x2 x3 m) id) : ∀ (j : Nat) (x1 : Int32) (x2 : Int32) (x3 : Int32) (x4 : Int32) (m : zM), zFr (p_X12_bestWay) m0 m → zFK (p_X12_bestWay) m0 (f_X12_bestWay_51 c2 c42 j x1 x2 x3 x4 m) id := by
  intro j
  induction j with
  | zero =>
    intro _ _ _ _ _ _
    exact zq_none
  | succ j ih =>
    intro x1 x2 x3 x4 m hm
    unfold f_X12_bestWay_51
    refine zq_bind (fun r1 => ?_)
    refine zq_if ?_ ?_
    · exact hc42 x1 x2 x3 m (hm)
    · refine zq_bind (fun r3 => ?_)
      refine zq_if ?_ ?_
      · exact q_X12_bestWay_75 m0 c2 c42 (f_X12_bestWay_51 c2 c42 j) hc2 hc42 ih zF x1 x2 x3 x4 (0 : Int32) m (hm)
      · exact ih x1 x2 x3 (x4 + (1 : Int32)) m (hm)
theorem q_X12_bestWay_42 (m0 : zM) (c2 : Int32 → Int32 → zM → Option (zM)) (hc2 : ∀ (x1 : Int32) (x2 : Int32) (m : zM), zFr (p_X12_bestWay) m0 m → zFK (p_X12_bestWay) m0 (c2 x1 x2 m) id) : ∀ (j : Nat) (x1 : Int32) (x2 : Int32) (x3 : Int32) (m : zM), zFr (p_X12_bestWay) m0 m → zFK (p_X12_bestWay) m0 (f_X12_bestWay_42 c2 j x1 x2 x3 m) id := by
  intro j
  induction j with
  | zero =>
    intro _ _ _ _ _
    exact zq_none
  | succ j ih =>
    intro x1 x2 x3 m hm
    unfold f_X12_bestWay_42
    refine zq_if ?_ ?_
    · exact hc2 x1 (x2 + (1 : Int32)) m (hm)
    · exact q_X12_bestWay_51 m0 c2 (f_X12_bestWay_42 c2 j) hc2 ih zF x1 x2 (0 : Int32) (0 : Int32) m (hm)
theorem q_X12_bestWay_13 (m0 : zM) (c2 : Int32 → Int32 → zM → Option (zM)) (hc2 : ∀ (x1 : Int32) (x2 : Int32) (m : zM), zFr (p_X12_bestWay) m0 m → zFK (p_X12_bestWay) m0 (c2 x1 x2 m) id) : ∀ (j : Nat) (x1 : Int32) (x2 : Int32) (x3 : Int32) (m : zM), zFr (p_X12_bestWay) m0 m → zFK (p_X12_bestWay) m0 (f_X12_bestWay_13 c2 j x1 x2 x3 m) id := by
  intro j
  induction j with
  | zero =>
    intro _ _ _ _ _
    exact zq_none
  | succ j ih =>
    intro x1 x2 x3 m hm
    unfold f_X12_bestWay_13
    refine zq_bind (fun r1 => ?_)
    refine zq_if ?_ ?_
    · exact q_X12_bestWay_42 m0 c2 hc2 zF x1 x2 (1 : Int32) m (hm)
    · refine zq_gd ?_
      exact ih x1 x2 (x3 + (1 : Int32)) (z_sI m 26 0 (Int32.toNatClampNeg (((64 : Int32) * x2) + x3)) (1000000 : Int32)) (zFr.sI (hm) _ (Or.inr (Or.inr (Or.inr ⟨rfl, rfl⟩))))
theorem q_X12_bestWay_2 (m0 : zM) : ∀ (j : Nat) (x1 : Int32) (x2 : Int32) (m : zM), zFr (p_X12_bestWay) m0 m → zFK (p_X12_bestWay) m0 (f_X12_bestWay_2 j x1 x2 m) id := by
  intro j
  induction j with
  | zero =>
    intro _ _ _ _
    exact zq_none
  | succ j ih =>
    intro x1 x2 m hm
    unfold f_X12_bestWay_2
    refine zq_bind (fun r1 => ?_)
    refine zq_if ?_ ?_
    · refine zq_bind (fun r3 => ?_)
      refine zq_bind (fun r4 => ?_)
      refine zq_gd ?_
      refine zq_gd ?_
      exact q_X12_bestWay_195 m0 zF r3 x1 (z_sI (z_sI (z_sI (z_sI m 13 0 30 ((r4 - (1 : Int32)) / (128 : Int32))) 13 0 29 (0 : Int32)) 13 0 29 (((z_sI (z_sI m 13 0 30 ((r4 - (1 : Int32)) / (128 : Int32))) 13 0 29 (0 : Int32)).1 13 0 29) + (1 : Int32))) 27 0 (Int32.toNatClampNeg ((z_sI (z_sI m 13 0 30 ((r4 - (1 : Int32)) / (128 : Int32))) 13 0 29 (0 : Int32)).1 13 0 29)) x1) (zFr.sI (zFr.sI (zFr.sI (zFr.sI (hm) _ (Or.inl ⟨rfl, rfl, rfl⟩)) _ (Or.inr (Or.inl ⟨rfl, rfl, rfl⟩))) _ (Or.inr (Or.inl ⟨rfl, rfl, rfl⟩))) _ (Or.inr (Or.inr (Or.inl ⟨rfl, rfl⟩))))
    · exact q_X12_bestWay_13 m0 (f_X12_bestWay_2 j) ih zF x1 x2 (0 : Int32) m (hm)
theorem q_X12_bestWay (x1 : Int32) (m : zM) : zFK (p_X12_bestWay) m (f_X12_bestWay x1 m) id := by
  unfold f_X12_bestWay
  exact q_X12_bestWay_2 m zF x1 (0 : Int32) m (zFr.refl m)
abbrev p_X12_flow (k i j : Nat) : Prop := (k = 13 ∧ i = 0 ∧ j = 0) ∨ (k = 20 ∧ i = 59) ∨ (k = 20 ∧ i = 61) ∨ (k = 20 ∧ i = 62) ∨ (k = 20 ∧ i = 60)
theorem q_X12_flow (x1 : Int32) (m : zM) : zFK (p_X12_flow) m (f_X12_flow x1 m) (fun a => a.2) := by
  unfold f_X12_flow
  refine zq_bind (fun r1 => ?_)
  refine zq_if ?_ ?_
  · refine zq_call (q_X12_raises (1 : Int32) (z_sI m 13 0 0 (0 : Int32))) (fun _ _ _ => (fun h => (Or.inl h))) (zFr.sI (zFr.refl m) _ (Or.inl ⟨rfl, rfl, rfl⟩)) (fun r3 gr3 => ?_)
    exact zq_some (gr3)
  · refine zq_bind (fun r4 => ?_)
    refine zq_if ?_ ?_
    · refine zq_call (q_X12_looks (z_sI m 13 0 0 (0 : Int32))) (fun _ _ _ => (fun h => Or.elim h (fun h => (Or.inr (Or.inl h))) (fun h => Or.elim h (fun h => (Or.inr (Or.inr (Or.inl h)))) (fun h => Or.elim h (fun h => (Or.inr (Or.inr (Or.inr (Or.inl h))))) (fun h => (Or.inr (Or.inr (Or.inr (Or.inr h))))))))) (zFr.sI (zFr.refl m) _ (Or.inl ⟨rfl, rfl, rfl⟩)) (fun r6 gr6 => ?_)
      refine zq_gd ?_
      exact zq_some (gr6)
    · refine zq_call (q_X12_raises (2 : Int32) (z_sI m 13 0 0 (0 : Int32))) (fun _ _ _ => (fun h => (Or.inl h))) (zFr.sI (zFr.refl m) _ (Or.inl ⟨rfl, rfl, rfl⟩)) (fun r8 gr8 => ?_)
      exact zq_some (gr8)
