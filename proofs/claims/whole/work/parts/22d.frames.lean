abbrev p_X9_carryOut (g1 : Nat) (k i j : Nat) : Prop := (k = 10 ∧ i = 0 ∧ j = 3) ∨ (k = 10 ∧ i = 0 ∧ j = 4) ∨ (k = 10 ∧ i = 0 ∧ j = 5) ∨ (k = 10 ∧ i = 0 ∧ j = 6) ∨ (k = 20 ∧ i = 3 * g1) ∨ (k = 20 ∧ i = 3 * g1 + 1) ∨ (k = 20 ∧ i = 3 * g1 + 2) ∨ (k = 6 ∧ i = g1 ∧ j = 3)
theorem q_X9_carryOut_72 (g1 : Nat) (m0 : zM) (c7 : Int32 → zM → Option (Bool × zM)) (hc7 : ∀ (x2 : Int32) (m : zM), zFr (p_X9_carryOut g1) m0 m → zFK (p_X9_carryOut g1) m0 (c7 x2 m) (fun a => a.2)) (x2 : Int32) (m : zM) (hm : zFr (p_X9_carryOut g1) m0 m) : zFK (p_X9_carryOut g1) m0 (f_X9_carryOut_72 g1 c7 x2 m) (fun a => a.2) := by
  unfold f_X9_carryOut_72
  refine zq_call (q_X9_carryOutCommand g1 m) (fun _ _ _ => (fun h => Or.elim h (fun h => (Or.inr (Or.inr (Or.inr (Or.inr (Or.inl h)))))) (fun h => Or.elim h (fun h => (Or.inr (Or.inr (Or.inr (Or.inr (Or.inr (Or.inl h))))))) (fun h => Or.elim h (fun h => (Or.inr (Or.inr (Or.inr (Or.inr (Or.inr (Or.inr (Or.inl h)))))))) (fun h => (Or.inr (Or.inr (Or.inr (Or.inr (Or.inr (Or.inr (Or.inr h)))))))))))) (hm) (fun r1 gr1 => ?_)
  exact hc7 (x2 + (1 : Int32)) r1 (gr1)
theorem q_X9_carryOut_7 (g1 : Nat) (m0 : zM) : ∀ (j : Nat) (x2 : Int32) (m : zM), zFr (p_X9_carryOut g1) m0 m → zFK (p_X9_carryOut g1) m0 (f_X9_carryOut_7 g1 j x2 m) (fun a => a.2) := by
  intro j
  induction j with
  | zero =>
    intro _ _ _
    exact zq_none
  | succ j ih =>
    intro x2 m hm
    unfold f_X9_carryOut_7
    refine zq_if ?_ ?_
    · exact zq_some (hm)
    · refine zq_if ?_ ?_
      · exact zq_some (hm)
      · refine zq_bind (fun r3 => ?_)
        refine zq_call (q_X9_readCommand r3 m) (fun _ _ _ => (fun h => Or.elim h (fun h => (Or.inr (Or.inl h))) (fun h => Or.elim h (fun h => (Or.inl h)) (fun h => Or.elim h (fun h => (Or.inr (Or.inr (Or.inl h)))) (fun h => (Or.inr (Or.inr (Or.inr (Or.inl h))))))))) (hm) (fun r4 gr4 => ?_)
        refine zq_if ?_ ?_
        · refine zq_if ?_ ?_
          · refine zq_bind (fun r7 => ?_)
            refine zq_if ?_ ?_
            · exact q_X9_carryOut_72 g1 m0 (f_X9_carryOut_7 g1 j) ih x2 (z_sI r4.2 10 0 3 ((r4.2.1 10 0 3) + (1 : Int32))) (zFr.sI (gr4) _ (Or.inl ⟨rfl, rfl, rfl⟩))
            · exact zq_some (zFr.sI (gr4) _ (Or.inl ⟨rfl, rfl, rfl⟩))
          · exact q_X9_carryOut_72 g1 m0 (f_X9_carryOut_7 g1 j) ih x2 (z_sI r4.2 10 0 3 ((r4.2.1 10 0 3) + (1 : Int32))) (zFr.sI (gr4) _ (Or.inl ⟨rfl, rfl, rfl⟩))
        · exact q_X9_carryOut_72 g1 m0 (f_X9_carryOut_7 g1 j) ih x2 (z_sI r4.2 10 0 3 ((r4.2.1 10 0 3) + (1 : Int32))) (zFr.sI (gr4) _ (Or.inl ⟨rfl, rfl, rfl⟩))
theorem q_X9_carryOut (g1 : Nat) (m : zM) : zFK (p_X9_carryOut g1) m (f_X9_carryOut g1 m) (fun a => a.2) := by
  unfold f_X9_carryOut
  exact q_X9_carryOut_7 g1 m zF (0 : Int32) (z_sI m 10 0 3 (0 : Int32)) (zFr.sI (zFr.refl m) _ (Or.inl ⟨rfl, rfl, rfl⟩))
abbrev p_X11_lake (k i j : Nat) : Prop := (k = 20 ∧ i = 33) ∨ (k = 4 ∧ i = 0 ∧ j = 5) ∨ (k = 20 ∧ i = 34) ∨ (k = 20 ∧ i = 35) ∨ (k = 4 ∧ i = 0 ∧ j = 4) ∨ (k = 30 ∧ i = 0) ∨ (k = 2 ∧ i = 0 ∧ j = 3) ∨ (k = 2 ∧ i = 0 ∧ j = 4) ∨ (k = 20 ∧ i = 58) ∨ (k = 20 ∧ i = 57) ∨ (k = 20 ∧ i = 56) ∨ (k = 5 ∧ i = 0 ∧ j = 0) ∨ (k = 5 ∧ i = 0 ∧ j = 1) ∨ (k = 20 ∧ i = 36) ∨ (k = 20 ∧ i = 41) ∨ (k = 20 ∧ i = 40) ∨ (k = 20 ∧ i = 42) ∨ (k = 20 ∧ i = 43) ∨ (k = 20 ∧ i = 37) ∨ (k = 20 ∧ i = 38) ∨ (k = 20 ∧ i = 39)
theorem q_X11_lake (x1 : Int32) (x2 : Int32) (m : zM) : zFK (p_X11_lake) m (f_X11_lake x1 x2 m) (fun a => a.2) := by
  unfold f_X11_lake
  refine zq_callx (q_X11_requireLake x1 m) (fun _ _ _ => (fun h => Or.elim h (fun h => (Or.inl h)) (fun h => Or.elim h (fun h => (Or.inr (Or.inl h))) (fun h => Or.elim h (fun h => (Or.inr (Or.inr (Or.inl h)))) (fun h => Or.elim h (fun h => (Or.inr (Or.inr (Or.inr (Or.inl h))))) (fun h => Or.elim h (fun h => (Or.inr (Or.inr (Or.inr (Or.inr (Or.inl h)))))) (fun h => (Or.inr (Or.inr (Or.inr (Or.inr (Or.inr (Or.inl h))))))))))))) (zFr.refl m) (fun _ _ => rfl) (fun r1 m2 gm2 => ?_)
  refine zq_callx (q_X11_requireRange x2 (0 : Int32) (6 : Int32) m2) (fun _ _ _ h => h.elim) (gm2) (fun _ _ => rfl) (fun r3 m4 gm4 => ?_)
  refine zq_bind (fun r5 => ?_)
  refine zq_bind (fun r6 => ?_)
  refine zq_if ?_ ?_
  · refine zq_bind (fun r7 => ?_)
    exact zq_some (gm4)
  refine zq_if ?_ ?_
  · refine zq_bind (fun r8 => ?_)
    exact zq_some (gm4)
  refine zq_if ?_ ?_
  · refine zq_bind (fun r9 => ?_)
    exact zq_some (gm4)
  refine zq_if ?_ ?_
  · refine zq_bind (fun r10 => ?_)
    exact zq_some (gm4)
  refine zq_if ?_ ?_
  · exact zq_some (gm4)
  refine zq_if ?_ ?_
  · refine zq_call (q_X0_plan 0 r6 m4) (fun _ _ _ => (fun h => Or.elim h (fun h => (Or.inr (Or.inr (Or.inr (Or.inr (Or.inr (Or.inr (Or.inl h)))))))) (fun h => Or.elim h (fun h => (Or.inr (Or.inr (Or.inr (Or.inr (Or.inr (Or.inr (Or.inr (Or.inl h))))))))) (fun h => Or.elim h (fun h => (Or.inr (Or.inr (Or.inr (Or.inr (Or.inr (Or.inr (Or.inr (Or.inr (Or.inl h)))))))))) (fun h => Or.elim h (fun h => (Or.inr (Or.inr (Or.inr (Or.inr (Or.inr (Or.inr (Or.inr (Or.inr (Or.inr (Or.inl h))))))))))) (fun h => (Or.inr (Or.inr (Or.inr (Or.inr (Or.inr (Or.inr (Or.inr (Or.inr (Or.inr (Or.inr (Or.inl h))))))))))))))))) (gm4) (fun r11 gr11 => ?_)
    exact zq_some (gr11)
  · refine zq_call (q_X3_trace 0 m4) (fun _ _ _ => (fun h => Or.elim h (fun h => (Or.inr (Or.inr (Or.inr (Or.inr (Or.inr (Or.inr (Or.inr (Or.inr (Or.inr (Or.inr (Or.inr (Or.inl h))))))))))))) (fun h => Or.elim h (fun h => (Or.inr (Or.inr (Or.inr (Or.inr (Or.inr (Or.inr (Or.inr (Or.inr (Or.inr (Or.inr (Or.inr (Or.inr (Or.inl h)))))))))))))) (fun h => Or.elim h (fun h => (Or.inr (Or.inr (Or.inr (Or.inr (Or.inr (Or.inr (Or.inr (Or.inr (Or.inr (Or.inr (Or.inr (Or.inr (Or.inr (Or.inl h))))))))))))))) (fun h => Or.elim h (fun h => (Or.inr (Or.inr (Or.inr (Or.inr (Or.inr (Or.inr (Or.inr (Or.inr (Or.inr (Or.inr (Or.inr (Or.inr (Or.inr (Or.inr (Or.inl h)))))))))))))))) (fun h => Or.elim h (fun h => (Or.inr (Or.inr (Or.inr (Or.inr (Or.inr (Or.inr (Or.inr (Or.inr (Or.inr (Or.inr (Or.inr (Or.inr (Or.inr (Or.inr (Or.inr (Or.inl h))))))))))))))))) (fun h => Or.elim h (fun h => (Or.inr (Or.inr (Or.inr (Or.inr (Or.inr (Or.inr (Or.inr (Or.inr (Or.inr (Or.inr (Or.inr (Or.inr (Or.inr (Or.inr (Or.inr (Or.inr (Or.inl h)))))))))))))))))) (fun h => Or.elim h (fun h => (Or.inr (Or.inr (Or.inr (Or.inr (Or.inr (Or.inr (Or.inr (Or.inr (Or.inr (Or.inr (Or.inr (Or.inr (Or.inr (Or.inr (Or.inr (Or.inr (Or.inr (Or.inl h))))))))))))))))))) (fun h => Or.elim h (fun h => (Or.inr (Or.inr (Or.inr (Or.inr (Or.inr (Or.inr (Or.inr (Or.inr (Or.inr (Or.inr (Or.inr (Or.inr (Or.inr (Or.inr (Or.inr (Or.inr (Or.inr (Or.inr (Or.inl h)))))))))))))))))))) (fun h => Or.elim h (fun h => (Or.inr (Or.inr (Or.inr (Or.inr (Or.inr (Or.inr (Or.inr (Or.inr (Or.inr (Or.inr (Or.inr (Or.inr (Or.inr (Or.inr (Or.inr (Or.inr (Or.inr (Or.inr (Or.inr (Or.inl h))))))))))))))))))))) (fun h => (Or.inr (Or.inr (Or.inr (Or.inr (Or.inr (Or.inr (Or.inr (Or.inr (Or.inr (Or.inr (Or.inr (Or.inr (Or.inr (Or.inr (Or.inr (Or.inr (Or.inr (Or.inr (Or.inr (Or.inr h))))))))))))))))))))))))))))))) (gm4) (fun r12 gr12 => ?_)
    refine zq_bind (fun r13 => ?_)
    exact zq_some (gr12)
abbrev p_X11_remedy (k i j : Nat) : Prop := (k = 20 ∧ i = 33) ∨ (k = 4 ∧ i = 0 ∧ j = 5) ∨ (k = 20 ∧ i = 34) ∨ (k = 20 ∧ i = 35) ∨ (k = 4 ∧ i = 0 ∧ j = 4) ∨ (k = 30 ∧ i = 0) ∨ (k = 2 ∧ i = 0 ∧ j = 3) ∨ (k = 2 ∧ i = 0 ∧ j = 4) ∨ (k = 20 ∧ i = 58) ∨ (k = 20 ∧ i = 57) ∨ (k = 20 ∧ i = 56)
theorem q_X11_remedy (x1 : Int32) (m : zM) : zFK (p_X11_remedy) m (f_X11_remedy x1 m) (fun a => a.2) := by
  unfold f_X11_remedy
  refine zq_callx (q_X11_requireLake x1 m) (fun _ _ _ => (fun h => Or.elim h (fun h => (Or.inl h)) (fun h => Or.elim h (fun h => (Or.inr (Or.inl h))) (fun h => Or.elim h (fun h => (Or.inr (Or.inr (Or.inl h)))) (fun h => Or.elim h (fun h => (Or.inr (Or.inr (Or.inr (Or.inl h))))) (fun h => Or.elim h (fun h => (Or.inr (Or.inr (Or.inr (Or.inr (Or.inl h)))))) (fun h => (Or.inr (Or.inr (Or.inr (Or.inr (Or.inr (Or.inl h))))))))))))) (zFr.refl m) (fun _ _ => rfl) (fun r1 m2 gm2 => ?_)
  refine zq_bind (fun r3 => ?_)
  refine zq_bind (fun r4 => ?_)
  refine zq_call (q_X0_plan 0 r4 m2) (fun _ _ _ => (fun h => Or.elim h (fun h => (Or.inr (Or.inr (Or.inr (Or.inr (Or.inr (Or.inr (Or.inl h)))))))) (fun h => Or.elim h (fun h => (Or.inr (Or.inr (Or.inr (Or.inr (Or.inr (Or.inr (Or.inr (Or.inl h))))))))) (fun h => Or.elim h (fun h => (Or.inr (Or.inr (Or.inr (Or.inr (Or.inr (Or.inr (Or.inr (Or.inr (Or.inl h)))))))))) (fun h => Or.elim h (fun h => (Or.inr (Or.inr (Or.inr (Or.inr (Or.inr (Or.inr (Or.inr (Or.inr (Or.inr (Or.inl h))))))))))) (fun h => (Or.inr (Or.inr (Or.inr (Or.inr (Or.inr (Or.inr (Or.inr (Or.inr (Or.inr (Or.inr h)))))))))))))))) (gm2) (fun r5 gr5 => ?_)
  refine zq_bind (fun r6 => ?_)
  refine zq_if ?_ ?_
  · exact zq_some (gr5)
  · exact zq_some (gr5)
abbrev p_X11_fillLake (k i j : Nat) : Prop := (k = 20 ∧ i = 33) ∨ (k = 4 ∧ i = 0 ∧ j = 5) ∨ (k = 20 ∧ i = 34) ∨ (k = 20 ∧ i = 35) ∨ (k = 4 ∧ i = 0 ∧ j = 4) ∨ (k = 30 ∧ i = 0) ∨ (k = 7 ∧ i = 0 ∧ j = 1) ∨ (k = 6 ∧ i < 11 ∧ j = 0) ∨ (k = 6 ∧ i < 11 ∧ j = 1) ∨ (k = 6 ∧ i < 11 ∧ j = 2) ∨ (k = 6 ∧ i < 11 ∧ j = 3) ∨ (k = 20 ∧ i < 33) ∨ (k = 7 ∧ i = 0 ∧ j = 2) ∨ (k = 20 ∧ i = 0)
theorem q_X11_fillLake_40 (m0 : zM) : ∀ (j : Nat) (x2 : Int64) (x4 : Int32) (x5 : Int32) (m : zM), zFr (p_X11_fillLake) m0 m → zFK (p_X11_fillLake) m0 (f_X11_fillLake_40 j x2 x4 x5 m) (fun a => a.2) := by
  intro j
  induction j with
  | zero =>
    intro _ _ _ _ _
    exact zq_none
  | succ j ih =>
    intro x2 x4 x5 m hm
    unfold f_X11_fillLake_40
    refine zq_if ?_ ?_
    · refine zq_bind (fun r2 => ?_)
      exact zq_some (hm)
    · refine zq_bind (fun r3 => ?_)
      refine zq_if ?_ ?_
      · exact ih x2 x4 (x5 + (1 : Int32)) m (hm)
      · refine zq_bind (fun r5 => ?_)
        refine zq_call (q_X7_put 20 0 x5 r5 m) (fun _ _ _ => (fun h => (Or.inr (Or.inr (Or.inr (Or.inr (Or.inr (Or.inr (Or.inr (Or.inr (Or.inr (Or.inr (Or.inr (Or.inr (Or.inr h))))))))))))))) (hm) (fun r6 gr6 => ?_)
        exact ih x2 x4 (x5 + (1 : Int32)) r6 (gr6)
theorem q_X11_fillLake (x1 : Int32) (m : zM) : zFK (p_X11_fillLake) m (f_X11_fillLake x1 m) (fun a => a.2) := by
  unfold f_X11_fillLake
  refine zq_callx (q_X11_requireLake x1 m) (fun _ _ _ => (fun h => Or.elim h (fun h => (Or.inl h)) (fun h => Or.elim h (fun h => (Or.inr (Or.inl h))) (fun h => Or.elim h (fun h => (Or.inr (Or.inr (Or.inl h)))) (fun h => Or.elim h (fun h => (Or.inr (Or.inr (Or.inr (Or.inl h))))) (fun h => Or.elim h (fun h => (Or.inr (Or.inr (Or.inr (Or.inr (Or.inl h)))))) (fun h => (Or.inr (Or.inr (Or.inr (Or.inr (Or.inr (Or.inl h))))))))))))) (zFr.refl m) (fun _ _ => rfl) (fun r1 m2 gm2 => ?_)
  refine zq_call (q_X5_remember 0 m2) (fun _ _ _ => (fun h => Or.elim h (fun h => (Or.inr (Or.inr (Or.inr (Or.inr (Or.inr (Or.inr (Or.inl h)))))))) (fun h => Or.elim h (fun h => (Or.inr (Or.inr (Or.inr (Or.inr (Or.inr (Or.inr (Or.inr (Or.inl h))))))))) (fun h => Or.elim h (fun h => (Or.inr (Or.inr (Or.inr (Or.inr (Or.inr (Or.inr (Or.inr (Or.inr (Or.inl h)))))))))) (fun h => Or.elim h (fun h => (Or.inr (Or.inr (Or.inr (Or.inr (Or.inr (Or.inr (Or.inr (Or.inr (Or.inr (Or.inl h))))))))))) (fun h => Or.elim h (fun h => (Or.inr (Or.inr (Or.inr (Or.inr (Or.inr (Or.inr (Or.inr (Or.inr (Or.inr (Or.inr (Or.inl h)))))))))))) (fun h => Or.elim h (fun h => (Or.inr (Or.inr (Or.inr (Or.inr (Or.inr (Or.inr (Or.inr (Or.inr (Or.inr (Or.inr (Or.inr (Or.inl h))))))))))))) (fun h => (Or.inr (Or.inr (Or.inr (Or.inr (Or.inr (Or.inr (Or.inr (Or.inr (Or.inr (Or.inr (Or.inr (Or.inr (Or.inl h))))))))))))))))))))) (gm2) (fun r3 gr3 => ?_)
  refine zq_bind (fun r4 => ?_)
  refine zq_bind (fun r5 => ?_)
  exact q_X11_fillLake_40 m zF r4 r5 (0 : Int32) r3 (gr3)
abbrev p_X11_carveLake (k i j : Nat) : Prop := (k = 20 ∧ i = 33) ∨ (k = 4 ∧ i = 0 ∧ j = 5) ∨ (k = 20 ∧ i = 34) ∨ (k = 20 ∧ i = 35) ∨ (k = 4 ∧ i = 0 ∧ j = 4) ∨ (k = 30 ∧ i = 0) ∨ (k = 7 ∧ i = 0 ∧ j = 1) ∨ (k = 6 ∧ i < 11 ∧ j = 0) ∨ (k = 6 ∧ i < 11 ∧ j = 1) ∨ (k = 6 ∧ i < 11 ∧ j = 2) ∨ (k = 6 ∧ i < 11 ∧ j = 3) ∨ (k = 20 ∧ i < 33) ∨ (k = 7 ∧ i = 0 ∧ j = 2) ∨ (k = 2 ∧ i = 0 ∧ j = 3) ∨ (k = 2 ∧ i = 0 ∧ j = 4) ∨ (k = 20 ∧ i = 58) ∨ (k = 20 ∧ i = 57) ∨ (k = 20 ∧ i = 56) ∨ (k = 20 ∧ i = 0)
theorem q_X11_carveLake (x1 : Int32) (m : zM) : zFK (p_X11_carveLake) m (f_X11_carveLake x1 m) (fun a => a.2) := by
  unfold f_X11_carveLake
  refine zq_callx (q_X11_requireLake x1 m) (fun _ _ _ => (fun h => Or.elim h (fun h => (Or.inl h)) (fun h => Or.elim h (fun h => (Or.inr (Or.inl h))) (fun h => Or.elim h (fun h => (Or.inr (Or.inr (Or.inl h)))) (fun h => Or.elim h (fun h => (Or.inr (Or.inr (Or.inr (Or.inl h))))) (fun h => Or.elim h (fun h => (Or.inr (Or.inr (Or.inr (Or.inr (Or.inl h)))))) (fun h => (Or.inr (Or.inr (Or.inr (Or.inr (Or.inr (Or.inl h))))))))))))) (zFr.refl m) (fun _ _ => rfl) (fun r1 m2 gm2 => ?_)
  refine zq_call (q_X5_remember 0 m2) (fun _ _ _ => (fun h => Or.elim h (fun h => (Or.inr (Or.inr (Or.inr (Or.inr (Or.inr (Or.inr (Or.inl h)))))))) (fun h => Or.elim h (fun h => (Or.inr (Or.inr (Or.inr (Or.inr (Or.inr (Or.inr (Or.inr (Or.inl h))))))))) (fun h => Or.elim h (fun h => (Or.inr (Or.inr (Or.inr (Or.inr (Or.inr (Or.inr (Or.inr (Or.inr (Or.inl h)))))))))) (fun h => Or.elim h (fun h => (Or.inr (Or.inr (Or.inr (Or.inr (Or.inr (Or.inr (Or.inr (Or.inr (Or.inr (Or.inl h))))))))))) (fun h => Or.elim h (fun h => (Or.inr (Or.inr (Or.inr (Or.inr (Or.inr (Or.inr (Or.inr (Or.inr (Or.inr (Or.inr (Or.inl h)))))))))))) (fun h => Or.elim h (fun h => (Or.inr (Or.inr (Or.inr (Or.inr (Or.inr (Or.inr (Or.inr (Or.inr (Or.inr (Or.inr (Or.inr (Or.inl h))))))))))))) (fun h => (Or.inr (Or.inr (Or.inr (Or.inr (Or.inr (Or.inr (Or.inr (Or.inr (Or.inr (Or.inr (Or.inr (Or.inr (Or.inl h))))))))))))))))))))) (gm2) (fun r3 gr3 => ?_)
  refine zq_bind (fun r4 => ?_)
  refine zq_bind (fun r5 => ?_)
  refine zq_call (q_X0_plan 0 r5 r3) (fun _ _ _ => (fun h => Or.elim h (fun h => (Or.inr (Or.inr (Or.inr (Or.inr (Or.inr (Or.inr (Or.inr (Or.inr (Or.inr (Or.inr (Or.inr (Or.inr (Or.inr (Or.inl h))))))))))))))) (fun h => Or.elim h (fun h => (Or.inr (Or.inr (Or.inr (Or.inr (Or.inr (Or.inr (Or.inr (Or.inr (Or.inr (Or.inr (Or.inr (Or.inr (Or.inr (Or.inr (Or.inl h)))))))))))))))) (fun h => Or.elim h (fun h => (Or.inr (Or.inr (Or.inr (Or.inr (Or.inr (Or.inr (Or.inr (Or.inr (Or.inr (Or.inr (Or.inr (Or.inr (Or.inr (Or.inr (Or.inr (Or.inl h))))))))))))))))) (fun h => Or.elim h (fun h => (Or.inr (Or.inr (Or.inr (Or.inr (Or.inr (Or.inr (Or.inr (Or.inr (Or.inr (Or.inr (Or.inr (Or.inr (Or.inr (Or.inr (Or.inr (Or.inr (Or.inl h)))))))))))))))))) (fun h => (Or.inr (Or.inr (Or.inr (Or.inr (Or.inr (Or.inr (Or.inr (Or.inr (Or.inr (Or.inr (Or.inr (Or.inr (Or.inr (Or.inr (Or.inr (Or.inr (Or.inr (Or.inl h)))))))))))))))))))))))) (gr3) (fun r6 gr6 => ?_)
  refine zq_call (q_X0_carve 0 r6) (fun _ _ _ => (fun h => (Or.inr (Or.inr (Or.inr (Or.inr (Or.inr (Or.inr (Or.inr (Or.inr (Or.inr (Or.inr (Or.inr (Or.inr (Or.inr (Or.inr (Or.inr (Or.inr (Or.inr (Or.inr h)))))))))))))))))))) (gr6) (fun r7 gr7 => ?_)
  exact zq_some (gr7)
abbrev p_X11_carveWay (k i j : Nat) : Prop := (k = 2 ∧ i = 0 ∧ j = 3) ∨ (k = 2 ∧ i = 0 ∧ j = 4) ∨ (k = 20 ∧ i = 58) ∨ (k = 20 ∧ i = 57) ∨ (k = 20 ∧ i = 56)
theorem q_X11_carveWay (x1 : Int32) (x2 : Int32) (m : zM) : zFK (p_X11_carveWay) m (f_X11_carveWay x1 x2 m) (fun a => a.2) := by
  unfold f_X11_carveWay
  refine zq_callx (q_X11_requireCell x1 m) (fun _ _ _ h => h.elim) (zFr.refl m) (fun _ _ => rfl) (fun r1 m2 gm2 => ?_)
  refine zq_call (q_X0_plan 0 x1 m2) (fun _ _ _ => (fun h => Or.elim h (fun h => (Or.inl h)) (fun h => Or.elim h (fun h => (Or.inr (Or.inl h))) (fun h => Or.elim h (fun h => (Or.inr (Or.inr (Or.inl h)))) (fun h => Or.elim h (fun h => (Or.inr (Or.inr (Or.inr (Or.inl h))))) (fun h => (Or.inr (Or.inr (Or.inr (Or.inr h)))))))))) (gm2) (fun r3 gr3 => ?_)
  refine zq_if ?_ ?_
  · exact zq_some (gr3)
  · refine zq_if ?_ ?_
    · refine zq_bind (fun r6 => ?_)
      exact zq_some (gr3)
    · exact zq_some (gr3)
abbrev p_X11_surveyFlows (g1 : Nat) (k i j : Nat) : Prop := (k = 20 ∧ i = 33) ∨ (k = 4 ∧ i = 0 ∧ j = 5) ∨ (k = 20 ∧ i = 34) ∨ (k = 20 ∧ i = 35) ∨ (k = 4 ∧ i = 0 ∧ j = 4) ∨ (k = 30 ∧ i = 0) ∨ (k = 5 ∧ i = 0 ∧ j = 0) ∨ (k = 5 ∧ i = 0 ∧ j = 1) ∨ (k = 20 ∧ i = 36) ∨ (k = 20 ∧ i = 41) ∨ (k = 20 ∧ i = 40) ∨ (k = 20 ∧ i = 42) ∨ (k = 20 ∧ i = 43) ∨ (k = 20 ∧ i = 37) ∨ (k = 20 ∧ i = 38) ∨ (k = 20 ∧ i = 39)
theorem q_X11_surveyFlows (g1 : Nat) (m : zM) : zFK (p_X11_surveyFlows g1) m (f_X11_surveyFlows g1 m) id := by
  unfold f_X11_surveyFlows
  refine zq_call (q_X2_fill g1 m) (fun _ _ _ => (fun h => Or.elim h (fun h => (Or.inl h)) (fun h => Or.elim h (fun h => (Or.inr (Or.inl h))) (fun h => Or.elim h (fun h => (Or.inr (Or.inr (Or.inl h)))) (fun h => Or.elim h (fun h => (Or.inr (Or.inr (Or.inr (Or.inl h))))) (fun h => Or.elim h (fun h => (Or.inr (Or.inr (Or.inr (Or.inr (Or.inl h)))))) (fun h => (Or.inr (Or.inr (Or.inr (Or.inr (Or.inr (Or.inl h))))))))))))) (zFr.refl m) (fun r1 gr1 => ?_)
  refine zq_call (q_X3_trace g1 r1) (fun _ _ _ => (fun h => Or.elim h (fun h => (Or.inr (Or.inr (Or.inr (Or.inr (Or.inr (Or.inr (Or.inl h)))))))) (fun h => Or.elim h (fun h => (Or.inr (Or.inr (Or.inr (Or.inr (Or.inr (Or.inr (Or.inr (Or.inl h))))))))) (fun h => Or.elim h (fun h => (Or.inr (Or.inr (Or.inr (Or.inr (Or.inr (Or.inr (Or.inr (Or.inr (Or.inl h)))))))))) (fun h => Or.elim h (fun h => (Or.inr (Or.inr (Or.inr (Or.inr (Or.inr (Or.inr (Or.inr (Or.inr (Or.inr (Or.inl h))))))))))) (fun h => Or.elim h (fun h => (Or.inr (Or.inr (Or.inr (Or.inr (Or.inr (Or.inr (Or.inr (Or.inr (Or.inr (Or.inr (Or.inl h)))))))))))) (fun h => Or.elim h (fun h => (Or.inr (Or.inr (Or.inr (Or.inr (Or.inr (Or.inr (Or.inr (Or.inr (Or.inr (Or.inr (Or.inr (Or.inl h))))))))))))) (fun h => Or.elim h (fun h => (Or.inr (Or.inr (Or.inr (Or.inr (Or.inr (Or.inr (Or.inr (Or.inr (Or.inr (Or.inr (Or.inr (Or.inr (Or.inl h)))))))))))))) (fun h => Or.elim h (fun h => (Or.inr (Or.inr (Or.inr (Or.inr (Or.inr (Or.inr (Or.inr (Or.inr (Or.inr (Or.inr (Or.inr (Or.inr (Or.inr (Or.inl h))))))))))))))) (fun h => Or.elim h (fun h => (Or.inr (Or.inr (Or.inr (Or.inr (Or.inr (Or.inr (Or.inr (Or.inr (Or.inr (Or.inr (Or.inr (Or.inr (Or.inr (Or.inr (Or.inl h)))))))))))))))) (fun h => (Or.inr (Or.inr (Or.inr (Or.inr (Or.inr (Or.inr (Or.inr (Or.inr (Or.inr (Or.inr (Or.inr (Or.inr (Or.inr (Or.inr (Or.inr h)))))))))))))))))))))))))) (gr1) (fun r2 gr2 => ?_)
  exact zq_some (gr2)
abbrev p_X11_surveyWaters (g1 : Nat) (k i j : Nat) : Prop := (k = 20 ∧ i = 33) ∨ (k = 4 ∧ i = 0 ∧ j = 5) ∨ (k = 20 ∧ i = 34) ∨ (k = 20 ∧ i = 35) ∨ (k = 4 ∧ i = 0 ∧ j = 4) ∨ (k = 30 ∧ i = 0) ∨ (k = 5 ∧ i = 0 ∧ j = 0) ∨ (k = 5 ∧ i = 0 ∧ j = 1) ∨ (k = 20 ∧ i = 36) ∨ (k = 20 ∧ i = 41) ∨ (k = 20 ∧ i = 40) ∨ (k = 20 ∧ i = 42) ∨ (k = 20 ∧ i = 43) ∨ (k = 20 ∧ i = 37) ∨ (k = 20 ∧ i = 38) ∨ (k = 20 ∧ i = 39) ∨ (k = 20 ∧ i = 44) ∨ (k = 20 ∧ i = 45) ∨ (k = 20 ∧ i = 46) ∨ (k = 20 ∧ i = 47)
theorem q_X11_surveyWaters (g1 : Nat) (m : zM) : zFK (p_X11_surveyWaters g1) m (f_X11_surveyWaters g1 m) id := by
  unfold f_X11_surveyWaters
  refine zq_call (q_X2_fill g1 m) (fun _ _ _ => (fun h => Or.elim h (fun h => (Or.inl h)) (fun h => Or.elim h (fun h => (Or.inr (Or.inl h))) (fun h => Or.elim h (fun h => (Or.inr (Or.inr (Or.inl h)))) (fun h => Or.elim h (fun h => (Or.inr (Or.inr (Or.inr (Or.inl h))))) (fun h => Or.elim h (fun h => (Or.inr (Or.inr (Or.inr (Or.inr (Or.inl h)))))) (fun h => (Or.inr (Or.inr (Or.inr (Or.inr (Or.inr (Or.inl h))))))))))))) (zFr.refl m) (fun r1 gr1 => ?_)
  refine zq_call (q_X3_trace g1 r1) (fun _ _ _ => (fun h => Or.elim h (fun h => (Or.inr (Or.inr (Or.inr (Or.inr (Or.inr (Or.inr (Or.inl h)))))))) (fun h => Or.elim h (fun h => (Or.inr (Or.inr (Or.inr (Or.inr (Or.inr (Or.inr (Or.inr (Or.inl h))))))))) (fun h => Or.elim h (fun h => (Or.inr (Or.inr (Or.inr (Or.inr (Or.inr (Or.inr (Or.inr (Or.inr (Or.inl h)))))))))) (fun h => Or.elim h (fun h => (Or.inr (Or.inr (Or.inr (Or.inr (Or.inr (Or.inr (Or.inr (Or.inr (Or.inr (Or.inl h))))))))))) (fun h => Or.elim h (fun h => (Or.inr (Or.inr (Or.inr (Or.inr (Or.inr (Or.inr (Or.inr (Or.inr (Or.inr (Or.inr (Or.inl h)))))))))))) (fun h => Or.elim h (fun h => (Or.inr (Or.inr (Or.inr (Or.inr (Or.inr (Or.inr (Or.inr (Or.inr (Or.inr (Or.inr (Or.inr (Or.inl h))))))))))))) (fun h => Or.elim h (fun h => (Or.inr (Or.inr (Or.inr (Or.inr (Or.inr (Or.inr (Or.inr (Or.inr (Or.inr (Or.inr (Or.inr (Or.inr (Or.inl h)))))))))))))) (fun h => Or.elim h (fun h => (Or.inr (Or.inr (Or.inr (Or.inr (Or.inr (Or.inr (Or.inr (Or.inr (Or.inr (Or.inr (Or.inr (Or.inr (Or.inr (Or.inl h))))))))))))))) (fun h => Or.elim h (fun h => (Or.inr (Or.inr (Or.inr (Or.inr (Or.inr (Or.inr (Or.inr (Or.inr (Or.inr (Or.inr (Or.inr (Or.inr (Or.inr (Or.inr (Or.inl h)))))))))))))))) (fun h => (Or.inr (Or.inr (Or.inr (Or.inr (Or.inr (Or.inr (Or.inr (Or.inr (Or.inr (Or.inr (Or.inr (Or.inr (Or.inr (Or.inr (Or.inr (Or.inl h))))))))))))))))))))))))))) (gr1) (fun r2 gr2 => ?_)
  refine zq_call (q_X10_run g1 r2) (fun _ _ _ => (fun h => Or.elim h (fun h => (Or.inr (Or.inr (Or.inr (Or.inr (Or.inr (Or.inr (Or.inr (Or.inr (Or.inr (Or.inr (Or.inr (Or.inr (Or.inr (Or.inr (Or.inr (Or.inr (Or.inl h)))))))))))))))))) (fun h => Or.elim h (fun h => (Or.inr (Or.inr (Or.inr (Or.inr (Or.inr (Or.inr (Or.inr (Or.inr (Or.inr (Or.inr (Or.inr (Or.inr (Or.inr (Or.inr (Or.inr (Or.inr (Or.inr (Or.inl h))))))))))))))))))) (fun h => Or.elim h (fun h => (Or.inr (Or.inr (Or.inr (Or.inr (Or.inr (Or.inr (Or.inr (Or.inr (Or.inr (Or.inr (Or.inr (Or.inr (Or.inr (Or.inr (Or.inr (Or.inr (Or.inr (Or.inr (Or.inl h)))))))))))))))))))) (fun h => (Or.inr (Or.inr (Or.inr (Or.inr (Or.inr (Or.inr (Or.inr (Or.inr (Or.inr (Or.inr (Or.inr (Or.inr (Or.inr (Or.inr (Or.inr (Or.inr (Or.inr (Or.inr (Or.inr h)))))))))))))))))))))))) (gr2) (fun r3 gr3 => ?_)
  exact zq_some (gr3)
abbrev p_X11_surveyStreams (k i j : Nat) : Prop := (k = 20 ∧ i = 33) ∨ (k = 4 ∧ i = 0 ∧ j = 5) ∨ (k = 20 ∧ i = 34) ∨ (k = 20 ∧ i = 35) ∨ (k = 4 ∧ i = 0 ∧ j = 4) ∨ (k = 30 ∧ i = 0) ∨ (k = 5 ∧ i = 0 ∧ j = 0) ∨ (k = 5 ∧ i = 0 ∧ j = 1) ∨ (k = 20 ∧ i = 36) ∨ (k = 20 ∧ i = 41) ∨ (k = 20 ∧ i = 40) ∨ (k = 20 ∧ i = 42) ∨ (k = 20 ∧ i = 43) ∨ (k = 20 ∧ i = 37) ∨ (k = 20 ∧ i = 38) ∨ (k = 20 ∧ i = 39) ∨ (k = 20 ∧ i = 44) ∨ (k = 20 ∧ i = 45) ∨ (k = 20 ∧ i = 46) ∨ (k = 20 ∧ i = 47) ∨ (k = 9 ∧ i = 0 ∧ j = 0) ∨ (k = 20 ∧ i = 48) ∨ (k = 20 ∧ i = 49) ∨ (k = 20 ∧ i = 50) ∨ (k = 20 ∧ i = 51) ∨ (k = 20 ∧ i = 55) ∨ (k = 9 ∧ i = 0 ∧ j = 6) ∨ (k = 20 ∧ i = 52) ∨ (k = 20 ∧ i = 53) ∨ (k = 20 ∧ i = 54)
theorem q_X11_surveyStreams (m : zM) : zFK (p_X11_surveyStreams) m (f_X11_surveyStreams m) id := by
  unfold f_X11_surveyStreams
  refine zq_call (q_X2_fill 0 m) (fun _ _ _ => (fun h => Or.elim h (fun h => (Or.inl h)) (fun h => Or.elim h (fun h => (Or.inr (Or.inl h))) (fun h => Or.elim h (fun h => (Or.inr (Or.inr (Or.inl h)))) (fun h => Or.elim h (fun h => (Or.inr (Or.inr (Or.inr (Or.inl h))))) (fun h => Or.elim h (fun h => (Or.inr (Or.inr (Or.inr (Or.inr (Or.inl h)))))) (fun h => (Or.inr (Or.inr (Or.inr (Or.inr (Or.inr (Or.inl h))))))))))))) (zFr.refl m) (fun r1 gr1 => ?_)
  refine zq_call (q_X3_trace 0 r1) (fun _ _ _ => (fun h => Or.elim h (fun h => (Or.inr (Or.inr (Or.inr (Or.inr (Or.inr (Or.inr (Or.inl h)))))))) (fun h => Or.elim h (fun h => (Or.inr (Or.inr (Or.inr (Or.inr (Or.inr (Or.inr (Or.inr (Or.inl h))))))))) (fun h => Or.elim h (fun h => (Or.inr (Or.inr (Or.inr (Or.inr (Or.inr (Or.inr (Or.inr (Or.inr (Or.inl h)))))))))) (fun h => Or.elim h (fun h => (Or.inr (Or.inr (Or.inr (Or.inr (Or.inr (Or.inr (Or.inr (Or.inr (Or.inr (Or.inl h))))))))))) (fun h => Or.elim h (fun h => (Or.inr (Or.inr (Or.inr (Or.inr (Or.inr (Or.inr (Or.inr (Or.inr (Or.inr (Or.inr (Or.inl h)))))))))))) (fun h => Or.elim h (fun h => (Or.inr (Or.inr (Or.inr (Or.inr (Or.inr (Or.inr (Or.inr (Or.inr (Or.inr (Or.inr (Or.inr (Or.inl h))))))))))))) (fun h => Or.elim h (fun h => (Or.inr (Or.inr (Or.inr (Or.inr (Or.inr (Or.inr (Or.inr (Or.inr (Or.inr (Or.inr (Or.inr (Or.inr (Or.inl h)))))))))))))) (fun h => Or.elim h (fun h => (Or.inr (Or.inr (Or.inr (Or.inr (Or.inr (Or.inr (Or.inr (Or.inr (Or.inr (Or.inr (Or.inr (Or.inr (Or.inr (Or.inl h))))))))))))))) (fun h => Or.elim h (fun h => (Or.inr (Or.inr (Or.inr (Or.inr (Or.inr (Or.inr (Or.inr (Or.inr (Or.inr (Or.inr (Or.inr (Or.inr (Or.inr (Or.inr (Or.inl h)))))))))))))))) (fun h => (Or.inr (Or.inr (Or.inr (Or.inr (Or.inr (Or.inr (Or.inr (Or.inr (Or.inr (Or.inr (Or.inr (Or.inr (Or.inr (Or.inr (Or.inr (Or.inl h))))))))))))))))))))))))))) (gr1) (fun r2 gr2 => ?_)
  refine zq_call (q_X10_run 0 r2) (fun _ _ _ => (fun h => Or.elim h (fun h => (Or.inr (Or.inr (Or.inr (Or.inr (Or.inr (Or.inr (Or.inr (Or.inr (Or.inr (Or.inr (Or.inr (Or.inr (Or.inr (Or.inr (Or.inr (Or.inr (Or.inl h)))))))))))))))))) (fun h => Or.elim h (fun h => (Or.inr (Or.inr (Or.inr (Or.inr (Or.inr (Or.inr (Or.inr (Or.inr (Or.inr (Or.inr (Or.inr (Or.inr (Or.inr (Or.inr (Or.inr (Or.inr (Or.inr (Or.inl h))))))))))))))))))) (fun h => Or.elim h (fun h => (Or.inr (Or.inr (Or.inr (Or.inr (Or.inr (Or.inr (Or.inr (Or.inr (Or.inr (Or.inr (Or.inr (Or.inr (Or.inr (Or.inr (Or.inr (Or.inr (Or.inr (Or.inr (Or.inl h)))))))))))))))))))) (fun h => (Or.inr (Or.inr (Or.inr (Or.inr (Or.inr (Or.inr (Or.inr (Or.inr (Or.inr (Or.inr (Or.inr (Or.inr (Or.inr (Or.inr (Or.inr (Or.inr (Or.inr (Or.inr (Or.inr (Or.inl h))))))))))))))))))))))))) (gr2) (fun r3 gr3 => ?_)
  refine zq_call (q_X8_find 0 r3) (fun _ _ _ => (fun h => Or.elim h (fun h => (Or.inr (Or.inr (Or.inr (Or.inr (Or.inr (Or.inr (Or.inr (Or.inr (Or.inr (Or.inr (Or.inr (Or.inr (Or.inr (Or.inr (Or.inr (Or.inr (Or.inr (Or.inr (Or.inr (Or.inr (Or.inl h)))))))))))))))))))))) (fun h => Or.elim h (fun h => (Or.inr (Or.inr (Or.inr (Or.inr (Or.inr (Or.inr (Or.inr (Or.inr (Or.inr (Or.inr (Or.inr (Or.inr (Or.inr (Or.inr (Or.inr (Or.inr (Or.inr (Or.inr (Or.inr (Or.inr (Or.inr (Or.inl h))))))))))))))))))))))) (fun h => Or.elim h (fun h => (Or.inr (Or.inr (Or.inr (Or.inr (Or.inr (Or.inr (Or.inr (Or.inr (Or.inr (Or.inr (Or.inr (Or.inr (Or.inr (Or.inr (Or.inr (Or.inr (Or.inr (Or.inr (Or.inr (Or.inr (Or.inr (Or.inr (Or.inl h)))))))))))))))))))))))) (fun h => Or.elim h (fun h => (Or.inr (Or.inr (Or.inr (Or.inr (Or.inr (Or.inr (Or.inr (Or.inr (Or.inr (Or.inr (Or.inr (Or.inr (Or.inr (Or.inr (Or.inr (Or.inr (Or.inr (Or.inr (Or.inr (Or.inr (Or.inr (Or.inr (Or.inr (Or.inl h))))))))))))))))))))))))) (fun h => Or.elim h (fun h => (Or.inr (Or.inr (Or.inr (Or.inr (Or.inr (Or.inr (Or.inr (Or.inr (Or.inr (Or.inr (Or.inr (Or.inr (Or.inr (Or.inr (Or.inr (Or.inr (Or.inr (Or.inr (Or.inr (Or.inr (Or.inr (Or.inr (Or.inr (Or.inr (Or.inl h)))))))))))))))))))))))))) (fun h => Or.elim h (fun h => (Or.inr (Or.inr (Or.inr (Or.inr (Or.inr (Or.inr (Or.inr (Or.inr (Or.inr (Or.inr (Or.inr (Or.inr (Or.inr (Or.inr (Or.inr (Or.inr (Or.inr (Or.inr (Or.inr (Or.inr (Or.inr (Or.inr (Or.inr (Or.inr (Or.inr (Or.inl h))))))))))))))))))))))))))) (fun h => Or.elim h (fun h => (Or.inr (Or.inr (Or.inr (Or.inr (Or.inr (Or.inr (Or.inr (Or.inr (Or.inr (Or.inr (Or.inr (Or.inr (Or.inr (Or.inr (Or.inr (Or.inr (Or.inr (Or.inr (Or.inr (Or.inr (Or.inr (Or.inr (Or.inr (Or.inr (Or.inr (Or.inr (Or.inl h)))))))))))))))))))))))))))) (fun h => Or.elim h (fun h => (Or.inr (Or.inr (Or.inr (Or.inr (Or.inr (Or.inr (Or.inr (Or.inr (Or.inr (Or.inr (Or.inr (Or.inr (Or.inr (Or.inr (Or.inr (Or.inr (Or.inr (Or.inr (Or.inr (Or.inr (Or.inr (Or.inr (Or.inr (Or.inr (Or.inr (Or.inr (Or.inr (Or.inl h))))))))))))))))))))))))))))) (fun h => Or.elim h (fun h => (Or.inr (Or.inr (Or.inr (Or.inr (Or.inr (Or.inr (Or.inr (Or.inr (Or.inr (Or.inr (Or.inr (Or.inr (Or.inr (Or.inr (Or.inr (Or.inr (Or.inr (Or.inr (Or.inr (Or.inr (Or.inr (Or.inr (Or.inr (Or.inr (Or.inr (Or.inr (Or.inr (Or.inr (Or.inl h)))))))))))))))))))))))))))))) (fun h => (Or.inr (Or.inr (Or.inr (Or.inr (Or.inr (Or.inr (Or.inr (Or.inr (Or.inr (Or.inr (Or.inr (Or.inr (Or.inr (Or.inr (Or.inr (Or.inr (Or.inr (Or.inr (Or.inr (Or.inr (Or.inr (Or.inr (Or.inr (Or.inr (Or.inr (Or.inr (Or.inr (Or.inr (Or.inr h)))))))))))))))))))))))))))))))))))))))) (gr3) (fun r4 gr4 => ?_)
  exact zq_some (gr4)
abbrev p_X12_count (k i j : Nat) : Prop := (k = 13 ∧ i = 0 ∧ j = 0) ∨ (k = 20 ∧ i = 59) ∨ (k = 20 ∧ i = 61) ∨ (k = 20 ∧ i = 62) ∨ (k = 20 ∧ i = 60) ∨ (k = 13 ∧ i = 0 ∧ j = 18) ∨ (k = 20 ∧ i = 66) ∨ (k = 20 ∧ i = 65) ∨ (k = 20 ∧ i = 63) ∨ (k = 20 ∧ i = 64) ∨ (k = 13 ∧ i = 0 ∧ j = 21) ∨ (k = 13 ∧ i = 0 ∧ j = 20) ∨ (k = 21 ∧ i = 4) ∨ (k = 31 ∧ i = 3) ∨ (k = 21 ∧ i = 3) ∨ (k = 21 ∧ i = 5) ∨ (k = 31 ∧ i = 2)
theorem q_X12_count_109 (m0 : zM) : ∀ (j : Nat) (x2 : Int32) (x3 : Int32) (m : zM), zFr (p_X12_count) m0 m → zFK (p_X12_count) m0 (f_X12_count_109 j x2 x3 m) (fun a => a.2) := by
  intro j
  induction j with
  | zero =>
    intro _ _ _ _
    exact zq_none
  | succ j ih =>
    intro x2 x3 m hm
    unfold f_X12_count_109
    refine zq_bind (fun r1 => ?_)
    refine zq_if ?_ ?_
    · exact zq_some (hm)
    · refine zq_bind (fun r3 => ?_)
      refine zq_if ?_ ?_
      · exact ih x2 (x3 + (1 : Int32)) m (hm)
      · exact ih (x2 + (1 : Int32)) (x3 + (1 : Int32)) m (hm)
theorem q_X12_count_160 (m0 : zM) : ∀ (j : Nat) (x2 : Int32) (x3 : Int32) (m : zM), zFr (p_X12_count) m0 m → zFK (p_X12_count) m0 (f_X12_count_160 j x2 x3 m) (fun a => a.2) := by
  intro j
  induction j with
  | zero =>
    intro _ _ _ _
    exact zq_none
  | succ j ih =>
    intro x2 x3 m hm
    unfold f_X12_count_160
    refine zq_bind (fun r1 => ?_)
    refine zq_if ?_ ?_
    · exact zq_some (hm)
    · refine zq_gd ?_
      refine zq_if ?_ ?_
      · exact ih x2 (x3 + (1 : Int32)) m (hm)
      · exact ih (x2 + (1 : Int32)) (x3 + (1 : Int32)) m (hm)
theorem q_X12_count (x1 : Int32) (m : zM) : zFK (p_X12_count) m (f_X12_count x1 m) (fun a => a.2) := by
  unfold f_X12_count
  refine zq_if ?_ ?_
  · refine zq_gd ?_
    exact zq_some (zFr.sI (zFr.refl m) _ (Or.inl ⟨rfl, rfl, rfl⟩))
  refine zq_if ?_ ?_
  · refine zq_gd ?_
    exact zq_some (zFr.sI (zFr.refl m) _ (Or.inl ⟨rfl, rfl, rfl⟩))
  refine zq_if ?_ ?_
  · refine zq_bind (fun r3 => ?_)
    exact zq_some (zFr.sI (zFr.refl m) _ (Or.inl ⟨rfl, rfl, rfl⟩))
  refine zq_if ?_ ?_
  · refine zq_gd ?_
    exact zq_some (zFr.sI (zFr.refl m) _ (Or.inl ⟨rfl, rfl, rfl⟩))
  refine zq_if ?_ ?_
  · refine zq_call (q_X12_lakes (z_sI m 13 0 0 (0 : Int32))) (fun _ _ _ => (fun h => Or.elim h (fun h => (Or.inr (Or.inl h))) (fun h => Or.elim h (fun h => (Or.inr (Or.inr (Or.inl h)))) (fun h => Or.elim h (fun h => (Or.inr (Or.inr (Or.inr (Or.inl h))))) (fun h => Or.elim h (fun h => (Or.inr (Or.inr (Or.inr (Or.inr (Or.inl h)))))) (fun h => Or.elim h (fun h => (Or.inr (Or.inr (Or.inr (Or.inr (Or.inr (Or.inl h))))))) (fun h => Or.elim h (fun h => (Or.inr (Or.inr (Or.inr (Or.inr (Or.inr (Or.inr (Or.inl h)))))))) (fun h => (Or.inr (Or.inr (Or.inr (Or.inr (Or.inr (Or.inr (Or.inr (Or.inl h)))))))))))))))) (zFr.sI (zFr.refl m) _ (Or.inl ⟨rfl, rfl, rfl⟩)) (fun r5 gr5 => ?_)
    exact zq_some (gr5)
  refine zq_if ?_ ?_
  · refine zq_call (q_X12_waters (z_sI m 13 0 0 (0 : Int32))) (fun _ _ _ => (fun h => Or.elim h (fun h => (Or.inr (Or.inl h))) (fun h => Or.elim h (fun h => (Or.inr (Or.inr (Or.inl h)))) (fun h => Or.elim h (fun h => (Or.inr (Or.inr (Or.inr (Or.inl h))))) (fun h => Or.elim h (fun h => (Or.inr (Or.inr (Or.inr (Or.inr (Or.inl h)))))) (fun h => (Or.inr (Or.inr (Or.inr (Or.inr (Or.inr (Or.inr (Or.inr (Or.inr (Or.inl h))))))))))))))) (zFr.sI (zFr.refl m) _ (Or.inl ⟨rfl, rfl, rfl⟩)) (fun r6 gr6 => ?_)
    exact q_X12_count_109 m zF (0 : Int32) (0 : Int32) r6 (gr6)
  refine zq_if ?_ ?_
  · refine zq_call (q_X12_streams (z_sI m 13 0 0 (0 : Int32))) (fun _ _ _ => (fun h => Or.elim h (fun h => (Or.inr (Or.inl h))) (fun h => Or.elim h (fun h => (Or.inr (Or.inr (Or.inl h)))) (fun h => Or.elim h (fun h => (Or.inr (Or.inr (Or.inr (Or.inl h))))) (fun h => Or.elim h (fun h => (Or.inr (Or.inr (Or.inr (Or.inr (Or.inl h)))))) (fun h => Or.elim h (fun h => (Or.inr (Or.inr (Or.inr (Or.inr (Or.inr (Or.inr (Or.inr (Or.inr (Or.inl h)))))))))) (fun h => Or.elim h (fun h => (Or.inr (Or.inr (Or.inr (Or.inr (Or.inr (Or.inl h))))))) (fun h => Or.elim h (fun h => (Or.inr (Or.inr (Or.inr (Or.inr (Or.inr (Or.inr (Or.inr (Or.inl h))))))))) (fun h => (Or.inr (Or.inr (Or.inr (Or.inr (Or.inr (Or.inr (Or.inr (Or.inr (Or.inr (Or.inl h))))))))))))))))))) (zFr.sI (zFr.refl m) _ (Or.inl ⟨rfl, rfl, rfl⟩)) (fun r7 gr7 => ?_)
    exact zq_some (gr7)
  refine zq_if ?_ ?_
  · refine zq_call (q_X12_depressions (z_sI m 13 0 0 (0 : Int32))) (fun _ _ _ => (fun h => Or.elim h (fun h => (Or.inr (Or.inr (Or.inr (Or.inr (Or.inr (Or.inr (Or.inr (Or.inr (Or.inr (Or.inr (Or.inl h)))))))))))) (fun h => Or.elim h (fun h => (Or.inr (Or.inr (Or.inr (Or.inr (Or.inr (Or.inr (Or.inr (Or.inr (Or.inr (Or.inr (Or.inr (Or.inl h))))))))))))) (fun h => Or.elim h (fun h => (Or.inr (Or.inr (Or.inr (Or.inr (Or.inr (Or.inr (Or.inl h)))))))) (fun h => Or.elim h (fun h => (Or.inr (Or.inr (Or.inr (Or.inr (Or.inr (Or.inr (Or.inr (Or.inr (Or.inr (Or.inr (Or.inr (Or.inr (Or.inl h)))))))))))))) (fun h => Or.elim h (fun h => (Or.inr (Or.inr (Or.inr (Or.inr (Or.inr (Or.inr (Or.inr (Or.inr (Or.inr (Or.inr (Or.inr (Or.inr (Or.inr (Or.inl h))))))))))))))) (fun h => Or.elim h (fun h => (Or.inr (Or.inr (Or.inr (Or.inr (Or.inr (Or.inr (Or.inr (Or.inr (Or.inr (Or.inr (Or.inr (Or.inr (Or.inr (Or.inr (Or.inl h)))))))))))))))) (fun h => Or.elim h (fun h => (Or.inr (Or.inr (Or.inr (Or.inr (Or.inr (Or.inr (Or.inr (Or.inr (Or.inr (Or.inr (Or.inr (Or.inr (Or.inr (Or.inr (Or.inr (Or.inl h))))))))))))))))) (fun h => (Or.inr (Or.inr (Or.inr (Or.inr (Or.inr (Or.inr (Or.inr (Or.inr (Or.inr (Or.inr (Or.inr (Or.inr (Or.inr (Or.inr (Or.inr (Or.inr h))))))))))))))))))))))))) (zFr.sI (zFr.refl m) _ (Or.inl ⟨rfl, rfl, rfl⟩)) (fun r8 gr8 => ?_)
    exact zq_some (gr8)
  refine zq_if ?_ ?_
  · refine zq_call (q_X12_looks (z_sI m 13 0 0 (0 : Int32))) (fun _ _ _ => (fun h => Or.elim h (fun h => (Or.inr (Or.inl h))) (fun h => Or.elim h (fun h => (Or.inr (Or.inr (Or.inl h)))) (fun h => Or.elim h (fun h => (Or.inr (Or.inr (Or.inr (Or.inl h))))) (fun h => (Or.inr (Or.inr (Or.inr (Or.inr (Or.inl h)))))))))) (zFr.sI (zFr.refl m) _ (Or.inl ⟨rfl, rfl, rfl⟩)) (fun r9 gr9 => ?_)
    exact q_X12_count_160 m zF (0 : Int32) (0 : Int32) r9 (gr9)
  refine zq_if ?_ ?_
  · exact zq_some (zFr.sI (zFr.refl m) _ (Or.inl ⟨rfl, rfl, rfl⟩))
  refine zq_if ?_ ?_
  · exact zq_some (zFr.sI (zFr.refl m) _ (Or.inl ⟨rfl, rfl, rfl⟩))
  · refine zq_call (q_X12_raises (1 : Int32) (z_sI m 13 0 0 (0 : Int32))) (fun _ _ _ => (fun h => (Or.inl h))) (zFr.sI (zFr.refl m) _ (Or.inl ⟨rfl, rfl, rfl⟩)) (fun r10 gr10 => ?_)
    exact zq_some (gr10)
abbrev p_X12_lake (k i j : Nat) : Prop := (k = 13 ∧ i = 0 ∧ j = 0) ∨ (k = 20 ∧ i = 59) ∨ (k = 20 ∧ i = 61) ∨ (k = 20 ∧ i = 62) ∨ (k = 20 ∧ i = 60) ∨ (k = 13 ∧ i = 0 ∧ j = 18) ∨ (k = 20 ∧ i = 66) ∨ (k = 20 ∧ i = 65) ∨ (k = 13 ∧ i = 0 ∧ j = 30) ∨ (k = 13 ∧ i = 0 ∧ j = 29) ∨ (k = 27 ∧ i = 0) ∨ (k = 26 ∧ i = 0)
theorem q_X12_lake_73 (m0 : zM) : ∀ (j : Nat) (x1 : Int32) (x3 : Int32) (x4 : Int32) (m : zM), zFr (p_X12_lake) m0 m → zFK (p_X12_lake) m0 (f_X12_lake_73 j x1 x3 x4 m) (fun a => a.2) := by
  intro j
  induction j with
  | zero =>
    intro _ _ _ _ _
    exact zq_none
  | succ j ih =>
    intro x1 x3 x4 m hm
    unfold f_X12_lake_73
    refine zq_bind (fun r1 => ?_)
    refine zq_if ?_ ?_
    · exact zq_some (hm)
    · refine zq_gd ?_
      refine zq_if ?_ ?_
      · exact ih x1 (x3 + (1 : Int32)) (x4 + (1 : Int32)) m (hm)
      · exact ih x1 x3 (x4 + (1 : Int32)) m (hm)
theorem q_X12_lake_148 (m0 : zM) : ∀ (j : Nat) (x1 : Int32) (x4 : Int32) (m : zM), zFr (p_X12_lake) m0 m → zFK (p_X12_lake) m0 (f_X12_lake_148 j x1 x4 m) (fun a => a.2) := by
  intro j
  induction j with
  | zero =>
    intro _ _ _ _
    exact zq_none
  | succ j ih =>
    intro x1 x4 m hm
    unfold f_X12_lake_148
    refine zq_gd ?_
    refine zq_if ?_ ?_
    · refine zq_bind (fun r3 => ?_)
      exact ih x1 r3 m (hm)
    · exact zq_some (hm)
theorem q_X12_lake (x1 : Int32) (x2 : Int32) (m : zM) : zFK (p_X12_lake) m (f_X12_lake x1 x2 m) (fun a => a.2) := by
  unfold f_X12_lake
  refine zq_call (q_X12_isLake x1 (z_sI m 13 0 0 (0 : Int32))) (fun _ _ _ => (fun h => Or.elim h (fun h => (Or.inr (Or.inl h))) (fun h => Or.elim h (fun h => (Or.inr (Or.inr (Or.inl h)))) (fun h => Or.elim h (fun h => (Or.inr (Or.inr (Or.inr (Or.inl h))))) (fun h => Or.elim h (fun h => (Or.inr (Or.inr (Or.inr (Or.inr (Or.inl h)))))) (fun h => Or.elim h (fun h => (Or.inr (Or.inr (Or.inr (Or.inr (Or.inr (Or.inl h))))))) (fun h => Or.elim h (fun h => (Or.inr (Or.inr (Or.inr (Or.inr (Or.inr (Or.inr (Or.inl h)))))))) (fun h => (Or.inr (Or.inr (Or.inr (Or.inr (Or.inr (Or.inr (Or.inr (Or.inl h)))))))))))))))) (zFr.sI (zFr.refl m) _ (Or.inl ⟨rfl, rfl, rfl⟩)) (fun r1 gr1 => ?_)
  refine zq_if ?_ ?_
  · refine zq_call (q_X12_raises (1 : Int32) r1.2) (fun _ _ _ => (fun h => (Or.inl h))) (gr1) (fun r3 gr3 => ?_)
    exact zq_some (gr3)
  · refine zq_if ?_ ?_
    · refine zq_bind (fun r4 => ?_)
      exact zq_some (gr1)
    refine zq_if ?_ ?_
    · exact q_X12_lake_73 m zF x1 (0 : Int32) (0 : Int32) r1.2 (gr1)
    refine zq_if ?_ ?_
    · refine zq_bind (fun r5 => ?_)
      refine zq_gd ?_
      exact zq_some (gr1)
    refine zq_if ?_ ?_
    · refine zq_bind (fun r7 => ?_)
      exact zq_some (gr1)
    refine zq_if ?_ ?_
    · refine zq_bind (fun r8 => ?_)
      exact zq_some (gr1)
    refine zq_if ?_ ?_
    · refine zq_bind (fun r9 => ?_)
      refine zq_call (q_X12_bestWay r9 r1.2) (fun _ _ _ => (fun h => Or.elim h (fun h => (Or.inr (Or.inr (Or.inr (Or.inr (Or.inr (Or.inr (Or.inr (Or.inr (Or.inl h)))))))))) (fun h => Or.elim h (fun h => (Or.inr (Or.inr (Or.inr (Or.inr (Or.inr (Or.inr (Or.inr (Or.inr (Or.inr (Or.inl h))))))))))) (fun h => Or.elim h (fun h => (Or.inr (Or.inr (Or.inr (Or.inr (Or.inr (Or.inr (Or.inr (Or.inr (Or.inr (Or.inr (Or.inl h)))))))))))) (fun h => (Or.inr (Or.inr (Or.inr (Or.inr (Or.inr (Or.inr (Or.inr (Or.inr (Or.inr (Or.inr (Or.inr h)))))))))))))))) (gr1) (fun r10 gr10 => ?_)
      exact zq_some (gr10)
    refine zq_if ?_ ?_
    · refine zq_bind (fun r11 => ?_)
      exact q_X12_lake_148 m zF x1 r11 r1.2 (gr1)
    · refine zq_call (q_X12_raises (2 : Int32) r1.2) (fun _ _ _ => (fun h => (Or.inl h))) (gr1) (fun r12 gr12 => ?_)
      exact zq_some (gr12)
abbrev p_X12_remedy (k i j : Nat) : Prop := (k = 13 ∧ i = 0 ∧ j = 0) ∨ (k = 20 ∧ i = 59) ∨ (k = 20 ∧ i = 61) ∨ (k = 20 ∧ i = 62) ∨ (k = 20 ∧ i = 60) ∨ (k = 13 ∧ i = 0 ∧ j = 18) ∨ (k = 20 ∧ i = 66) ∨ (k = 20 ∧ i = 65) ∨ (k = 13 ∧ i = 0 ∧ j = 30) ∨ (k = 13 ∧ i = 0 ∧ j = 29) ∨ (k = 27 ∧ i = 0) ∨ (k = 26 ∧ i = 0)
theorem q_X12_remedy (x1 : Int32) (m : zM) : zFK (p_X12_remedy) m (f_X12_remedy x1 m) (fun a => a.2) := by
  unfold f_X12_remedy
  refine zq_call (q_X12_isLake x1 (z_sI m 13 0 0 (0 : Int32))) (fun _ _ _ => (fun h => Or.elim h (fun h => (Or.inr (Or.inl h))) (fun h => Or.elim h (fun h => (Or.inr (Or.inr (Or.inl h)))) (fun h => Or.elim h (fun h => (Or.inr (Or.inr (Or.inr (Or.inl h))))) (fun h => Or.elim h (fun h => (Or.inr (Or.inr (Or.inr (Or.inr (Or.inl h)))))) (fun h => Or.elim h (fun h => (Or.inr (Or.inr (Or.inr (Or.inr (Or.inr (Or.inl h))))))) (fun h => Or.elim h (fun h => (Or.inr (Or.inr (Or.inr (Or.inr (Or.inr (Or.inr (Or.inl h)))))))) (fun h => (Or.inr (Or.inr (Or.inr (Or.inr (Or.inr (Or.inr (Or.inr (Or.inl h)))))))))))))))) (zFr.sI (zFr.refl m) _ (Or.inl ⟨rfl, rfl, rfl⟩)) (fun r1 gr1 => ?_)
  refine zq_if ?_ ?_
  · refine zq_call (q_X12_raises (1 : Int32) r1.2) (fun _ _ _ => (fun h => (Or.inl h))) (gr1) (fun r3 gr3 => ?_)
    exact zq_some (gr3)
  · refine zq_bind (fun r4 => ?_)
    refine zq_call (q_X12_bestWay r4 r1.2) (fun _ _ _ => (fun h => Or.elim h (fun h => (Or.inr (Or.inr (Or.inr (Or.inr (Or.inr (Or.inr (Or.inr (Or.inr (Or.inl h)))))))))) (fun h => Or.elim h (fun h => (Or.inr (Or.inr (Or.inr (Or.inr (Or.inr (Or.inr (Or.inr (Or.inr (Or.inr (Or.inl h))))))))))) (fun h => Or.elim h (fun h => (Or.inr (Or.inr (Or.inr (Or.inr (Or.inr (Or.inr (Or.inr (Or.inr (Or.inr (Or.inr (Or.inl h)))))))))))) (fun h => (Or.inr (Or.inr (Or.inr (Or.inr (Or.inr (Or.inr (Or.inr (Or.inr (Or.inr (Or.inr (Or.inr h)))))))))))))))) (gr1) (fun r5 gr5 => ?_)
    refine zq_bind (fun r6 => ?_)
    refine zq_if ?_ ?_
    · exact zq_some (gr5)
    · exact zq_some (gr5)
abbrev p_X12_fillLake (k i j : Nat) : Prop := (k = 13 ∧ i = 0 ∧ j = 0) ∨ (k = 20 ∧ i = 59) ∨ (k = 20 ∧ i = 61) ∨ (k = 20 ∧ i = 62) ∨ (k = 20 ∧ i = 60) ∨ (k = 13 ∧ i = 0 ∧ j = 18) ∨ (k = 20 ∧ i = 66) ∨ (k = 20 ∧ i = 65) ∨ (k = 13 ∧ i = 0 ∧ j = 3) ∨ (k = 24 ∧ i = 0) ∨ (k = 23 ∧ i = 0)
theorem q_X12_fillLake_31 (m0 : zM) : ∀ (j : Nat) (x1 : Int32) (x2 : Int32) (x3 : Int32) (m : zM), zFr (p_X12_fillLake) m0 m → zFK (p_X12_fillLake) m0 (f_X12_fillLake_31 j x1 x2 x3 m) (fun a => a.2) := by
  intro j
  induction j with
  | zero =>
    intro _ _ _ _ _
    exact zq_none
  | succ j ih =>
    intro x1 x2 x3 m hm
    unfold f_X12_fillLake_31
    refine zq_bind (fun r1 => ?_)
    refine zq_if ?_ ?_
    · exact zq_some (hm)
    · refine zq_gd ?_
      refine zq_if ?_ ?_
      · refine zq_gd ?_
        refine zq_gd ?_
        exact ih x1 x2 (x3 + (1 : Int32)) (z_sI m 23 0 (Int32.toNatClampNeg ((3 : Int32) + x3)) (m.1 20 59 (Int32.toNatClampNeg x3))) (zFr.sI (hm) _ (Or.inr (Or.inr (Or.inr (Or.inr (Or.inr (Or.inr (Or.inr (Or.inr (Or.inr (Or.inr ⟨rfl, rfl⟩)))))))))))
      · exact ih x1 x2 (x3 + (1 : Int32)) m (hm)
theorem q_X12_fillLake (x1 : Int32) (m : zM) : zFK (p_X12_fillLake) m (f_X12_fillLake x1 m) (fun a => a.2) := by
  unfold f_X12_fillLake
  refine zq_call (q_X12_isLake x1 (z_sI m 13 0 0 (0 : Int32))) (fun _ _ _ => (fun h => Or.elim h (fun h => (Or.inr (Or.inl h))) (fun h => Or.elim h (fun h => (Or.inr (Or.inr (Or.inl h)))) (fun h => Or.elim h (fun h => (Or.inr (Or.inr (Or.inr (Or.inl h))))) (fun h => Or.elim h (fun h => (Or.inr (Or.inr (Or.inr (Or.inr (Or.inl h)))))) (fun h => Or.elim h (fun h => (Or.inr (Or.inr (Or.inr (Or.inr (Or.inr (Or.inl h))))))) (fun h => Or.elim h (fun h => (Or.inr (Or.inr (Or.inr (Or.inr (Or.inr (Or.inr (Or.inl h)))))))) (fun h => (Or.inr (Or.inr (Or.inr (Or.inr (Or.inr (Or.inr (Or.inr (Or.inl h)))))))))))))))) (zFr.sI (zFr.refl m) _ (Or.inl ⟨rfl, rfl, rfl⟩)) (fun r1 gr1 => ?_)
  refine zq_if ?_ ?_
  · refine zq_call (q_X12_raises (1 : Int32) r1.2) (fun _ _ _ => (fun h => (Or.inl h))) (gr1) (fun r3 gr3 => ?_)
    exact zq_some (gr3)
  · refine zq_call (q_X12_changes r1.2) (fun _ _ _ => (fun h => Or.elim h (fun h => (Or.inr (Or.inr (Or.inr (Or.inr (Or.inr (Or.inr (Or.inr (Or.inr (Or.inl h)))))))))) (fun h => (Or.inr (Or.inr (Or.inr (Or.inr (Or.inr (Or.inr (Or.inr (Or.inr (Or.inr (Or.inl h))))))))))))) (gr1) (fun r4 gr4 => ?_)
    refine zq_bind (fun r5 => ?_)
    exact q_X12_fillLake_31 m zF x1 r5 (0 : Int32) r4 (gr4)
abbrev p_X12_carveLake (k i j : Nat) : Prop := (k = 13 ∧ i = 0 ∧ j = 0) ∨ (k = 20 ∧ i = 59) ∨ (k = 20 ∧ i = 61) ∨ (k = 20 ∧ i = 62) ∨ (k = 20 ∧ i = 60) ∨ (k = 13 ∧ i = 0 ∧ j = 18) ∨ (k = 20 ∧ i = 66) ∨ (k = 20 ∧ i = 65) ∨ (k = 13 ∧ i = 0 ∧ j = 3) ∨ (k = 24 ∧ i = 0) ∨ (k = 13 ∧ i = 0 ∧ j = 30) ∨ (k = 13 ∧ i = 0 ∧ j = 29) ∨ (k = 27 ∧ i = 0) ∨ (k = 26 ∧ i = 0) ∨ (k = 23 ∧ i = 0)
theorem q_X12_carveLake_36 (m0 : zM) : ∀ (j : Nat) (x2 : Int32) (x3 : Int32) (m : zM), zFr (p_X12_carveLake) m0 m → zFK (p_X12_carveLake) m0 (f_X12_carveLake_36 j x2 x3 m) (fun a => a.2) := by
  intro j
  induction j with
  | zero =>
    intro _ _ _ _
    exact zq_none
  | succ j ih =>
    intro x2 x3 m hm
    unfold f_X12_carveLake_36
    refine zq_if ?_ ?_
    · exact zq_some (hm)
    · refine zq_gd ?_
      refine zq_bind (fun r3 => ?_)
      refine zq_gd ?_
      refine zq_bind (fun r5 => ?_)
      refine zq_if ?_ ?_
      · refine zq_gd ?_
        refine zq_gd ?_
        refine zq_bind (fun r9 => ?_)
        refine zq_gd ?_
        exact ih (x2 + (1 : Int32)) (x3 + (1 : Int32)) (z_sI m 23 0 (Int32.toNatClampNeg ((3 : Int32) + (m.1 27 0 (Int32.toNatClampNeg x3)))) r9) (zFr.sI (hm) _ (Or.inr (Or.inr (Or.inr (Or.inr (Or.inr (Or.inr (Or.inr (Or.inr (Or.inr (Or.inr (Or.inr (Or.inr (Or.inr (Or.inr ⟨rfl, rfl⟩)))))))))))))))
      · exact ih x2 (x3 + (1 : Int32)) m (hm)
theorem q_X12_carveLake (x1 : Int32) (m : zM) : zFK (p_X12_carveLake) m (f_X12_carveLake x1 m) (fun a => a.2) := by
  unfold f_X12_carveLake
  refine zq_call (q_X12_isLake x1 (z_sI m 13 0 0 (0 : Int32))) (fun _ _ _ => (fun h => Or.elim h (fun h => (Or.inr (Or.inl h))) (fun h => Or.elim h (fun h => (Or.inr (Or.inr (Or.inl h)))) (fun h => Or.elim h (fun h => (Or.inr (Or.inr (Or.inr (Or.inl h))))) (fun h => Or.elim h (fun h => (Or.inr (Or.inr (Or.inr (Or.inr (Or.inl h)))))) (fun h => Or.elim h (fun h => (Or.inr (Or.inr (Or.inr (Or.inr (Or.inr (Or.inl h))))))) (fun h => Or.elim h (fun h => (Or.inr (Or.inr (Or.inr (Or.inr (Or.inr (Or.inr (Or.inl h)))))))) (fun h => (Or.inr (Or.inr (Or.inr (Or.inr (Or.inr (Or.inr (Or.inr (Or.inl h)))))))))))))))) (zFr.sI (zFr.refl m) _ (Or.inl ⟨rfl, rfl, rfl⟩)) (fun r1 gr1 => ?_)
  refine zq_if ?_ ?_
  · refine zq_call (q_X12_raises (1 : Int32) r1.2) (fun _ _ _ => (fun h => (Or.inl h))) (gr1) (fun r3 gr3 => ?_)
    exact zq_some (gr3)
  · refine zq_call (q_X12_changes r1.2) (fun _ _ _ => (fun h => Or.elim h (fun h => (Or.inr (Or.inr (Or.inr (Or.inr (Or.inr (Or.inr (Or.inr (Or.inr (Or.inl h)))))))))) (fun h => (Or.inr (Or.inr (Or.inr (Or.inr (Or.inr (Or.inr (Or.inr (Or.inr (Or.inr (Or.inl h))))))))))))) (gr1) (fun r4 gr4 => ?_)
    refine zq_bind (fun r5 => ?_)
    refine zq_call (q_X12_bestWay r5 r4) (fun _ _ _ => (fun h => Or.elim h (fun h => (Or.inr (Or.inr (Or.inr (Or.inr (Or.inr (Or.inr (Or.inr (Or.inr (Or.inr (Or.inr (Or.inl h)))))))))))) (fun h => Or.elim h (fun h => (Or.inr (Or.inr (Or.inr (Or.inr (Or.inr (Or.inr (Or.inr (Or.inr (Or.inr (Or.inr (Or.inr (Or.inl h))))))))))))) (fun h => Or.elim h (fun h => (Or.inr (Or.inr (Or.inr (Or.inr (Or.inr (Or.inr (Or.inr (Or.inr (Or.inr (Or.inr (Or.inr (Or.inr (Or.inl h)))))))))))))) (fun h => (Or.inr (Or.inr (Or.inr (Or.inr (Or.inr (Or.inr (Or.inr (Or.inr (Or.inr (Or.inr (Or.inr (Or.inr (Or.inr (Or.inl h))))))))))))))))))) (gr4) (fun r6 gr6 => ?_)
    exact q_X12_carveLake_36 m zF (0 : Int32) (1 : Int32) r6 (gr6)
abbrev p_X12_account (k i j : Nat) : Prop := (k = 13 ∧ i = 0 ∧ j = 0) ∨ (k = 20 ∧ i = 59) ∨ (k = 20 ∧ i = 61) ∨ (k = 20 ∧ i = 62) ∨ (k = 20 ∧ i = 60) ∨ (k = 20 ∧ i = 63)
theorem q_X12_account_101 (m0 : zM) (c51 : Int32 → Int32 → Int32 → zM → Option (Int32 × zM)) (hc51 : ∀ (x1 : Int32) (x2 : Int32) (x3 : Int32) (m : zM), zFr (p_X12_account) m0 m → zFK (p_X12_account) m0 (c51 x1 x2 x3 m) (fun a => a.2)) (x1 : Int32) (x2 : Int32) (x3 : Int32) (m : zM) (hm : zFr (p_X12_account) m0 m) : zFK (p_X12_account) m0 (f_X12_account_101 c51 x1 x2 x3 m) (fun a => a.2) := by
  unfold f_X12_account_101
  refine zq_if ?_ ?_
  · refine zq_gd ?_
    refine zq_bind (fun r3 => ?_)
    exact hc51 x1 r3 (x3 + (1 : Int32)) m (hm)
  · exact hc51 x1 x2 (x3 + (1 : Int32)) m (hm)
theorem q_X12_account_88 (m0 : zM) (c51 : Int32 → Int32 → Int32 → zM → Option (Int32 × zM)) (hc51 : ∀ (x1 : Int32) (x2 : Int32) (x3 : Int32) (m : zM), zFr (p_X12_account) m0 m → zFK (p_X12_account) m0 (c51 x1 x2 x3 m) (fun a => a.2)) (x1 : Int32) (x2 : Int32) (x3 : Int32) (m : zM) (hm : zFr (p_X12_account) m0 m) : zFK (p_X12_account) m0 (f_X12_account_88 c51 x1 x2 x3 m) (fun a => a.2) := by
  unfold f_X12_account_88
  refine zq_if ?_ ?_
  · refine zq_bind (fun r2 => ?_)
    exact q_X12_account_101 m0 c51 hc51 x1 (x2 + r2) x3 m (hm)
  · exact q_X12_account_101 m0 c51 hc51 x1 x2 x3 m (hm)
theorem q_X12_account_75 (m0 : zM) (c51 : Int32 → Int32 → Int32 → zM → Option (Int32 × zM)) (hc51 : ∀ (x1 : Int32) (x2 : Int32) (x3 : Int32) (m : zM), zFr (p_X12_account) m0 m → zFK (p_X12_account) m0 (c51 x1 x2 x3 m) (fun a => a.2)) (x1 : Int32) (x2 : Int32) (x3 : Int32) (m : zM) (hm : zFr (p_X12_account) m0 m) : zFK (p_X12_account) m0 (f_X12_account_75 c51 x1 x2 x3 m) (fun a => a.2) := by
  unfold f_X12_account_75
  refine zq_if ?_ ?_
  · refine zq_bind (fun r2 => ?_)
    exact q_X12_account_88 m0 c51 hc51 x1 (x2 + r2) x3 m (hm)
  · exact q_X12_account_88 m0 c51 hc51 x1 x2 x3 m (hm)
theorem q_X12_account_51 (m0 : zM) : ∀ (j : Nat) (x1 : Int32) (x2 : Int32) (x3 : Int32) (m : zM), zFr (p_X12_account) m0 m → zFK (p_X12_account) m0 (f_X12_account_51 j x1 x2 x3 m) (fun a => a.2) := by
  intro j
  induction j with
  | zero =>
    intro _ _ _ _ _
    exact zq_none
  | succ j ih =>
    intro x1 x2 x3 m hm
    unfold f_X12_account_51
    refine zq_bind (fun r1 => ?_)
    refine zq_if ?_ ?_
    · exact zq_some (hm)
    · refine zq_if ?_ ?_
      · refine zq_gd ?_
        exact q_X12_account_75 m0 (f_X12_account_51 j) ih x1 (x2 + (m.1 23 0 (Int32.toNatClampNeg ((67 : Int32) + x3)))) x3 m (hm)
      · exact q_X12_account_75 m0 (f_X12_account_51 j) ih x1 x2 x3 m (hm)
theorem q_X12_account (x1 : Int32) (m : zM) : zFK (p_X12_account) m (f_X12_account x1 m) (fun a => a.2) := by
  unfold f_X12_account
  refine zq_bind (fun r1 => ?_)
  refine zq_if ?_ ?_
  · refine zq_call (q_X12_raises (1 : Int32) (z_sI m 13 0 0 (0 : Int32))) (fun _ _ _ => (fun h => (Or.inl h))) (zFr.sI (zFr.refl m) _ (Or.inl ⟨rfl, rfl, rfl⟩)) (fun r3 gr3 => ?_)
    exact zq_some (gr3)
  · refine zq_if ?_ ?_
    · refine zq_call (q_X12_leaves (z_sI m 13 0 0 (0 : Int32))) (fun _ _ _ => (fun h => Or.elim h (fun h => (Or.inr (Or.inl h))) (fun h => Or.elim h (fun h => (Or.inr (Or.inr (Or.inl h)))) (fun h => Or.elim h (fun h => (Or.inr (Or.inr (Or.inr (Or.inl h))))) (fun h => Or.elim h (fun h => (Or.inr (Or.inr (Or.inr (Or.inr (Or.inl h)))))) (fun h => (Or.inr (Or.inr (Or.inr (Or.inr (Or.inr h))))))))))) (zFr.sI (zFr.refl m) _ (Or.inl ⟨rfl, rfl, rfl⟩)) (fun r5 gr5 => ?_)
      exact zq_some (gr5)
    · refine zq_if ?_ ?_
      · refine zq_call (q_X12_depths (z_sI m 13 0 0 (0 : Int32))) (fun _ _ _ => (fun h => (Or.inr (Or.inl h)))) (zFr.sI (zFr.refl m) _ (Or.inl ⟨rfl, rfl, rfl⟩)) (fun r7 gr7 => ?_)
        exact zq_some (gr7)
      · refine zq_call (q_X12_waters (z_sI m 13 0 0 (0 : Int32))) (fun _ _ _ => (fun h => Or.elim h (fun h => (Or.inr (Or.inl h))) (fun h => Or.elim h (fun h => (Or.inr (Or.inr (Or.inl h)))) (fun h => Or.elim h (fun h => (Or.inr (Or.inr (Or.inr (Or.inl h))))) (fun h => Or.elim h (fun h => (Or.inr (Or.inr (Or.inr (Or.inr (Or.inl h)))))) (fun h => (Or.inr (Or.inr (Or.inr (Or.inr (Or.inr h))))))))))) (zFr.sI (zFr.refl m) _ (Or.inl ⟨rfl, rfl, rfl⟩)) (fun r8 gr8 => ?_)
        exact q_X12_account_51 m zF x1 (0 : Int32) (0 : Int32) r8 (gr8)
abbrev p_X12_order (k i j : Nat) : Prop := (k = 13 ∧ i = 0 ∧ j = 0) ∨ (k = 20 ∧ i = 59) ∨ (k = 20 ∧ i = 61) ∨ (k = 20 ∧ i = 62) ∨ (k = 20 ∧ i = 60) ∨ (k = 20 ∧ i = 63) ∨ (k = 13 ∧ i = 0 ∧ j = 18) ∨ (k = 20 ∧ i = 65) ∨ (k = 20 ∧ i = 64)
theorem q_X12_order (x1 : Int32) (m : zM) : zFK (p_X12_order) m (f_X12_order x1 m) (fun a => a.2) := by
  unfold f_X12_order
  refine zq_bind (fun r1 => ?_)
  refine zq_if ?_ ?_
  · refine zq_call (q_X12_raises (1 : Int32) (z_sI m 13 0 0 (0 : Int32))) (fun _ _ _ => (fun h => (Or.inl h))) (zFr.sI (zFr.refl m) _ (Or.inl ⟨rfl, rfl, rfl⟩)) (fun r3 gr3 => ?_)
    exact zq_some (gr3)
  · refine zq_call (q_X12_streams (z_sI m 13 0 0 (0 : Int32))) (fun _ _ _ => (fun h => Or.elim h (fun h => (Or.inr (Or.inl h))) (fun h => Or.elim h (fun h => (Or.inr (Or.inr (Or.inl h)))) (fun h => Or.elim h (fun h => (Or.inr (Or.inr (Or.inr (Or.inl h))))) (fun h => Or.elim h (fun h => (Or.inr (Or.inr (Or.inr (Or.inr (Or.inl h)))))) (fun h => Or.elim h (fun h => (Or.inr (Or.inr (Or.inr (Or.inr (Or.inr (Or.inl h))))))) (fun h => Or.elim h (fun h => (Or.inr (Or.inr (Or.inr (Or.inr (Or.inr (Or.inr (Or.inl h)))))))) (fun h => Or.elim h (fun h => (Or.inr (Or.inr (Or.inr (Or.inr (Or.inr (Or.inr (Or.inr (Or.inl h))))))))) (fun h => (Or.inr (Or.inr (Or.inr (Or.inr (Or.inr (Or.inr (Or.inr (Or.inr h))))))))))))))))) (zFr.sI (zFr.refl m) _ (Or.inl ⟨rfl, rfl, rfl⟩)) (fun r4 gr4 => ?_)
    refine zq_gd ?_
    exact zq_some (gr4)
abbrev p_X12_reach (k i j : Nat) : Prop := (k = 13 ∧ i = 0 ∧ j = 0) ∨ (k = 20 ∧ i = 59) ∨ (k = 20 ∧ i = 61) ∨ (k = 20 ∧ i = 62) ∨ (k = 20 ∧ i = 60) ∨ (k = 20 ∧ i = 63) ∨ (k = 13 ∧ i = 0 ∧ j = 18) ∨ (k = 20 ∧ i = 65) ∨ (k = 20 ∧ i = 64)
theorem q_X12_reach_85 (m0 : zM) : ∀ (j : Nat) (x1 : Int32) (x3 : Int32) (x4 : Int32) (m : zM), zFr (p_X12_reach) m0 m → zFK (p_X12_reach) m0 (f_X12_reach_85 j x1 x3 x4 m) (fun a => a.2) := by
  intro j
  induction j with
  | zero =>
    intro _ _ _ _ _
    exact zq_none
  | succ j ih =>
    intro x1 x3 x4 m hm
    unfold f_X12_reach_85
    refine zq_bind (fun r1 => ?_)
    refine zq_if ?_ ?_
    · exact zq_some (hm)
    · refine zq_gd ?_
      refine zq_if ?_ ?_
      · exact ih x1 (x3 + (1 : Int32)) (x4 + (1 : Int32)) m (hm)
      · exact ih x1 x3 (x4 + (1 : Int32)) m (hm)
theorem q_X12_reach (x1 : Int32) (x2 : Int32) (m : zM) : zFK (p_X12_reach) m (f_X12_reach x1 x2 m) (fun a => a.2) := by
  unfold f_X12_reach
  refine zq_call (q_X12_streams (z_sI m 13 0 0 (0 : Int32))) (fun _ _ _ => (fun h => Or.elim h (fun h => (Or.inr (Or.inl h))) (fun h => Or.elim h (fun h => (Or.inr (Or.inr (Or.inl h)))) (fun h => Or.elim h (fun h => (Or.inr (Or.inr (Or.inr (Or.inl h))))) (fun h => Or.elim h (fun h => (Or.inr (Or.inr (Or.inr (Or.inr (Or.inl h)))))) (fun h => Or.elim h (fun h => (Or.inr (Or.inr (Or.inr (Or.inr (Or.inr (Or.inl h))))))) (fun h => Or.elim h (fun h => (Or.inr (Or.inr (Or.inr (Or.inr (Or.inr (Or.inr (Or.inl h)))))))) (fun h => Or.elim h (fun h => (Or.inr (Or.inr (Or.inr (Or.inr (Or.inr (Or.inr (Or.inr (Or.inl h))))))))) (fun h => (Or.inr (Or.inr (Or.inr (Or.inr (Or.inr (Or.inr (Or.inr (Or.inr h))))))))))))))))) (zFr.sI (zFr.refl m) _ (Or.inl ⟨rfl, rfl, rfl⟩)) (fun r1 gr1 => ?_)
  refine zq_bind (fun r2 => ?_)
  refine zq_if ?_ ?_
  · refine zq_call (q_X12_raises (1 : Int32) r1) (fun _ _ _ => (fun h => (Or.inl h))) (gr1) (fun r4 gr4 => ?_)
    exact zq_some (gr4)
  · refine zq_if ?_ ?_
    · refine zq_bind (fun r5 => ?_)
      exact zq_some (gr1)
    refine zq_if ?_ ?_
    · refine zq_bind (fun r6 => ?_)
      exact zq_some (gr1)
    refine zq_if ?_ ?_
    · exact q_X12_reach_85 m zF x1 (0 : Int32) (0 : Int32) r1 (gr1)
    refine zq_if ?_ ?_
    · refine zq_bind (fun r7 => ?_)
      refine zq_gd ?_
      exact zq_some (gr1)
    refine zq_if ?_ ?_
    · refine zq_bind (fun r9 => ?_)
      refine zq_bind (fun r10 => ?_)
      refine zq_if ?_ ?_
      · exact zq_some (gr1)
      · refine zq_gd ?_
        exact zq_some (gr1)
    · refine zq_call (q_X12_raises (2 : Int32) r1) (fun _ _ _ => (fun h => (Or.inl h))) (gr1) (fun r13 gr13 => ?_)
      exact zq_some (gr13)
abbrev p_X12_reachOf (k i j : Nat) : Prop := (k = 13 ∧ i = 0 ∧ j = 0) ∨ (k = 20 ∧ i = 59) ∨ (k = 20 ∧ i = 61) ∨ (k = 20 ∧ i = 62) ∨ (k = 20 ∧ i = 60) ∨ (k = 20 ∧ i = 63) ∨ (k = 13 ∧ i = 0 ∧ j = 18) ∨ (k = 20 ∧ i = 65) ∨ (k = 20 ∧ i = 64)
theorem q_X12_reachOf (x1 : Int32) (m : zM) : zFK (p_X12_reachOf) m (f_X12_reachOf x1 m) (fun a => a.2) := by
  unfold f_X12_reachOf
  refine zq_bind (fun r1 => ?_)
  refine zq_if ?_ ?_
  · refine zq_call (q_X12_raises (1 : Int32) (z_sI m 13 0 0 (0 : Int32))) (fun _ _ _ => (fun h => (Or.inl h))) (zFr.sI (zFr.refl m) _ (Or.inl ⟨rfl, rfl, rfl⟩)) (fun r3 gr3 => ?_)
    exact zq_some (gr3)
  · refine zq_call (q_X12_streams (z_sI m 13 0 0 (0 : Int32))) (fun _ _ _ => (fun h => Or.elim h (fun h => (Or.inr (Or.inl h))) (fun h => Or.elim h (fun h => (Or.inr (Or.inr (Or.inl h)))) (fun h => Or.elim h (fun h => (Or.inr (Or.inr (Or.inr (Or.inl h))))) (fun h => Or.elim h (fun h => (Or.inr (Or.inr (Or.inr (Or.inr (Or.inl h)))))) (fun h => Or.elim h (fun h => (Or.inr (Or.inr (Or.inr (Or.inr (Or.inr (Or.inl h))))))) (fun h => Or.elim h (fun h => (Or.inr (Or.inr (Or.inr (Or.inr (Or.inr (Or.inr (Or.inl h)))))))) (fun h => Or.elim h (fun h => (Or.inr (Or.inr (Or.inr (Or.inr (Or.inr (Or.inr (Or.inr (Or.inl h))))))))) (fun h => (Or.inr (Or.inr (Or.inr (Or.inr (Or.inr (Or.inr (Or.inr (Or.inr h))))))))))))))))) (zFr.sI (zFr.refl m) _ (Or.inl ⟨rfl, rfl, rfl⟩)) (fun r4 gr4 => ?_)
    refine zq_gd ?_
    refine zq_if ?_ ?_
    · refine zq_gd ?_
      exact zq_some (gr4)
    · refine zq_call (q_X12_raises (2 : Int32) r4) (fun _ _ _ => (fun h => (Or.inl h))) (gr4) (fun r8 gr8 => ?_)
      exact zq_some (gr8)
abbrev p_X12_leavingIf (k i j : Nat) : Prop := (k = 13 ∧ i = 0 ∧ j = 0) ∨ (k = 23 ∧ i = 0) ∨ (k = 20 ∧ i = 59) ∨ (k = 20 ∧ i = 61) ∨ (k = 20 ∧ i = 62) ∨ (k = 20 ∧ i = 60) ∨ (k = 20 ∧ i = 63)
theorem q_X12_leavingIf_30 (m0 : zM) (x1 : Int32) (x2 : Int32) (s1 : Int32) (m : zM) (hm : zFr (p_X12_leavingIf) m0 m) : zFK (p_X12_leavingIf) m0 (f_X12_leavingIf_30 x1 x2 s1 m) (fun a => a.2) := by
  unfold f_X12_leavingIf_30
  refine zq_if ?_ ?_
  · refine zq_gd ?_
    refine zq_call (q_X12_leaves (z_sI (z_sI m 13 0 0 s1) 23 0 (Int32.toNatClampNeg ((131 : Int32) + x1)) x2)) (fun _ _ _ => (fun h => Or.elim h (fun h => (Or.inr (Or.inr (Or.inl h)))) (fun h => Or.elim h (fun h => (Or.inr (Or.inr (Or.inr (Or.inl h))))) (fun h => Or.elim h (fun h => (Or.inr (Or.inr (Or.inr (Or.inr (Or.inl h)))))) (fun h => Or.elim h (fun h => (Or.inr (Or.inr (Or.inr (Or.inr (Or.inr (Or.inl h))))))) (fun h => (Or.inr (Or.inr (Or.inr (Or.inr (Or.inr (Or.inr h)))))))))))) (zFr.sI (zFr.sI (hm) _ (Or.inl ⟨rfl, rfl, rfl⟩)) _ (Or.inr (Or.inl ⟨rfl, rfl⟩))) (fun r3 gr3 => ?_)
    refine zq_gd ?_
    exact zq_some (zFr.sI (gr3) _ (Or.inr (Or.inl ⟨rfl, rfl⟩)))
  · exact zq_some (zFr.sI (hm) _ (Or.inl ⟨rfl, rfl, rfl⟩))
theorem q_X12_leavingIf (x1 : Int32) (x2 : Int32) (m : zM) : zFK (p_X12_leavingIf) m (f_X12_leavingIf x1 x2 m) (fun a => a.2) := by
  unfold f_X12_leavingIf
  refine zq_bind (fun r1 => ?_)
  refine zq_if ?_ ?_
  · exact q_X12_leavingIf_30 m x1 x2 (1 : Int32) m (zFr.refl m)
  · refine zq_bind (fun r3 => ?_)
    refine zq_if ?_ ?_
    · exact q_X12_leavingIf_30 m x1 x2 (2 : Int32) m (zFr.refl m)
    · exact q_X12_leavingIf_30 m x1 x2 (0 : Int32) m (zFr.refl m)
abbrev p_L_level (k i j : Nat) : Prop := (k = 20 ∧ i = 33) ∨ (k = 4 ∧ i = 0 ∧ j = 5) ∨ (k = 20 ∧ i = 34) ∨ (k = 20 ∧ i = 35) ∨ (k = 4 ∧ i = 0 ∧ j = 4) ∨ (k = 30 ∧ i = 0) ∨ (k = 32 ∧ i = 0)
theorem q_L_level (x1 : Int32) (m : zM) : zFK (p_L_level) m (f_L_level x1 m) (fun a => a.2) := by
  unfold f_L_level
  refine zq_callh (q_X11_level x1 m) (fun _ _ _ => (fun h => Or.elim h (fun h => (Or.inl h)) (fun h => Or.elim h (fun h => (Or.inr (Or.inl h))) (fun h => Or.elim h (fun h => (Or.inr (Or.inr (Or.inl h)))) (fun h => Or.elim h (fun h => (Or.inr (Or.inr (Or.inr (Or.inl h))))) (fun h => Or.elim h (fun h => (Or.inr (Or.inr (Or.inr (Or.inr (Or.inl h)))))) (fun h => (Or.inr (Or.inr (Or.inr (Or.inr (Or.inr (Or.inl h))))))))))))) (zFr.refl m) (fun _ _ => rfl) (fun r1 m2 gm2 => ?_)
  refine zq_gd ?_
  exact zq_some (zFr.sL (gm2) _ (Or.inr (Or.inr (Or.inr (Or.inr (Or.inr (Or.inr ⟨rfl, rfl⟩)))))))
abbrev p_L_levelByPools (k i j : Nat) : Prop := (k = 3 ∧ i = 0 ∧ j = 0) ∨ (k = 21 ∧ i = 1) ∨ (k = 31 ∧ i = 1) ∨ (k = 21 ∧ i = 0) ∨ (k = 21 ∧ i = 2) ∨ (k = 31 ∧ i = 0) ∨ (k = 32 ∧ i = 0)
theorem q_L_levelByPools (x1 : Int32) (m : zM) : zFK (p_L_levelByPools) m (f_L_levelByPools x1 m) (fun a => a.2) := by
  unfold f_L_levelByPools
  refine zq_callh (q_X11_levelByPools x1 m) (fun _ _ _ => (fun h => Or.elim h (fun h => (Or.inl h)) (fun h => Or.elim h (fun h => (Or.inr (Or.inl h))) (fun h => Or.elim h (fun h => (Or.inr (Or.inr (Or.inl h)))) (fun h => Or.elim h (fun h => (Or.inr (Or.inr (Or.inr (Or.inl h))))) (fun h => Or.elim h (fun h => (Or.inr (Or.inr (Or.inr (Or.inr (Or.inl h)))))) (fun h => (Or.inr (Or.inr (Or.inr (Or.inr (Or.inr (Or.inl h))))))))))))) (zFr.refl m) (fun _ _ => rfl) (fun r1 m2 gm2 => ?_)
  refine zq_gd ?_
  exact zq_some (zFr.sL (gm2) _ (Or.inr (Or.inr (Or.inr (Or.inr (Or.inr (Or.inr ⟨rfl, rfl⟩)))))))
abbrev p_L_lakeOf (k i j : Nat) : Prop := (k = 20 ∧ i = 33) ∨ (k = 4 ∧ i = 0 ∧ j = 5) ∨ (k = 20 ∧ i = 34) ∨ (k = 20 ∧ i = 35) ∨ (k = 4 ∧ i = 0 ∧ j = 4) ∨ (k = 30 ∧ i = 0) ∨ (k = 32 ∧ i = 0)
theorem q_L_lakeOf (x1 : Int32) (m : zM) : zFK (p_L_lakeOf) m (f_L_lakeOf x1 m) (fun a => a.2) := by
  unfold f_L_lakeOf
  refine zq_callh (q_X11_lakeOf x1 m) (fun _ _ _ => (fun h => Or.elim h (fun h => (Or.inl h)) (fun h => Or.elim h (fun h => (Or.inr (Or.inl h))) (fun h => Or.elim h (fun h => (Or.inr (Or.inr (Or.inl h)))) (fun h => Or.elim h (fun h => (Or.inr (Or.inr (Or.inr (Or.inl h))))) (fun h => Or.elim h (fun h => (Or.inr (Or.inr (Or.inr (Or.inr (Or.inl h)))))) (fun h => (Or.inr (Or.inr (Or.inr (Or.inr (Or.inr (Or.inl h))))))))))))) (zFr.refl m) (fun _ _ => rfl) (fun r1 m2 gm2 => ?_)
  refine zq_gd ?_
  exact zq_some (zFr.sL (gm2) _ (Or.inr (Or.inr (Or.inr (Or.inr (Or.inr (Or.inr ⟨rfl, rfl⟩)))))))
abbrev p_L_meanDepth (k i j : Nat) : Prop := (k = 20 ∧ i = 33) ∨ (k = 4 ∧ i = 0 ∧ j = 5) ∨ (k = 20 ∧ i = 34) ∨ (k = 20 ∧ i = 35) ∨ (k = 4 ∧ i = 0 ∧ j = 4) ∨ (k = 30 ∧ i = 0) ∨ (k = 33 ∧ i = 0)
theorem q_L_meanDepth (m : zM) : zFK (p_L_meanDepth) m (f_L_meanDepth m) (fun a => a.2) := by
  unfold f_L_meanDepth
  refine zq_callh (q_X11_meanDepth m) (fun _ _ _ => (fun h => Or.elim h (fun h => (Or.inl h)) (fun h => Or.elim h (fun h => (Or.inr (Or.inl h))) (fun h => Or.elim h (fun h => (Or.inr (Or.inr (Or.inl h)))) (fun h => Or.elim h (fun h => (Or.inr (Or.inr (Or.inr (Or.inl h))))) (fun h => Or.elim h (fun h => (Or.inr (Or.inr (Or.inr (Or.inr (Or.inl h)))))) (fun h => (Or.inr (Or.inr (Or.inr (Or.inr (Or.inr (Or.inl h))))))))))))) (zFr.refl m) (fun _ _ => rfl) (fun r1 m2 gm2 => ?_)
  refine zq_gd ?_
  exact zq_some (zFr.sD (gm2) _ (Or.inr (Or.inr (Or.inr (Or.inr (Or.inr (Or.inr ⟨rfl, rfl⟩)))))))
abbrev p_L_depression (k i j : Nat) : Prop := (k = 3 ∧ i = 0 ∧ j = 0) ∨ (k = 21 ∧ i = 1) ∨ (k = 31 ∧ i = 1) ∨ (k = 21 ∧ i = 0) ∨ (k = 21 ∧ i = 2) ∨ (k = 31 ∧ i = 0) ∨ (k = 32 ∧ i = 0)
theorem q_L_depression (x1 : Int32) (x2 : Int32) (m : zM) : zFK (p_L_depression) m (f_L_depression x1 x2 m) (fun a => a.2) := by
  unfold f_L_depression
  refine zq_callh (q_X11_depression x1 x2 m) (fun _ _ _ => (fun h => Or.elim h (fun h => (Or.inl h)) (fun h => Or.elim h (fun h => (Or.inr (Or.inl h))) (fun h => Or.elim h (fun h => (Or.inr (Or.inr (Or.inl h)))) (fun h => Or.elim h (fun h => (Or.inr (Or.inr (Or.inr (Or.inl h))))) (fun h => Or.elim h (fun h => (Or.inr (Or.inr (Or.inr (Or.inr (Or.inl h)))))) (fun h => (Or.inr (Or.inr (Or.inr (Or.inr (Or.inr (Or.inl h))))))))))))) (zFr.refl m) (fun _ _ => rfl) (fun r1 m2 gm2 => ?_)
  refine zq_gd ?_
  exact zq_some (zFr.sL (gm2) _ (Or.inr (Or.inr (Or.inr (Or.inr (Or.inr (Or.inr ⟨rfl, rfl⟩)))))))
abbrev p_L_depressionAt (k i j : Nat) : Prop := (k = 3 ∧ i = 0 ∧ j = 0) ∨ (k = 21 ∧ i = 1) ∨ (k = 31 ∧ i = 1) ∨ (k = 21 ∧ i = 0) ∨ (k = 21 ∧ i = 2) ∨ (k = 31 ∧ i = 0) ∨ (k = 32 ∧ i = 0)
theorem q_L_depressionAt (x1 : Int32) (x2 : Int32) (m : zM) : zFK (p_L_depressionAt) m (f_L_depressionAt x1 x2 m) (fun a => a.2) := by
  unfold f_L_depressionAt
  refine zq_callh (q_X11_depressionAt x1 x2 m) (fun _ _ _ => (fun h => Or.elim h (fun h => (Or.inl h)) (fun h => Or.elim h (fun h => (Or.inr (Or.inl h))) (fun h => Or.elim h (fun h => (Or.inr (Or.inr (Or.inl h)))) (fun h => Or.elim h (fun h => (Or.inr (Or.inr (Or.inr (Or.inl h))))) (fun h => Or.elim h (fun h => (Or.inr (Or.inr (Or.inr (Or.inr (Or.inl h)))))) (fun h => (Or.inr (Or.inr (Or.inr (Or.inr (Or.inr (Or.inl h))))))))))))) (zFr.refl m) (fun _ _ => rfl) (fun r1 m2 gm2 => ?_)
  refine zq_gd ?_
  exact zq_some (zFr.sL (gm2) _ (Or.inr (Or.inr (Or.inr (Or.inr (Or.inr (Or.inr ⟨rfl, rfl⟩)))))))
abbrev p_L_depthsIf (k i j : Nat) : Prop := (k = 6 ∧ i = 1 ∧ j = 0) ∨ (k = 6 ∧ i = 1 ∧ j = 1) ∨ (k = 6 ∧ i = 1 ∧ j = 2) ∨ (k = 6 ∧ i = 1 ∧ j = 3) ∨ (k = 20 ∧ i = 3) ∨ (k = 20 ∧ i = 4) ∨ (k = 20 ∧ i = 5) ∨ (k = 20 ∧ i = 33) ∨ (k = 4 ∧ i = 0 ∧ j = 5) ∨ (k = 20 ∧ i = 34) ∨ (k = 20 ∧ i = 35) ∨ (k = 4 ∧ i = 0 ∧ j = 4) ∨ (k = 30 ∧ i = 0) ∨ (k = 32 ∧ i = 0)
theorem q_L_depthsIf (x1 : Int32) (x2 : Int32) (m : zM) : zFK (p_L_depthsIf) m (f_L_depthsIf x1 x2 m) (fun a => a.2) := by
  unfold f_L_depthsIf
  refine zq_callh (q_X11_depthsIf x1 x2 m) (fun _ _ _ => (fun h => Or.elim h (fun h => (Or.inl h)) (fun h => Or.elim h (fun h => (Or.inr (Or.inl h))) (fun h => Or.elim h (fun h => (Or.inr (Or.inr (Or.inl h)))) (fun h => Or.elim h (fun h => (Or.inr (Or.inr (Or.inr (Or.inl h))))) (fun h => Or.elim h (fun h => (Or.inr (Or.inr (Or.inr (Or.inr (Or.inl h)))))) (fun h => Or.elim h (fun h => (Or.inr (Or.inr (Or.inr (Or.inr (Or.inr (Or.inl h))))))) (fun h => Or.elim h (fun h => (Or.inr (Or.inr (Or.inr (Or.inr (Or.inr (Or.inr (Or.inl h)))))))) (fun h => Or.elim h (fun h => (Or.inr (Or.inr (Or.inr (Or.inr (Or.inr (Or.inr (Or.inr (Or.inl h))))))))) (fun h => Or.elim h (fun h => (Or.inr (Or.inr (Or.inr (Or.inr (Or.inr (Or.inr (Or.inr (Or.inr (Or.inl h)))))))))) (fun h => Or.elim h (fun h => (Or.inr (Or.inr (Or.inr (Or.inr (Or.inr (Or.inr (Or.inr (Or.inr (Or.inr (Or.inl h))))))))))) (fun h => Or.elim h (fun h => (Or.inr (Or.inr (Or.inr (Or.inr (Or.inr (Or.inr (Or.inr (Or.inr (Or.inr (Or.inr (Or.inl h)))))))))))) (fun h => Or.elim h (fun h => (Or.inr (Or.inr (Or.inr (Or.inr (Or.inr (Or.inr (Or.inr (Or.inr (Or.inr (Or.inr (Or.inr (Or.inl h))))))))))))) (fun h => (Or.inr (Or.inr (Or.inr (Or.inr (Or.inr (Or.inr (Or.inr (Or.inr (Or.inr (Or.inr (Or.inr (Or.inr (Or.inl h))))))))))))))))))))))))))) (zFr.refl m) (fun _ _ => rfl) (fun r1 m2 gm2 => ?_)
  refine zq_gd ?_
  exact zq_some (zFr.sL (gm2) _ (Or.inr (Or.inr (Or.inr (Or.inr (Or.inr (Or.inr (Or.inr (Or.inr (Or.inr (Or.inr (Or.inr (Or.inr (Or.inr ⟨rfl, rfl⟩))))))))))))))
abbrev p_X11_count (k i j : Nat) : Prop := (k = 20 ∧ i = 33) ∨ (k = 4 ∧ i = 0 ∧ j = 5) ∨ (k = 20 ∧ i = 34) ∨ (k = 20 ∧ i = 35) ∨ (k = 4 ∧ i = 0 ∧ j = 4) ∨ (k = 30 ∧ i = 0) ∨ (k = 5 ∧ i = 0 ∧ j = 0) ∨ (k = 5 ∧ i = 0 ∧ j = 1) ∨ (k = 20 ∧ i = 36) ∨ (k = 20 ∧ i = 41) ∨ (k = 20 ∧ i = 40) ∨ (k = 20 ∧ i = 42) ∨ (k = 20 ∧ i = 43) ∨ (k = 20 ∧ i = 37) ∨ (k = 20 ∧ i = 38) ∨ (k = 20 ∧ i = 39) ∨ (k = 20 ∧ i = 44) ∨ (k = 20 ∧ i = 45) ∨ (k = 20 ∧ i = 46) ∨ (k = 20 ∧ i = 47) ∨ (k = 9 ∧ i = 0 ∧ j = 0) ∨ (k = 20 ∧ i = 48) ∨ (k = 20 ∧ i = 49) ∨ (k = 20 ∧ i = 50) ∨ (k = 20 ∧ i = 51) ∨ (k = 20 ∧ i = 55) ∨ (k = 9 ∧ i = 0 ∧ j = 6) ∨ (k = 20 ∧ i = 52) ∨ (k = 20 ∧ i = 53) ∨ (k = 20 ∧ i = 54) ∨ (k = 3 ∧ i = 0 ∧ j = 0) ∨ (k = 21 ∧ i = 1) ∨ (k = 31 ∧ i = 1) ∨ (k = 21 ∧ i = 0) ∨ (k = 21 ∧ i = 2) ∨ (k = 31 ∧ i = 0)
theorem q_X11_count (x1 : Int32) (m : zM) : zFK (p_X11_count) m (f_X11_count x1 m) (fun a => a.2) := by
  unfold f_X11_count
  refine zq_callx (q_X11_requireRange x1 (0 : Int32) (10 : Int32) m) (fun _ _ _ h => h.elim) (zFr.refl m) (fun _ _ => rfl) (fun r1 m2 gm2 => ?_)
  refine zq_if ?_ ?_
  · exact zq_some (gm2)
  refine zq_if ?_ ?_
  · exact zq_some (gm2)
  refine zq_if ?_ ?_
  · refine zq_bind (fun r3 => ?_)
    exact zq_some (gm2)
  refine zq_if ?_ ?_
  · exact zq_some (gm2)
  refine zq_if ?_ ?_
  · refine zq_call (q_X2_fill 0 m2) (fun _ _ _ => (fun h => Or.elim h (fun h => (Or.inl h)) (fun h => Or.elim h (fun h => (Or.inr (Or.inl h))) (fun h => Or.elim h (fun h => (Or.inr (Or.inr (Or.inl h)))) (fun h => Or.elim h (fun h => (Or.inr (Or.inr (Or.inr (Or.inl h))))) (fun h => Or.elim h (fun h => (Or.inr (Or.inr (Or.inr (Or.inr (Or.inl h)))))) (fun h => (Or.inr (Or.inr (Or.inr (Or.inr (Or.inr (Or.inl h))))))))))))) (gm2) (fun r4 gr4 => ?_)
    exact zq_some (gr4)
  refine zq_if ?_ ?_
  · refine zq_call (q_X11_surveyStreams m2) (fun _ _ _ => (fun h => Or.elim h (fun h => (Or.inl h)) (fun h => Or.elim h (fun h => (Or.inr (Or.inl h))) (fun h => Or.elim h (fun h => (Or.inr (Or.inr (Or.inl h)))) (fun h => Or.elim h (fun h => (Or.inr (Or.inr (Or.inr (Or.inl h))))) (fun h => Or.elim h (fun h => (Or.inr (Or.inr (Or.inr (Or.inr (Or.inl h)))))) (fun h => Or.elim h (fun h => (Or.inr (Or.inr (Or.inr (Or.inr (Or.inr (Or.inl h))))))) (fun h => Or.elim h (fun h => (Or.inr (Or.inr (Or.inr (Or.inr (Or.inr (Or.inr (Or.inl h)))))))) (fun h => Or.elim h (fun h => (Or.inr (Or.inr (Or.inr (Or.inr (Or.inr (Or.inr (Or.inr (Or.inl h))))))))) (fun h => Or.elim h (fun h => (Or.inr (Or.inr (Or.inr (Or.inr (Or.inr (Or.inr (Or.inr (Or.inr (Or.inl h)))))))))) (fun h => Or.elim h (fun h => (Or.inr (Or.inr (Or.inr (Or.inr (Or.inr (Or.inr (Or.inr (Or.inr (Or.inr (Or.inl h))))))))))) (fun h => Or.elim h (fun h => (Or.inr (Or.inr (Or.inr (Or.inr (Or.inr (Or.inr (Or.inr (Or.inr (Or.inr (Or.inr (Or.inl h)))))))))))) (fun h => Or.elim h (fun h => (Or.inr (Or.inr (Or.inr (Or.inr (Or.inr (Or.inr (Or.inr (Or.inr (Or.inr (Or.inr (Or.inr (Or.inl h))))))))))))) (fun h => Or.elim h (fun h => (Or.inr (Or.inr (Or.inr (Or.inr (Or.inr (Or.inr (Or.inr (Or.inr (Or.inr (Or.inr (Or.inr (Or.inr (Or.inl h)))))))))))))) (fun h => Or.elim h (fun h => (Or.inr (Or.inr (Or.inr (Or.inr (Or.inr (Or.inr (Or.inr (Or.inr (Or.inr (Or.inr (Or.inr (Or.inr (Or.inr (Or.inl h))))))))))))))) (fun h => Or.elim h (fun h => (Or.inr (Or.inr (Or.inr (Or.inr (Or.inr (Or.inr (Or.inr (Or.inr (Or.inr (Or.inr (Or.inr (Or.inr (Or.inr (Or.inr (Or.inl h)))))))))))))))) (fun h => Or.elim h (fun h => (Or.inr (Or.inr (Or.inr (Or.inr (Or.inr (Or.inr (Or.inr (Or.inr (Or.inr (Or.inr (Or.inr (Or.inr (Or.inr (Or.inr (Or.inr (Or.inl h))))))))))))))))) (fun h => Or.elim h (fun h => (Or.inr (Or.inr (Or.inr (Or.inr (Or.inr (Or.inr (Or.inr (Or.inr (Or.inr (Or.inr (Or.inr (Or.inr (Or.inr (Or.inr (Or.inr (Or.inr (Or.inl h)))))))))))))))))) (fun h => Or.elim h (fun h => (Or.inr (Or.inr (Or.inr (Or.inr (Or.inr (Or.inr (Or.inr (Or.inr (Or.inr (Or.inr (Or.inr (Or.inr (Or.inr (Or.inr (Or.inr (Or.inr (Or.inr (Or.inl h))))))))))))))))))) (fun h => Or.elim h (fun h => (Or.inr (Or.inr (Or.inr (Or.inr (Or.inr (Or.inr (Or.inr (Or.inr (Or.inr (Or.inr (Or.inr (Or.inr (Or.inr (Or.inr (Or.inr (Or.inr (Or.inr (Or.inr (Or.inl h)))))))))))))))))))) (fun h => Or.elim h (fun h => (Or.inr (Or.inr (Or.inr (Or.inr (Or.inr (Or.inr (Or.inr (Or.inr (Or.inr (Or.inr (Or.inr (Or.inr (Or.inr (Or.inr (Or.inr (Or.inr (Or.inr (Or.inr (Or.inr (Or.inl h))))))))))))))))))))) (fun h => Or.elim h (fun h => (Or.inr (Or.inr (Or.inr (Or.inr (Or.inr (Or.inr (Or.inr (Or.inr (Or.inr (Or.inr (Or.inr (Or.inr (Or.inr (Or.inr (Or.inr (Or.inr (Or.inr (Or.inr (Or.inr (Or.inr (Or.inl h)))))))))))))))))))))) (fun h => Or.elim h (fun h => (Or.inr (Or.inr (Or.inr (Or.inr (Or.inr (Or.inr (Or.inr (Or.inr (Or.inr (Or.inr (Or.inr (Or.inr (Or.inr (Or.inr (Or.inr (Or.inr (Or.inr (Or.inr (Or.inr (Or.inr (Or.inr (Or.inl h))))))))))))))))))))))) (fun h => Or.elim h (fun h => (Or.inr (Or.inr (Or.inr (Or.inr (Or.inr (Or.inr (Or.inr (Or.inr (Or.inr (Or.inr (Or.inr (Or.inr (Or.inr (Or.inr (Or.inr (Or.inr (Or.inr (Or.inr (Or.inr (Or.inr (Or.inr (Or.inr (Or.inl h)))))))))))))))))))))))) (fun h => Or.elim h (fun h => (Or.inr (Or.inr (Or.inr (Or.inr (Or.inr (Or.inr (Or.inr (Or.inr (Or.inr (Or.inr (Or.inr (Or.inr (Or.inr (Or.inr (Or.inr (Or.inr (Or.inr (Or.inr (Or.inr (Or.inr (Or.inr (Or.inr (Or.inr (Or.inl h))))))))))))))))))))))))) (fun h => Or.elim h (fun h => (Or.inr (Or.inr (Or.inr (Or.inr (Or.inr (Or.inr (Or.inr (Or.inr (Or.inr (Or.inr (Or.inr (Or.inr (Or.inr (Or.inr (Or.inr (Or.inr (Or.inr (Or.inr (Or.inr (Or.inr (Or.inr (Or.inr (Or.inr (Or.inr (Or.inl h)))))))))))))))))))))))))) (fun h => Or.elim h (fun h => (Or.inr (Or.inr (Or.inr (Or.inr (Or.inr (Or.inr (Or.inr (Or.inr (Or.inr (Or.inr (Or.inr (Or.inr (Or.inr (Or.inr (Or.inr (Or.inr (Or.inr (Or.inr (Or.inr (Or.inr (Or.inr (Or.inr (Or.inr (Or.inr (Or.inr (Or.inl h))))))))))))))))))))))))))) (fun h => Or.elim h (fun h => (Or.inr (Or.inr (Or.inr (Or.inr (Or.inr (Or.inr (Or.inr (Or.inr (Or.inr (Or.inr (Or.inr (Or.inr (Or.inr (Or.inr (Or.inr (Or.inr (Or.inr (Or.inr (Or.inr (Or.inr (Or.inr (Or.inr (Or.inr (Or.inr (Or.inr (Or.inr (Or.inl h)))))))))))))))))))))))))))) (fun h => Or.elim h (fun h => (Or.inr (Or.inr (Or.inr (Or.inr (Or.inr (Or.inr (Or.inr (Or.inr (Or.inr (Or.inr (Or.inr (Or.inr (Or.inr (Or.inr (Or.inr (Or.inr (Or.inr (Or.inr (Or.inr (Or.inr (Or.inr (Or.inr (Or.inr (Or.inr (Or.inr (Or.inr (Or.inr (Or.inl h))))))))))))))))))))))))))))) (fun h => Or.elim h (fun h => (Or.inr (Or.inr (Or.inr (Or.inr (Or.inr (Or.inr (Or.inr (Or.inr (Or.inr (Or.inr (Or.inr (Or.inr (Or.inr (Or.inr (Or.inr (Or.inr (Or.inr (Or.inr (Or.inr (Or.inr (Or.inr (Or.inr (Or.inr (Or.inr (Or.inr (Or.inr (Or.inr (Or.inr (Or.inl h)))))))))))))))))))))))))))))) (fun h => (Or.inr (Or.inr (Or.inr (Or.inr (Or.inr (Or.inr (Or.inr (Or.inr (Or.inr (Or.inr (Or.inr (Or.inr (Or.inr (Or.inr (Or.inr (Or.inr (Or.inr (Or.inr (Or.inr (Or.inr (Or.inr (Or.inr (Or.inr (Or.inr (Or.inr (Or.inr (Or.inr (Or.inr (Or.inr (Or.inl h))))))))))))))))))))))))))))))))))))))))))))))))))))))))))))) (gm2) (fun r5 gr5 => ?_)
    refine zq_bind (fun r6 => ?_)
    exact zq_some (gr5)
  refine zq_if ?_ ?_
  · refine zq_call (q_X11_surveyStreams m2) (fun _ _ _ => (fun h => Or.elim h (fun h => (Or.inl h)) (fun h => Or.elim h (fun h => (Or.inr (Or.inl h))) (fun h => Or.elim h (fun h => (Or.inr (Or.inr (Or.inl h)))) (fun h => Or.elim h (fun h => (Or.inr (Or.inr (Or.inr (Or.inl h))))) (fun h => Or.elim h (fun h => (Or.inr (Or.inr (Or.inr (Or.inr (Or.inl h)))))) (fun h => Or.elim h (fun h => (Or.inr (Or.inr (Or.inr (Or.inr (Or.inr (Or.inl h))))))) (fun h => Or.elim h (fun h => (Or.inr (Or.inr (Or.inr (Or.inr (Or.inr (Or.inr (Or.inl h)))))))) (fun h => Or.elim h (fun h => (Or.inr (Or.inr (Or.inr (Or.inr (Or.inr (Or.inr (Or.inr (Or.inl h))))))))) (fun h => Or.elim h (fun h => (Or.inr (Or.inr (Or.inr (Or.inr (Or.inr (Or.inr (Or.inr (Or.inr (Or.inl h)))))))))) (fun h => Or.elim h (fun h => (Or.inr (Or.inr (Or.inr (Or.inr (Or.inr (Or.inr (Or.inr (Or.inr (Or.inr (Or.inl h))))))))))) (fun h => Or.elim h (fun h => (Or.inr (Or.inr (Or.inr (Or.inr (Or.inr (Or.inr (Or.inr (Or.inr (Or.inr (Or.inr (Or.inl h)))))))))))) (fun h => Or.elim h (fun h => (Or.inr (Or.inr (Or.inr (Or.inr (Or.inr (Or.inr (Or.inr (Or.inr (Or.inr (Or.inr (Or.inr (Or.inl h))))))))))))) (fun h => Or.elim h (fun h => (Or.inr (Or.inr (Or.inr (Or.inr (Or.inr (Or.inr (Or.inr (Or.inr (Or.inr (Or.inr (Or.inr (Or.inr (Or.inl h)))))))))))))) (fun h => Or.elim h (fun h => (Or.inr (Or.inr (Or.inr (Or.inr (Or.inr (Or.inr (Or.inr (Or.inr (Or.inr (Or.inr (Or.inr (Or.inr (Or.inr (Or.inl h))))))))))))))) (fun h => Or.elim h (fun h => (Or.inr (Or.inr (Or.inr (Or.inr (Or.inr (Or.inr (Or.inr (Or.inr (Or.inr (Or.inr (Or.inr (Or.inr (Or.inr (Or.inr (Or.inl h)))))))))))))))) (fun h => Or.elim h (fun h => (Or.inr (Or.inr (Or.inr (Or.inr (Or.inr (Or.inr (Or.inr (Or.inr (Or.inr (Or.inr (Or.inr (Or.inr (Or.inr (Or.inr (Or.inr (Or.inl h))))))))))))))))) (fun h => Or.elim h (fun h => (Or.inr (Or.inr (Or.inr (Or.inr (Or.inr (Or.inr (Or.inr (Or.inr (Or.inr (Or.inr (Or.inr (Or.inr (Or.inr (Or.inr (Or.inr (Or.inr (Or.inl h)))))))))))))))))) (fun h => Or.elim h (fun h => (Or.inr (Or.inr (Or.inr (Or.inr (Or.inr (Or.inr (Or.inr (Or.inr (Or.inr (Or.inr (Or.inr (Or.inr (Or.inr (Or.inr (Or.inr (Or.inr (Or.inr (Or.inl h))))))))))))))))))) (fun h => Or.elim h (fun h => (Or.inr (Or.inr (Or.inr (Or.inr (Or.inr (Or.inr (Or.inr (Or.inr (Or.inr (Or.inr (Or.inr (Or.inr (Or.inr (Or.inr (Or.inr (Or.inr (Or.inr (Or.inr (Or.inl h)))))))))))))))))))) (fun h => Or.elim h (fun h => (Or.inr (Or.inr (Or.inr (Or.inr (Or.inr (Or.inr (Or.inr (Or.inr (Or.inr (Or.inr (Or.inr (Or.inr (Or.inr (Or.inr (Or.inr (Or.inr (Or.inr (Or.inr (Or.inr (Or.inl h))))))))))))))))))))) (fun h => Or.elim h (fun h => (Or.inr (Or.inr (Or.inr (Or.inr (Or.inr (Or.inr (Or.inr (Or.inr (Or.inr (Or.inr (Or.inr (Or.inr (Or.inr (Or.inr (Or.inr (Or.inr (Or.inr (Or.inr (Or.inr (Or.inr (Or.inl h)))))))))))))))))))))) (fun h => Or.elim h (fun h => (Or.inr (Or.inr (Or.inr (Or.inr (Or.inr (Or.inr (Or.inr (Or.inr (Or.inr (Or.inr (Or.inr (Or.inr (Or.inr (Or.inr (Or.inr (Or.inr (Or.inr (Or.inr (Or.inr (Or.inr (Or.inr (Or.inl h))))))))))))))))))))))) (fun h => Or.elim h (fun h => (Or.inr (Or.inr (Or.inr (Or.inr (Or.inr (Or.inr (Or.inr (Or.inr (Or.inr (Or.inr (Or.inr (Or.inr (Or.inr (Or.inr (Or.inr (Or.inr (Or.inr (Or.inr (Or.inr (Or.inr (Or.inr (Or.inr (Or.inl h)))))))))))))))))))))))) (fun h => Or.elim h (fun h => (Or.inr (Or.inr (Or.inr (Or.inr (Or.inr (Or.inr (Or.inr (Or.inr (Or.inr (Or.inr (Or.inr (Or.inr (Or.inr (Or.inr (Or.inr (Or.inr (Or.inr (Or.inr (Or.inr (Or.inr (Or.inr (Or.inr (Or.inr (Or.inl h))))))))))))))))))))))))) (fun h => Or.elim h (fun h => (Or.inr (Or.inr (Or.inr (Or.inr (Or.inr (Or.inr (Or.inr (Or.inr (Or.inr (Or.inr (Or.inr (Or.inr (Or.inr (Or.inr (Or.inr (Or.inr (Or.inr (Or.inr (Or.inr (Or.inr (Or.inr (Or.inr (Or.inr (Or.inr (Or.inl h)))))))))))))))))))))))))) (fun h => Or.elim h (fun h => (Or.inr (Or.inr (Or.inr (Or.inr (Or.inr (Or.inr (Or.inr (Or.inr (Or.inr (Or.inr (Or.inr (Or.inr (Or.inr (Or.inr (Or.inr (Or.inr (Or.inr (Or.inr (Or.inr (Or.inr (Or.inr (Or.inr (Or.inr (Or.inr (Or.inr (Or.inl h))))))))))))))))))))))))))) (fun h => Or.elim h (fun h => (Or.inr (Or.inr (Or.inr (Or.inr (Or.inr (Or.inr (Or.inr (Or.inr (Or.inr (Or.inr (Or.inr (Or.inr (Or.inr (Or.inr (Or.inr (Or.inr (Or.inr (Or.inr (Or.inr (Or.inr (Or.inr (Or.inr (Or.inr (Or.inr (Or.inr (Or.inr (Or.inl h)))))))))))))))))))))))))))) (fun h => Or.elim h (fun h => (Or.inr (Or.inr (Or.inr (Or.inr (Or.inr (Or.inr (Or.inr (Or.inr (Or.inr (Or.inr (Or.inr (Or.inr (Or.inr (Or.inr (Or.inr (Or.inr (Or.inr (Or.inr (Or.inr (Or.inr (Or.inr (Or.inr (Or.inr (Or.inr (Or.inr (Or.inr (Or.inr (Or.inl h))))))))))))))))))))))))))))) (fun h => Or.elim h (fun h => (Or.inr (Or.inr (Or.inr (Or.inr (Or.inr (Or.inr (Or.inr (Or.inr (Or.inr (Or.inr (Or.inr (Or.inr (Or.inr (Or.inr (Or.inr (Or.inr (Or.inr (Or.inr (Or.inr (Or.inr (Or.inr (Or.inr (Or.inr (Or.inr (Or.inr (Or.inr (Or.inr (Or.inr (Or.inl h)))))))))))))))))))))))))))))) (fun h => (Or.inr (Or.inr (Or.inr (Or.inr (Or.inr (Or.inr (Or.inr (Or.inr (Or.inr (Or.inr (Or.inr (Or.inr (Or.inr (Or.inr (Or.inr (Or.inr (Or.inr (Or.inr (Or.inr (Or.inr (Or.inr (Or.inr (Or.inr (Or.inr (Or.inr (Or.inr (Or.inr (Or.inr (Or.inr (Or.inl h))))))))))))))))))))))))))))))))))))))))))))))))))))))))))))) (gm2) (fun r7 gr7 => ?_)
    exact zq_some (gr7)
  refine zq_if ?_ ?_
  · refine zq_call (q_X1_find 0 m2) (fun _ _ _ => (fun h => Or.elim h (fun h => (Or.inr (Or.inr (Or.inr (Or.inr (Or.inr (Or.inr (Or.inr (Or.inr (Or.inr (Or.inr (Or.inr (Or.inr (Or.inr (Or.inr (Or.inr (Or.inr (Or.inr (Or.inr (Or.inr (Or.inr (Or.inr (Or.inr (Or.inr (Or.inr (Or.inr (Or.inr (Or.inr (Or.inr (Or.inr (Or.inr (Or.inl h)))))))))))))))))))))))))))))))) (fun h => Or.elim h (fun h => (Or.inr (Or.inr (Or.inr (Or.inr (Or.inr (Or.inr (Or.inr (Or.inr (Or.inr (Or.inr (Or.inr (Or.inr (Or.inr (Or.inr (Or.inr (Or.inr (Or.inr (Or.inr (Or.inr (Or.inr (Or.inr (Or.inr (Or.inr (Or.inr (Or.inr (Or.inr (Or.inr (Or.inr (Or.inr (Or.inr (Or.inr (Or.inl h))))))))))))))))))))))))))))))))) (fun h => Or.elim h (fun h => (Or.inr (Or.inr (Or.inr (Or.inr (Or.inr (Or.inr (Or.inr (Or.inr (Or.inr (Or.inr (Or.inr (Or.inr (Or.inr (Or.inr (Or.inr (Or.inr (Or.inr (Or.inr (Or.inr (Or.inr (Or.inr (Or.inr (Or.inr (Or.inr (Or.inr (Or.inr (Or.inr (Or.inr (Or.inr (Or.inr (Or.inr (Or.inr (Or.inl h)))))))))))))))))))))))))))))))))) (fun h => Or.elim h (fun h => (Or.inr (Or.inr (Or.inr (Or.inr (Or.inr (Or.inr (Or.inr (Or.inr (Or.inr (Or.inr (Or.inr (Or.inr (Or.inr (Or.inr (Or.inr (Or.inr (Or.inr (Or.inr (Or.inr (Or.inr (Or.inr (Or.inr (Or.inr (Or.inr (Or.inr (Or.inr (Or.inr (Or.inr (Or.inr (Or.inr (Or.inr (Or.inr (Or.inr (Or.inl h))))))))))))))))))))))))))))))))))) (fun h => Or.elim h (fun h => (Or.inr (Or.inr (Or.inr (Or.inr (Or.inr (Or.inr (Or.inr (Or.inr (Or.inr (Or.inr (Or.inr (Or.inr (Or.inr (Or.inr (Or.inr (Or.inr (Or.inr (Or.inr (Or.inr (Or.inr (Or.inr (Or.inr (Or.inr (Or.inr (Or.inr (Or.inr (Or.inr (Or.inr (Or.inr (Or.inr (Or.inr (Or.inr (Or.inr (Or.inr (Or.inl h)))))))))))))))))))))))))))))))))))) (fun h => (Or.inr (Or.inr (Or.inr (Or.inr (Or.inr (Or.inr (Or.inr (Or.inr (Or.inr (Or.inr (Or.inr (Or.inr (Or.inr (Or.inr (Or.inr (Or.inr (Or.inr (Or.inr (Or.inr (Or.inr (Or.inr (Or.inr (Or.inr (Or.inr (Or.inr (Or.inr (Or.inr (Or.inr (Or.inr (Or.inr (Or.inr (Or.inr (Or.inr (Or.inr (Or.inr h)))))))))))))))))))))))))))))))))))))))))) (gm2) (fun r8 gr8 => ?_)
    exact zq_some (gr8)
  refine zq_if ?_ ?_
  · refine zq_call (q_X11_surveyFlows 0 m2) (fun _ _ _ => (fun h => Or.elim h (fun h => (Or.inl h)) (fun h => Or.elim h (fun h => (Or.inr (Or.inl h))) (fun h => Or.elim h (fun h => (Or.inr (Or.inr (Or.inl h)))) (fun h => Or.elim h (fun h => (Or.inr (Or.inr (Or.inr (Or.inl h))))) (fun h => Or.elim h (fun h => (Or.inr (Or.inr (Or.inr (Or.inr (Or.inl h)))))) (fun h => Or.elim h (fun h => (Or.inr (Or.inr (Or.inr (Or.inr (Or.inr (Or.inl h))))))) (fun h => Or.elim h (fun h => (Or.inr (Or.inr (Or.inr (Or.inr (Or.inr (Or.inr (Or.inl h)))))))) (fun h => Or.elim h (fun h => (Or.inr (Or.inr (Or.inr (Or.inr (Or.inr (Or.inr (Or.inr (Or.inl h))))))))) (fun h => Or.elim h (fun h => (Or.inr (Or.inr (Or.inr (Or.inr (Or.inr (Or.inr (Or.inr (Or.inr (Or.inl h)))))))))) (fun h => Or.elim h (fun h => (Or.inr (Or.inr (Or.inr (Or.inr (Or.inr (Or.inr (Or.inr (Or.inr (Or.inr (Or.inl h))))))))))) (fun h => Or.elim h (fun h => (Or.inr (Or.inr (Or.inr (Or.inr (Or.inr (Or.inr (Or.inr (Or.inr (Or.inr (Or.inr (Or.inl h)))))))))))) (fun h => Or.elim h (fun h => (Or.inr (Or.inr (Or.inr (Or.inr (Or.inr (Or.inr (Or.inr (Or.inr (Or.inr (Or.inr (Or.inr (Or.inl h))))))))))))) (fun h => Or.elim h (fun h => (Or.inr (Or.inr (Or.inr (Or.inr (Or.inr (Or.inr (Or.inr (Or.inr (Or.inr (Or.inr (Or.inr (Or.inr (Or.inl h)))))))))))))) (fun h => Or.elim h (fun h => (Or.inr (Or.inr (Or.inr (Or.inr (Or.inr (Or.inr (Or.inr (Or.inr (Or.inr (Or.inr (Or.inr (Or.inr (Or.inr (Or.inl h))))))))))))))) (fun h => Or.elim h (fun h => (Or.inr (Or.inr (Or.inr (Or.inr (Or.inr (Or.inr (Or.inr (Or.inr (Or.inr (Or.inr (Or.inr (Or.inr (Or.inr (Or.inr (Or.inl h)))))))))))))))) (fun h => (Or.inr (Or.inr (Or.inr (Or.inr (Or.inr (Or.inr (Or.inr (Or.inr (Or.inr (Or.inr (Or.inr (Or.inr (Or.inr (Or.inr (Or.inr (Or.inl h))))))))))))))))))))))))))))))))) (gm2) (fun r9 gr9 => ?_)
    refine zq_bind (fun r10 => ?_)
    exact zq_some (gr9)
  refine zq_if ?_ ?_
  · exact zq_some (gm2)
  · exact zq_some (gm2)
abbrev p_X11_flow (k i j : Nat) : Prop := (k = 20 ∧ i = 33) ∨ (k = 4 ∧ i = 0 ∧ j = 5) ∨ (k = 20 ∧ i = 34) ∨ (k = 20 ∧ i = 35) ∨ (k = 4 ∧ i = 0 ∧ j = 4) ∨ (k = 30 ∧ i = 0) ∨ (k = 5 ∧ i = 0 ∧ j = 0) ∨ (k = 5 ∧ i = 0 ∧ j = 1) ∨ (k = 20 ∧ i = 36) ∨ (k = 20 ∧ i = 41) ∨ (k = 20 ∧ i = 40) ∨ (k = 20 ∧ i = 42) ∨ (k = 20 ∧ i = 43) ∨ (k = 20 ∧ i = 37) ∨ (k = 20 ∧ i = 38) ∨ (k = 20 ∧ i = 39)
theorem q_X11_flow (x1 : Int32) (m : zM) : zFK (p_X11_flow) m (f_X11_flow x1 m) (fun a => a.2) := by
  unfold f_X11_flow
  refine zq_callx (q_X11_requireCell x1 m) (fun _ _ _ h => h.elim) (zFr.refl m) (fun _ _ => rfl) (fun r1 m2 gm2 => ?_)
  refine zq_call (q_X11_surveyFlows 0 m2) (fun _ _ _ => (fun h => Or.elim h (fun h => (Or.inl h)) (fun h => Or.elim h (fun h => (Or.inr (Or.inl h))) (fun h => Or.elim h (fun h => (Or.inr (Or.inr (Or.inl h)))) (fun h => Or.elim h (fun h => (Or.inr (Or.inr (Or.inr (Or.inl h))))) (fun h => Or.elim h (fun h => (Or.inr (Or.inr (Or.inr (Or.inr (Or.inl h)))))) (fun h => Or.elim h (fun h => (Or.inr (Or.inr (Or.inr (Or.inr (Or.inr (Or.inl h))))))) (fun h => Or.elim h (fun h => (Or.inr (Or.inr (Or.inr (Or.inr (Or.inr (Or.inr (Or.inl h)))))))) (fun h => Or.elim h (fun h => (Or.inr (Or.inr (Or.inr (Or.inr (Or.inr (Or.inr (Or.inr (Or.inl h))))))))) (fun h => Or.elim h (fun h => (Or.inr (Or.inr (Or.inr (Or.inr (Or.inr (Or.inr (Or.inr (Or.inr (Or.inl h)))))))))) (fun h => Or.elim h (fun h => (Or.inr (Or.inr (Or.inr (Or.inr (Or.inr (Or.inr (Or.inr (Or.inr (Or.inr (Or.inl h))))))))))) (fun h => Or.elim h (fun h => (Or.inr (Or.inr (Or.inr (Or.inr (Or.inr (Or.inr (Or.inr (Or.inr (Or.inr (Or.inr (Or.inl h)))))))))))) (fun h => Or.elim h (fun h => (Or.inr (Or.inr (Or.inr (Or.inr (Or.inr (Or.inr (Or.inr (Or.inr (Or.inr (Or.inr (Or.inr (Or.inl h))))))))))))) (fun h => Or.elim h (fun h => (Or.inr (Or.inr (Or.inr (Or.inr (Or.inr (Or.inr (Or.inr (Or.inr (Or.inr (Or.inr (Or.inr (Or.inr (Or.inl h)))))))))))))) (fun h => Or.elim h (fun h => (Or.inr (Or.inr (Or.inr (Or.inr (Or.inr (Or.inr (Or.inr (Or.inr (Or.inr (Or.inr (Or.inr (Or.inr (Or.inr (Or.inl h))))))))))))))) (fun h => Or.elim h (fun h => (Or.inr (Or.inr (Or.inr (Or.inr (Or.inr (Or.inr (Or.inr (Or.inr (Or.inr (Or.inr (Or.inr (Or.inr (Or.inr (Or.inr (Or.inl h)))))))))))))))) (fun h => (Or.inr (Or.inr (Or.inr (Or.inr (Or.inr (Or.inr (Or.inr (Or.inr (Or.inr (Or.inr (Or.inr (Or.inr (Or.inr (Or.inr (Or.inr h)))))))))))))))))))))))))))))))) (gm2) (fun r3 gr3 => ?_)
  refine zq_bind (fun r4 => ?_)
  refine zq_if ?_ ?_
  · exact zq_some (gr3)
  · exact zq_some (gr3)
abbrev p_X11_why (k i j : Nat) : Prop := (k = 20 ∧ i = 33) ∨ (k = 4 ∧ i = 0 ∧ j = 5) ∨ (k = 20 ∧ i = 34) ∨ (k = 20 ∧ i = 35) ∨ (k = 4 ∧ i = 0 ∧ j = 4) ∨ (k = 30 ∧ i = 0) ∨ (k = 5 ∧ i = 0 ∧ j = 0) ∨ (k = 5 ∧ i = 0 ∧ j = 1) ∨ (k = 20 ∧ i = 36) ∨ (k = 20 ∧ i = 41) ∨ (k = 20 ∧ i = 40) ∨ (k = 20 ∧ i = 42) ∨ (k = 20 ∧ i = 43) ∨ (k = 20 ∧ i = 37) ∨ (k = 20 ∧ i = 38) ∨ (k = 20 ∧ i = 39)
theorem q_X11_why (x1 : Int32) (x2 : Int32) (m : zM) : zFK (p_X11_why) m (f_X11_why x1 x2 m) (fun a => a.2) := by
  unfold f_X11_why
  refine zq_callx (q_X11_requireCell x1 m) (fun _ _ _ h => h.elim) (zFr.refl m) (fun _ _ => rfl) (fun r1 m2 gm2 => ?_)
  refine zq_callx (q_X11_requireRange x2 (0 : Int32) (2 : Int32) m2) (fun _ _ _ h => h.elim) (gm2) (fun _ _ => rfl) (fun r3 m4 gm4 => ?_)
  refine zq_call (q_X11_surveyFlows 0 m4) (fun _ _ _ => (fun h => Or.elim h (fun h => (Or.inl h)) (fun h => Or.elim h (fun h => (Or.inr (Or.inl h))) (fun h => Or.elim h (fun h => (Or.inr (Or.inr (Or.inl h)))) (fun h => Or.elim h (fun h => (Or.inr (Or.inr (Or.inr (Or.inl h))))) (fun h => Or.elim h (fun h => (Or.inr (Or.inr (Or.inr (Or.inr (Or.inl h)))))) (fun h => Or.elim h (fun h => (Or.inr (Or.inr (Or.inr (Or.inr (Or.inr (Or.inl h))))))) (fun h => Or.elim h (fun h => (Or.inr (Or.inr (Or.inr (Or.inr (Or.inr (Or.inr (Or.inl h)))))))) (fun h => Or.elim h (fun h => (Or.inr (Or.inr (Or.inr (Or.inr (Or.inr (Or.inr (Or.inr (Or.inl h))))))))) (fun h => Or.elim h (fun h => (Or.inr (Or.inr (Or.inr (Or.inr (Or.inr (Or.inr (Or.inr (Or.inr (Or.inl h)))))))))) (fun h => Or.elim h (fun h => (Or.inr (Or.inr (Or.inr (Or.inr (Or.inr (Or.inr (Or.inr (Or.inr (Or.inr (Or.inl h))))))))))) (fun h => Or.elim h (fun h => (Or.inr (Or.inr (Or.inr (Or.inr (Or.inr (Or.inr (Or.inr (Or.inr (Or.inr (Or.inr (Or.inl h)))))))))))) (fun h => Or.elim h (fun h => (Or.inr (Or.inr (Or.inr (Or.inr (Or.inr (Or.inr (Or.inr (Or.inr (Or.inr (Or.inr (Or.inr (Or.inl h))))))))))))) (fun h => Or.elim h (fun h => (Or.inr (Or.inr (Or.inr (Or.inr (Or.inr (Or.inr (Or.inr (Or.inr (Or.inr (Or.inr (Or.inr (Or.inr (Or.inl h)))))))))))))) (fun h => Or.elim h (fun h => (Or.inr (Or.inr (Or.inr (Or.inr (Or.inr (Or.inr (Or.inr (Or.inr (Or.inr (Or.inr (Or.inr (Or.inr (Or.inr (Or.inl h))))))))))))))) (fun h => Or.elim h (fun h => (Or.inr (Or.inr (Or.inr (Or.inr (Or.inr (Or.inr (Or.inr (Or.inr (Or.inr (Or.inr (Or.inr (Or.inr (Or.inr (Or.inr (Or.inl h)))))))))))))))) (fun h => (Or.inr (Or.inr (Or.inr (Or.inr (Or.inr (Or.inr (Or.inr (Or.inr (Or.inr (Or.inr (Or.inr (Or.inr (Or.inr (Or.inr (Or.inr h)))))))))))))))))))))))))))))))) (gm4) (fun r5 gr5 => ?_)
  refine zq_if ?_ ?_
  · refine zq_bind (fun r6 => ?_)
    refine zq_if ?_ ?_
    · refine zq_bind (fun r8 => ?_)
      refine zq_if ?_ ?_
      · exact zq_some (gr5)
      · exact zq_some (gr5)
    · exact zq_some (gr5)
  refine zq_if ?_ ?_
  · refine zq_bind (fun r10 => ?_)
    exact zq_some (gr5)
  · refine zq_bind (fun r11 => ?_)
    exact zq_some (gr5)
