def z_fV (ad : Nat → Nat → Nat) (Rf : Nat → Nat → Nat → zA) (m : zM) (k i j : Nat) : Value := match z_fty k j with
  | 0 => .int (m.1 k i j) | 1 => .long (m.2.1 k i j) | 3 => .int (m.1 k i j) | _ => z_cv ad (Rf k i j)
def z_rf (ad : Nat → Nat → Nat) : zA → Option Nat
  | .inr q => some (ad q.1 q.2)
  | _ => none
def z_aR (ad : Nat → Nat → Nat) (Rf : Nat → Nat → Nat → zA) (m : zM) (k i : Nat) : (Nat → Int32) ⊕ (Nat → Int64) ⊕ (Nat → UInt32) ⊕ (Nat → UInt64) ⊕ (Nat → Option Nat) := match z_aty k with
  | 1 => .inr (.inl (m.2.1 k i)) | 2 => .inr (.inr (.inr (.inl (m.2.2 k i)))) | 4 => .inr (.inr (.inr (.inr (fun j => z_rf ad (Rf k i j))))) | _ => .inl (m.1 k i)
def z_cE (ad : Nat → Nat → Nat) (Rf : Nat → Nat → Nat → zA) (cA : Nat → Nat → ClassId) (m : zM) (k i : Nat) : va_E :=
  if k < 20 then .inr (k, (List.range (z_C k).2.2).map (z_fV ad Rf m k i)) else .inl (cA k i, z_alen k, z_aR ad Rf m k i)
def z_aT (k : Nat) : FieldType := match z_aty k with
  | 1 => .long | 2 => .double | 3 => .char | 4 => .object RX4 | _ => .int
def z_ids (N : Nat → Nat) : List (Nat × Nat) := (List.range 36).flatMap fun k => (List.range (N k)).map fun i => (k, i)
def z_okN (N : Nat → Nat) : Prop := ∀ k, 0 < N k → (2 ≤ k ∧ k < 14) ∨ (20 ≤ k ∧ k < 36)
def z_okR (Rf : Nat → Nat → Nat → zA) : Prop := ∀ k i j, z_aty k = 4 → Rf k i j = .inl .null ∨ ∃ q, Rf k i j = .inr q
theorem z_ids_at {N : Nat → Nat} (hN : z_okN N) {k i : Nat} (h : i < N k) : ∃ q0 : Nat, (z_ids N)[q0]? = some (k, i) := by
  have hk := hN k (by omega)
  have : (k, i) ∈ z_ids N := by
    unfold z_ids
    rw [List.mem_flatMap]
    exact ⟨k, List.mem_range.mpr (by omega), List.mem_map.mpr ⟨i, List.mem_range.mpr h, rfl⟩⟩
  exact List.getElem?_of_mem this
theorem z_ids_lt {N : Nat → Nat} {q0 k i : Nat} (h : (z_ids N)[q0]? = some (k, i)) : i < N k := by
  have h1 := List.mem_of_getElem? h
  unfold z_ids at h1
  rw [List.mem_flatMap] at h1
  obtain ⟨a, -, h2⟩ := h1
  obtain ⟨b, h3, h4⟩ := List.mem_map.mp h2
  cases h4
  exact List.mem_range.mp h3
def z_wl (ad : Nat → Nat → Nat) (N : Nat → Nat) (Rf : Nat → Nat → Nat → zA) (cA : Nat → Nat → ClassId) (m : zM) : va_W := (z_ids N).map fun q => (ad q.1 q.2, z_cE ad Rf cA m q.1 q.2)
theorem z_wl_at {ad : Nat → Nat → Nat} {N : Nat → Nat} {Rf : Nat → Nat → Nat → zA} {cA : Nat → Nat → ClassId} {m : zM} {q0 k i : Nat} (h : (z_ids N)[q0]? = some (k, i)) : (z_wl ad N Rf cA m)[q0]? = some (ad k i, z_cE ad Rf cA m k i) := by
  unfold z_wl
  rw [List.getElem?_map, h]
  rfl
theorem z_wl_set {A : Nat → Prop} {ad : Nat → Nat → Nat} {N : Nat → Nat} {Rf : Nat → Nat → Nat → zA} {cA : Nat → Nat → ClassId} {m m' : zM} {q0 k i : Nat} (hD : va_D A (z_wl ad N Rf cA m)) (h : (z_ids N)[q0]? = some (k, i)) (he : ∀ k' i', (k' ≠ k ∨ i' ≠ i) → z_cE ad Rf cA m' k' i' = z_cE ad Rf cA m k' i') :
    (z_wl ad N Rf cA m).set q0 (ad k i, z_cE ad Rf cA m' k i) = z_wl ad N Rf cA m' := by
  apply List.ext_getElem?
  intro n
  rw [List.getElem?_set]
  by_cases e : q0 = n
  · subst e
    have hl : q0 < (z_wl ad N Rf cA m).length := (List.getElem?_eq_some_iff.mp (z_wl_at (ad := ad) (Rf := Rf) (cA := cA) (m := m) h)).1
    rw [if_pos rfl, if_pos hl, z_wl_at h]
  · rw [if_neg e]
    cases hn : (z_ids N)[n]? with
    | none =>
      unfold z_wl
      rw [List.getElem?_map, List.getElem?_map, hn]
      rfl
    | some q =>
      obtain ⟨k', i'⟩ := q
      rw [z_wl_at hn, z_wl_at hn, he k' i' ?_]
      rcases Nat.decEq k' k with h1 | h1
      · exact Or.inl h1
      · rcases Nat.decEq i' i with h2 | h2
        · exact Or.inr h2
        · subst h1; subst h2
          exact absurd (hD.1 _ _ _ _ (z_wl_at h) (z_wl_at hn) rfl) e
theorem z_cE_sI {ad : Nat → Nat → Nat} {Rf : Nat → Nat → Nat → zA} {cA : Nat → Nat → ClassId} {m : zM} {k i j : Nat} {v : Int32} : ∀ k' i', (k' ≠ k ∨ i' ≠ i) → z_cE ad Rf cA (z_sI m k i j v) k' i' = z_cE ad Rf cA m k' i' := by
  intro k' i' h
  have e : (z_sI m k i j v).1 k' i' = m.1 k' i' := by
    funext c
    show (if k' = k ∧ i' = i ∧ c = j then v else m.1 k' i' c) = _
    rw [if_neg (by rintro ⟨h1, h2, -⟩; rcases h with q | q <;> contradiction)]
  unfold z_cE z_aR
  have e2 : z_fV ad Rf (z_sI m k i j v) k' i' = z_fV ad Rf m k' i' := by
    funext c
    unfold z_fV
    rw [e]
    rfl
  rw [e, e2]
  rfl
theorem z_cE_sL {ad : Nat → Nat → Nat} {Rf : Nat → Nat → Nat → zA} {cA : Nat → Nat → ClassId} {m : zM} {k i j : Nat} {v : Int64} : ∀ k' i', (k' ≠ k ∨ i' ≠ i) → z_cE ad Rf cA (z_sL m k i j v) k' i' = z_cE ad Rf cA m k' i' := by
  intro k' i' h
  have e : (z_sL m k i j v).2.1 k' i' = m.2.1 k' i' := by
    funext c
    show (if k' = k ∧ i' = i ∧ c = j then v else m.2.1 k' i' c) = _
    rw [if_neg (by rintro ⟨h1, h2, -⟩; rcases h with q | q <;> contradiction)]
  unfold z_cE z_aR
  have e2 : z_fV ad Rf (z_sL m k i j v) k' i' = z_fV ad Rf m k' i' := by
    funext c
    unfold z_fV
    rw [e]
    rfl
  rw [e, e2]
  rfl
theorem z_cE_sD {ad : Nat → Nat → Nat} {Rf : Nat → Nat → Nat → zA} {cA : Nat → Nat → ClassId} {m : zM} {k i j : Nat} {v : UInt64} : ∀ k' i', (k' ≠ k ∨ i' ≠ i) → z_cE ad Rf cA (z_sD m k i j v) k' i' = z_cE ad Rf cA m k' i' := by
  intro k' i' h
  have e : (z_sD m k i j v).2.2 k' i' = m.2.2 k' i' := by
    funext c
    show (if k' = k ∧ i' = i ∧ c = j then v else m.2.2 k' i' c) = _
    rw [if_neg (by rintro ⟨h1, h2, -⟩; rcases h with q | q <;> contradiction)]
  unfold z_cE z_aR
  have e2 : z_fV ad Rf (z_sD m k i j v) k' i' = z_fV ad Rf m k' i' := rfl
  rw [e, e2]
  rfl
/-- the world that stays, and the one that moves -/
def z_W0 (A : Nat → Prop) (N : Nat → Nat) (Rf : Nat → Nat → Nat → zA) (dC : Nat → ClassId) (dI : Nat → Nat → Nat) (cA : Nat → Nat → ClassId) (s : State) : Prop :=
  va_K (dC, dI) vwCl [] s ∧ (∀ k i, i < N k → 20 ≤ k → ArrOfT s (cA k i) (z_aT k) ∧ va_RA s (cA k i) (z_aT k)) ∧ z_okR Rf ∧ z_okN N ∧ ∀ q, s.heap.size ≤ q → A q
def z_I (A : Nat → Prop) (ad : Nat → Nat → Nat) (N : Nat → Nat) (Rf : Nat → Nat → Nat → zA) (dC : Nat → ClassId) (dI : Nat → Nat → Nat) (cA : Nat → Nat → ClassId) (H0 : Heap) (m : zM) (H : Heap) (locs : List Loc) : Prop :=
  va_P (dC, dI) vwCl (z_wl ad N Rf cA m) H ∧ va_D A (z_wl ad N Rf cA m) ∧ va_S A H0 H locs
def z_LR (ad : Nat → Nat → Nat) (ls : zL) (lsC : Array Slot) (nL : Nat) : Prop := ls.length = nL ∧ lsC.size = nL ∧ lv_wf lsC ∧ ∀ i v, z_get ls i = some v → lsC[i]? = some (.val (z_cv ad v))
def z_G (p : Program) (l : Launch) (e : Env) (R : Room) (s : State) (mi : MethodId) (args : Array Value) (below : List Frame) (meth : Method) (c : Code) (Q : State → Prop) (K nL : Nat)
    (A : Nat → Prop) (ad : Nat → Nat → Nat) (N : Nat → Nat) (Rf : Nat → Nat → Nat → zA) (dC : Nat → ClassId) (dI : Nat → Nat → Nat) (cA : Nat → Nat → ClassId) : Nat → Nat → zL → List zA → zM → Prop := fun k pc ls st m =>
  ∀ (H : Heap) (locs : List Loc) (lsC : Array Slot) (cells slots : Nat), cells + k ≤ K → slots + 6 * k ≤ 6 * K → z_I A ad N Rf dC dI cA s.heap m H locs → z_LR ad ls lsC nL → W p l e R s mi args below meth c H locs cells slots Q (F0 mi pc lsC (st.map (z_cv ad)))
section
variable {p : Program} {l : Launch} {e : Env} {R : Room} {s : State} {mi : MethodId} {args : Array Value} {below : List Frame} {meth : Method} {c : Code} {Q : State → Prop} {K nL : Nat}
variable {A : Nat → Prop} {ad : Nat → Nat → Nat} {N : Nat → Nat} {Rf : Nat → Nat → Nat → zA} {dC : Nat → ClassId} {dI : Nat → Nat → Nat} {cA : Nat → Nat → ClassId}
variable {cc : ByteArray} {pc nx : Nat} {ls : zL} {m : zM} {st : List zA} {k : Nat} {r : zS} {P : Prop}
theorem z_II_inv {f : Int32 → Int32 → Int32} (h : z_II nx ls m st f = some (r, P)) : ∃ x y t, st = .inl (.int y) :: .inl (.int x) :: t ∧ r = (nx, ls, .inl (.int (f x y)) :: t, m) := by
  unfold z_II at h
  split at h
  · cases h; exact ⟨_, _, _, rfl, rfl⟩
  · cases h
theorem z_IIg_inv {f : Int32 → Int32 → Int32} (h : z_IIg nx ls m st f = some (r, P)) : ∃ x y t, st = .inl (.int y) :: .inl (.int x) :: t ∧ r = (nx, ls, .inl (.int (f x y)) :: t, m) ∧ P = ¬ y = 0 := by
  unfold z_IIg at h
  split at h
  · cases h; exact ⟨_, _, _, rfl, rfl, rfl⟩
  · cases h
theorem z_LL_inv {f : Int64 → Int64 → Int64} (h : z_LL nx ls m st f = some (r, P)) : ∃ x y t, st = .inl (.long y) :: .inl (.long x) :: t ∧ r = (nx, ls, .inl (.long (f x y)) :: t, m) := by
  unfold z_LL at h
  split at h
  · cases h; exact ⟨_, _, _, rfl, rfl⟩
  · cases h
theorem z_LI_inv {f : Int64 → Int32 → Int64} (h : z_LI nx ls m st f = some (r, P)) : ∃ x y t, st = .inl (.int y) :: .inl (.long x) :: t ∧ r = (nx, ls, .inl (.long (f x y)) :: t, m) := by
  unfold z_LI at h
  split at h
  · cases h; exact ⟨_, _, _, rfl, rfl⟩
  · cases h
theorem z_I_inv {f : Int32 → Value} (h : z_I' nx ls m st f = some (r, P)) : ∃ x t, st = .inl (.int x) :: t ∧ r = (nx, ls, .inl (f x) :: t, m) := by
  unfold z_I' at h
  split at h
  · cases h; exact ⟨_, _, rfl, rfl⟩
  · cases h
theorem z_al_inv {ty : Nat} {f : Nat → Nat → Nat → zA} (h : z_al N nx ls m st ty f = some (r, P)) : ∃ x k i t, st = .inl (.int x) :: .inr (k, i) :: t ∧ z_aty k = ty ∧ 20 ≤ k ∧ r = (nx, ls, f k i x.toNatClampNeg :: t, m) ∧ P = (i < N k ∧ vp_in x (z_alen k)) := by
  unfold z_al at h
  split at h
  · rename_i x k i t
    cases hb : (Nat.beq (z_aty k) ty && Nat.ble 20 k) with
    | false => rw [hb] at h; cases h
    | true =>
      rw [hb] at h
      cases h
      rw [Bool.and_eq_true] at hb
      exact ⟨_, _, _, _, rfl, Nat.eq_of_beq_eq_true hb.1, Nat.le_of_ble_eq_true hb.2, rfl, rfl⟩
  · cases h
theorem z_K {k i : Nat} (h0 : z_W0 A N Rf dC dI cA s) (hi : i < N k) (hk : 20 ≤ k) : va_K (dC, dI) vwCl [(cA k i, z_aT k)] s := by
  refine ⟨h0.1.1, fun n q hq => ?_⟩
  cases n with
  | zero => cases hq; exact h0.2.1 k i hi hk
  | succ n => cases hq
theorem z_cE_arr {k i : Nat} (hk : 20 ≤ k) : z_cE ad Rf cA m k i = .inl (cA k i, z_alen k, z_aR ad Rf m k i) := by
  unfold z_cE
  rw [if_neg (by omega)]
theorem z_cE_obj {k i : Nat} (hk : k < 20) : z_cE ad Rf cA m k i = .inr (k, (List.range (z_C k).2.2).map (z_fV ad Rf m k i)) := by
  unfold z_cE
  rw [if_pos hk]
end
