/-- the handlers: each keeps what it caught in a place and answers a number -/
def z_okH (ow : Nat) (ct : zT) (nL : Nat) (ret : Option FieldType) (hh : List (Nat × Nat × Nat × Nat × Nat × Int32)) : Bool := hh.all fun q =>
  Nat.ble q.2.2.2.2.1 4 && (!(Nat.beq q.2.2.2.1 0) && (decide (Cond.classLink (z_cn ow) q.2.2.2.1 (z_ex q.2.2.2.2.1) ∈ lw_tbl) && (decide (ret = some .int) && (match z_lk ct q.2.2.1 with
    | some (l1, .inr (11, i, b, _)) => Nat.ble (i + 1) nL && (match z_lk ct (q.2.2.1 + l1) with
      | some (l2, .inr (2, _, _, _, _, x, _)) => decide (x = q.2.2.2.2.2) && (match z_lk ct (q.2.2.1 + l1 + l2) with
        | some (_, .inl .ireturn) => true
        | _ => false)
      | _ => false)
    | _ => false))))
theorem z_hf_split {pc e : Nat} {x : Int32} : ∀ {hh : List (Nat × Nat × Nat × Nat × Nat × Int32)}, z_hf hh pc e = some x → ∃ pre q suf, hh = pre ++ q :: suf ∧ q.1 ≤ pc ∧ pc < q.2.1 ∧ q.2.2.2.2.1 = e ∧ q.2.2.2.2.2 = x ∧ ∀ z ∈ pre, (decide (z.1 ≤ pc) && decide (pc < z.2.1)) = false ∨ z.2.2.2.2.1 ≠ e
  | [], h => by cases h
  | q :: t, h => by
    obtain ⟨a, b, h1, h2, e1, y⟩ := q
    simp only [z_hf] at h
    cases hc : (Nat.ble a pc && Nat.ble (pc + 1) b && Nat.beq e e1) with
    | true =>
      rw [hc] at h
      cases h
      simp only [Bool.and_eq_true] at hc
      exact ⟨[], _, t, rfl, Nat.le_of_ble_eq_true hc.1.1, Nat.le_of_ble_eq_true hc.1.2, (z_beq hc.2).symm, rfl, fun z hz => by cases hz⟩
    | false =>
      rw [hc] at h
      obtain ⟨pre, q, suf, g1, g2, g3, g4, g5, g6⟩ := z_hf_split h
      refine ⟨(a, b, h1, h2, e1, y) :: pre, q, suf, by rw [g1]; rfl, g2, g3, g4, g5, fun z hz => ?_⟩
      rcases List.mem_cons.mp hz with rfl | hz
      · by_cases h5 : e1 = e
        · left
          subst h5
          rw [Bool.and_eq_false_iff, Bool.and_eq_false_iff] at hc
          rw [Bool.and_eq_false_iff]
          rcases hc with (h6 | h6) | h6
          · left; rw [decide_eq_false_iff_not]; intro h7; rw [Nat.ble_eq_true_of_le h7] at h6; cases h6
          · right; rw [decide_eq_false_iff_not]; intro h7; rw [Nat.ble_eq_true_of_le h7] at h6; cases h6
          · rw [Nat.beq_refl] at h6; cases h6
        · exact Or.inr h5
      · exact g6 z hz
theorem z_hf_none {pc e : Nat} : ∀ {hh : List (Nat × Nat × Nat × Nat × Nat × Int32)}, z_hf hh pc e = none → ∀ z ∈ hh, (decide (z.1 ≤ pc) && decide (pc < z.2.1)) = false ∨ z.2.2.2.2.1 ≠ e
  | [], _, z, hz => by cases hz
  | q :: t, h, z, hz => by
    obtain ⟨a, b, h1, h2, e1, y⟩ := q
    simp only [z_hf] at h
    cases hc : (Nat.ble a pc && Nat.ble (pc + 1) b && Nat.beq e e1) with
    | true => rw [hc] at h; cases h
    | false =>
      rw [hc] at h
      rcases List.mem_cons.mp hz with rfl | hz
      · by_cases h5 : e1 = e
        · left
          subst h5
          rw [Bool.and_eq_false_iff, Bool.and_eq_false_iff] at hc
          rw [Bool.and_eq_false_iff]
          rcases hc with (h6 | h6) | h6
          · left; rw [decide_eq_false_iff_not]; intro h7; rw [Nat.ble_eq_true_of_le h7] at h6; cases h6
          · right; rw [decide_eq_false_iff_not]; intro h7; rw [Nat.ble_eq_true_of_le h7] at h6; cases h6
          · rw [Nat.beq_refl] at h6; cases h6
        · exact Or.inr h5
      · exact z_hf_none h z hz
/-- all that is checked of a method -/
def z_okM (MT : Nat → zI) (y : Nat) : Prop :=
  z_mok (MT y) ∧ z_okT (z_ow (MT y)) (MT y).2.1 (MT y).2.2.2.2.2.1 = true ∧ z_okC (z_ow (MT y)) (MT y).2.1 MT (MT y).2.2.2.2.2.1 = true ∧ z_okX (z_ow (MT y)) (MT y).2.1 (MT y).2.2.2.1 (MT y).2.2.2.2.2.1 = true ∧ z_okH (z_ow (MT y)) (MT y).2.2.2.2.2.1 (MT y).2.2.1 (MT y).2.2.2.1 (MT y).2.2.2.2.1 = true ∧
  ((MT y).2.2.2.2.1 = [] ∨ ((MT y).2.2.2.2.2.1.all fun ch => ch.2.all fun x => match x.2.2 with | .inr (19, _) => false | _ => true) = true)
theorem z_nothr {ct : zT} {pc : Nat} {st : List zA} {e : Nat} (h : (ct.all fun ch => ch.2.all fun x => match x.2.2 with | .inr (19, _) => false | _ => true) = true) (ht : z_thr ct pc st = some e) : False := by
  unfold z_thr at ht
  split at ht
  · rename_i len a rest hl
    have key : ∀ (ct : zT) (r : Nat × zR), (ct.all fun ch => ch.2.all fun x => match x.2.2 with | .inr (19, _) => false | _ => true) = true → z_lk ct pc = some r → (match r.2 with | .inr (19, _) => false | _ => true) = true := by
      intro ct r hct h
      induction ct with
      | nil => cases h
      | cons x t ih =>
        obtain ⟨b, ch⟩ := x
        rw [List.all_cons, Bool.and_eq_true] at hct
        simp only [z_lk] at h
        cases hb : Nat.ble pc b with
        | true =>
          rw [hb] at h
          exact List.all_eq_true.mp hct.1 _ (z_lk1_mem (len := r.1) (r := r.2) h)
        | false =>
          rw [hb] at h
          exact ih hct.2 h
    have := key ct _ h hl
    cases this
  · cases ht
theorem z_args_as (ad : Nat → Nat → Nat) (as : List zA) (n : Nat) (h : (z_sl as).length ≤ n) : (lg_sl (as.map (z_cv ad))).length ≤ n := by
  have key : ∀ as : List zA, (lg_sl (as.map (z_cv ad))).length = (z_sl as).length := by
    intro as
    induction as with
    | nil => rfl
    | cons v t ih =>
      unfold lg_sl at ih ⊢
      rw [List.map_cons, List.flatMap_cons, List.length_append, ih]
      simp only [z_sl]
      cases hc : z_c2 v with
      | true =>
        have : (z_cv ad v).category = 2 := by
          rcases v with v | q
          · cases v <;> first | rfl | cases hc
          · cases hc
        rw [this, cond_true, if_pos rfl]
        simp
        omega
      | false =>
        rw [z_cat ad v hc, cond_false, if_neg (by decide)]
        simp
        omega
  rw [key]
  exact h
theorem z_rep_len : ∀ n, (z_rep n).length = n
  | 0 => rfl
  | n + 1 => by simp [z_rep, z_rep_len n]
theorem z_rep_get : ∀ n i, z_get (z_rep n) i = none
  | 0, i => by cases i <;> rfl
  | n + 1, 0 => rfl
  | n + 1, i + 1 => z_rep_get n i
theorem z_ent_get {ad : Nat → Nat → Nat} : ∀ (as : List zA) (n j i : Nat) (v : zA), z_get (z_sl as ++ z_rep n) i = some v → (j + i, z_cv ad v) ∈ lv_args j (as.map (z_cv ad))
  | [], n, j, i, v, h => by
    rw [show z_sl [] ++ z_rep n = z_rep n from rfl, z_rep_get] at h
    cases h
  | a :: t, n, j, i, v, h => by
    rw [List.map_cons]
    unfold lv_args
    simp only [z_sl] at h
    cases hc : z_c2 a with
    | true =>
      have h2 : (z_cv ad a).category = 2 := by
        rcases a with a | q
        · cases a <;> first | rfl | cases hc
        · cases hc
      rw [hc, cond_true] at h
      rw [if_pos h2]
      match i, h with
      | 0, h => cases h; exact List.mem_cons_self
      | 1, h => cases h
      | i + 2, h =>
        have := z_ent_get (ad := ad) t n (j + 2) i v h
        rw [show j + (i + 2) = j + 2 + i by omega]
        exact List.mem_cons_of_mem _ this
    | false =>
      rw [hc, cond_false] at h
      rw [if_neg (by rw [z_cat ad a hc]; decide)]
      match i, h with
      | 0, h => cases h; exact List.mem_cons_self
      | i + 1, h =>
        have := z_ent_get (ad := ad) t n (j + 1) i v h
        rw [show j + (i + 1) = j + 1 + i by omega]
        exact List.mem_cons_of_mem _ this
theorem z_ent_LR {ad : Nat → Nat → Nat} {as : List zA} {n : Nat} (h : (z_sl as).length ≤ n) : z_LR ad (z_ent n as) ((lg_sl (as.map (z_cv ad)) ++ List.replicate (n - (lg_sl (as.map (z_cv ad))).length) Slot.unset).toArray) n := by
  have hl := lv_entry (as.map (z_cv ad)) (z_args_as ad as n h)
  refine ⟨?_, hl.1, hl.2.1, fun i v hv => ?_⟩
  · unfold z_ent
    simp only [List.length_append, z_rep_len]
    omega
  · unfold z_ent at hv
    have := z_ent_get (ad := ad) as _ 0 i v hv
    rw [Nat.zero_add] at this
    exact hl.2.2 _ this
