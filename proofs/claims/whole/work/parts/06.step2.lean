def z_fin4 (a : Nat) : Fin 4 := ⟨a % 4, Nat.mod_lt _ (by decide)⟩
def z_wdb (w : Nat) (c : Cond) : Bool := decide (lw_tbl[w]? = some c) && goodWord c
theorem z_wdb_in {w : Nat} {c : Cond} (h : z_wdb w c = true) : c ∈ z_W := by
  unfold z_wdb at h
  rw [Bool.and_eq_true, decide_eq_true_eq] at h
  exact z_at w h.1 h.2
/-- what a row of a method's table has to do with the method's bytes and the tables' words -/
def z_lkb (ow : Nat) (cc : ByteArray) : Nat × Nat × zR → Bool
  | (pc, len, .inl (.tableswitch d lo hi o)) => decide (decode cc pc = .ok (.tableswitch d lo hi o, len)) && (decide (0 ≤ (pc : Int) + d) && (o.toList.all (fun v => decide (0 ≤ (pc : Int) + v)) && decide (hi - lo < (o.size : Int))))
  | (pc, len, .inl (.lookupswitch d ps)) => decide (decode cc pc = .ok (.lookupswitch d ps, len)) && (decide (0 ≤ (pc : Int) + d) && (ps.toList.all (fun v => decide (0 ≤ (pc : Int) + v.2)) && (ps.toList.zip (ps.toList.drop 1)).all (fun (a, next) => a.1 < next.1)))
  | (pc, len, .inl i) => Nat.beq len 1 && decide (decode cc pc = .ok (i, 1))
  | (pc, len, .inr (0, a, b, w, v, _)) => Nat.beq len 3 && (decide (decode cc pc = .ok (.getfield v, 3)) && decide (z_FL[w]? = some (ow, v, a, b)))
  | (pc, len, .inr (1, a, b, w, v, _)) => Nat.beq len 3 && (decide (decode cc pc = .ok (.putfield v, 3)) && (decide (z_FL[w]? = some (ow, v, a, b)) && !((z_C a).2.1 b).2.2.2))
  | (pc, len, .inr (2, _, b, w, v, ci, _)) => match b with
    | 0 => Nat.beq len 1 && (decide (decode cc pc = .ok (.iconst ci.toInt, 1)) && decide (Int32.ofInt ci.toInt = ci))
    | 1 => Nat.beq len 2 && (decide (decode cc pc = .ok (.bipush ci.toInt, 2)) && decide ((Int8.ofInt ci.toInt).toInt32 = ci))
    | 2 => Nat.beq len 3 && (decide (decode cc pc = .ok (.sipush ci.toInt, 3)) && decide ((Int16.ofInt ci.toInt).toInt32 = ci))
    | 3 => Nat.beq len 2 && (decide (decode cc pc = .ok (.ldc v, 2)) && decide (z_CL[w]? = some (ow, v, ci)))
    | _ => Nat.beq len 3 && (decide (decode cc pc = .ok (.ldc_w v, 3)) && decide (z_CL[w]? = some (ow, v, ci)))
  | (pc, len, .inr (3, _, b, w, v, _, cl)) => match b with
    | 0 => Nat.beq len 1 && (decide (decode cc pc = .ok (.lconst 0, 1)) && decide (cl = 0))
    | 1 => Nat.beq len 1 && (decide (decode cc pc = .ok (.lconst 1, 1)) && decide (cl = 1))
    | _ => Nat.beq len 3 && (decide (decode cc pc = .ok (.ldc2_w v, 3)) && decide (z_LL0[w]? = some (ow, v, cl)))
  | (pc, len, .inr (4, a, _, _, _, ci, _)) => Nat.beq len 3 && (decide (decode cc pc = .ok (.iinc a ci.toInt, 3)) && decide (Int32.ofInt ci.toInt = ci))
  | (pc, len, .inr (5, a, b, _)) => match b with
    | 0 => Nat.beq len 1 && (Nat.ble a 3 && decide (decode cc pc = .ok (.iload_n (z_fin4 a), 1)))
    | _ => Nat.beq len 2 && decide (decode cc pc = .ok (.iload a, 2))
  | (pc, len, .inr (6, a, b, _)) => match b with
    | 0 => Nat.beq len 1 && (Nat.ble a 3 && decide (decode cc pc = .ok (.lload_n (z_fin4 a), 1)))
    | _ => Nat.beq len 2 && decide (decode cc pc = .ok (.lload a, 2))
  | (pc, len, .inr (7, a, b, _)) => match b with
    | 0 => Nat.beq len 1 && (Nat.ble a 3 && decide (decode cc pc = .ok (.aload_n (z_fin4 a), 1)))
    | _ => Nat.beq len 2 && decide (decode cc pc = .ok (.aload a, 2))
  | (pc, len, .inr (8, a, _)) => Nat.beq len 2 && decide (decode cc pc = .ok (.dload a, 2))
  | (pc, len, .inr (9, a, b, _)) => match b with
    | 0 => Nat.beq len 1 && (Nat.ble a 3 && decide (decode cc pc = .ok (.istore_n (z_fin4 a), 1)))
    | _ => Nat.beq len 2 && decide (decode cc pc = .ok (.istore a, 2))
  | (pc, len, .inr (10, a, b, _)) => match b with
    | 0 => Nat.beq len 1 && (Nat.ble a 3 && decide (decode cc pc = .ok (.lstore_n (z_fin4 a), 1)))
    | _ => Nat.beq len 2 && decide (decode cc pc = .ok (.lstore a, 2))
  | (pc, len, .inr (11, a, b, _)) => match b with
    | 0 => Nat.beq len 1 && (Nat.ble a 3 && decide (decode cc pc = .ok (.astore_n (z_fin4 a), 1)))
    | _ => Nat.beq len 2 && decide (decode cc pc = .ok (.astore a, 2))
  | (pc, len, .inr (12, a, _)) => Nat.beq len 2 && decide (decode cc pc = .ok (.dstore a, 2))
  | (pc, len, .inr (13, a, _)) => Nat.beq len 3 && decide (decode cc pc = .ok (.goto ((a : Int) - pc), 3))
  | (pc, len, .inr (14, a, b, _)) => Nat.beq len 3 && decide (decode cc pc = .ok (.ifCond (match b with
    | 0 => .eq | 1 => .ne | 2 => .lt | 3 => .ge | 4 => .gt | _ => .le) ((a : Int) - pc), 3))
  | (pc, len, .inr (15, a, b, _)) => Nat.beq len 3 && decide (decode cc pc = .ok (.if_icmp (match b with
    | 0 => .eq | 1 => .ne | 2 => .lt | 3 => .ge | 4 => .gt | _ => .le) ((a : Int) - pc), 3))
  | (pc, len, .inr (16, a, _)) => Nat.beq len 3 && decide (decode cc pc = .ok (.ifnull ((a : Int) - pc), 3))
  | (_, _, .inr (18, _)) => true
  | (_, _, .inr (19, _)) => true
  | _ => false
theorem z_get_set (ls : zL) (a i : Nat) (x : Option zA) : z_get (z_set ls a x) i = if i = a ∧ a < ls.length then x else z_get ls i := by
  induction ls generalizing a i with
  | nil => simp [z_set, z_get]
  | cons h t ih =>
    cases a with
    | zero =>
      cases i with
      | zero => simp [z_set, z_get]
      | succ i => simp [z_set, z_get]
    | succ a =>
      cases i with
      | zero => simp [z_set, z_get]
      | succ i => simp [z_set, z_get, ih]
theorem z_set_len (ls : zL) (a : Nat) (x : Option zA) : (z_set ls a x).length = ls.length := by
  induction ls generalizing a with
  | nil => rfl
  | cons h t ih =>
    cases a with
    | zero => rfl
    | succ a => simp [z_set, ih]
theorem z_get_lt {ls : zL} {i : Nat} {v : zA} (h : z_get ls i = some v) : i < ls.length := by
  induction ls generalizing i with
  | nil => cases h
  | cons x t ih =>
    cases i with
    | zero => simp
    | succ i => simp only [z_get] at h; have := ih h; simp; omega
theorem z_cl_len (ls : zL) (a : Nat) : (z_cl ls a).length = ls.length := by
  cases a with
  | zero => rfl
  | succ j =>
    cases hj : z_get ls j with
    | none => simp only [z_cl, hj]
    | some v => cases hc : z_c2 v <;> simp [z_cl, hj, hc, z_set_len]
theorem z_get_cl {ls : zL} {a i : Nat} {w : zA} (h : z_get (z_cl ls a) i = some w) : z_get ls i = some w ∧ (i + 1 = a → z_c2 w = false) := by
  cases a with
  | zero => exact ⟨h, fun h => by omega⟩
  | succ j =>
    cases hj : z_get ls j with
    | none =>
      simp only [z_cl, hj] at h
      refine ⟨h, fun e => ?_⟩
      have : i = j := by omega
      subst this
      rw [hj] at h
      cases h
    | some v =>
      simp only [z_cl, hj] at h
      cases hc : z_c2 v with
      | false =>
        simp only [hc] at h
        refine ⟨h, fun e => ?_⟩
        have : i = j := by omega
        subst this
        rw [cond_false, hj] at h
        cases h
        exact hc
      | true =>
        simp only [hc, cond_true] at h
        rw [z_get_set] at h
        split at h
        · cases h
        · rename_i hn
          refine ⟨h, fun e => ?_⟩
          have : i = j := by omega
          subst this
          exact absurd ⟨rfl, z_get_lt hj⟩ hn
def z_as (ad : Nat → Nat → Nat) (ls : zL) : List (Nat × Value) := (List.range ls.length).filterMap fun i => (z_get ls i).map fun v => (i, z_cv ad v)
theorem z_as_in {ad : Nat → Nat → Nat} {ls : zL} {i : Nat} {v : zA} (h : z_get ls i = some v) : (i, z_cv ad v) ∈ z_as ad ls := by
  unfold z_as
  rw [List.mem_filterMap]
  exact ⟨i, List.mem_range.mpr (z_get_lt h), by rw [h]; rfl⟩
theorem z_as_has {ad : Nat → Nat → Nat} {ls : zL} {lsC : Array Slot} {nL : Nat} (h : z_LR ad ls lsC nL) : lv_has lsC nL (z_as ad ls) := by
  refine ⟨h.2.1, h.2.2.1, fun q hq => ?_⟩
  unfold z_as at hq
  rw [List.mem_filterMap] at hq
  obtain ⟨i, -, hi⟩ := hq
  cases hg : z_get ls i with
  | none => rw [hg] at hi; cases hi
  | some v =>
    rw [hg] at hi
    cases hi
    exact h.2.2.2 i v hg
theorem z_cat (ad : Nat → Nat → Nat) (v : zA) (h : z_c2 v = false) : (z_cv ad v).category = 1 := by
  rcases v with v | q
  · cases v <;> first | rfl | cases h
  · rfl
theorem z_LR_st1 {ad : Nat → Nat → Nat} {ls : zL} {lsC ls' : Array Slot} {nL a : Nat} {v : zA} {lv' : List (Nat × Value)} (h : z_LR ad ls lsC nL) (hv : (a, z_cv ad v) :: (z_as ad ls).filter (fun q => !(q.1 == a) && !(q.1 + 1 == a && q.2.category == 2)) = lv') (h' : lv_has ls' nL lv') : z_LR ad (z_st1 ls a v) ls' nL := by
  subst hv
  refine ⟨by unfold z_st1; rw [z_set_len, z_cl_len]; exact h.1, h'.1, h'.2.1, fun i w hw => ?_⟩
  unfold z_st1 at hw
  rw [z_get_set] at hw
  split at hw
  · rename_i hi
    cases hw
    rw [hi.1]
    exact h'.2.2 (a, z_cv ad v) List.mem_cons_self
  · rename_i hi
    obtain ⟨h1, h2⟩ := z_get_cl hw
    have hia : i ≠ a := fun e => hi ⟨e, by rw [z_cl_len, ← e]; exact z_get_lt h1⟩
    refine h'.2.2 (i, z_cv ad w) (List.mem_cons_of_mem _ (List.mem_filter.mpr ⟨z_as_in h1, ?_⟩))
    by_cases e : i + 1 = a
    · simp [hia, z_cat ad w (h2 e)]
    · simp [hia, e]
theorem z_LR_st2 {ad : Nat → Nat → Nat} {ls : zL} {lsC ls' : Array Slot} {nL a : Nat} {v : zA} {lv' : List (Nat × Value)} (h : z_LR ad ls lsC nL) (ha : a + 2 ≤ ls.length) (hv : (a, z_cv ad v) :: (z_as ad ls).filter (fun q => !(q.1 == a) && (!(q.1 == a + 1) && !(q.1 + 1 == a && q.2.category == 2))) = lv') (h' : lv_has ls' nL lv') : z_LR ad (z_st2 ls a v) ls' nL := by
  subst hv
  refine ⟨by unfold z_st2; rw [z_set_len, z_set_len, z_cl_len]; exact h.1, h'.1, h'.2.1, fun i w hw => ?_⟩
  unfold z_st2 at hw
  rw [z_get_set] at hw
  split at hw
  · cases hw
  · rename_i hi1
    rw [z_set_len, z_cl_len] at hi1
    rw [z_get_set] at hw
    split at hw
    · rename_i hi
      cases hw
      rw [hi.1]
      exact h'.2.2 (a, z_cv ad v) List.mem_cons_self
    · rename_i hi
      obtain ⟨h1, h2⟩ := z_get_cl hw
      have hia : i ≠ a := fun e => hi ⟨e, by rw [z_cl_len, ← e]; exact z_get_lt h1⟩
      have hib : i ≠ a + 1 := fun e => hi1 ⟨e, by omega⟩
      refine h'.2.2 (i, z_cv ad w) (List.mem_cons_of_mem _ (List.mem_filter.mpr ⟨z_as_in h1, ?_⟩))
      by_cases e : i + 1 = a
      · simp [hia, hib, z_cat ad w (h2 e)]
      · simp [hia, hib, e]
