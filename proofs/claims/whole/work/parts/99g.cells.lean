/-! The cells at the head of the law's loop. -/
def zoff : Nat → Nat → Nat
  | 6, i => if i < 3 then 1 + 4 * i else 3 + 4 * i
  | 20, i => if i < 33 then (if i / 3 < 3 then 1 + 4 * (i / 3) else 3 + 4 * (i / 3)) + 1 + i % 3 else if i < 36 then 17 + i else if i < 44 then 19 + i else if i < 48 then 20 + i else if i < 56 then 21 + i else if i < 59 then 28 + i else 36 + i
  | 21, i => if i < 3 then 78 + i else 100 + i
  | 31, i => if i < 2 then 81 + i else 104 + i
  | 23, i => if i < 1 then 90 else 91 + i
  | 7, _ => 13 | 35, _ => 14 | 10, _ => 47 | 34, _ => 48 | 4, _ => 49 | 30, _ => 53 | 5, _ => 54 | 11, _ => 63 | 9, _ => 68 | 3, _ => 77 | 2, _ => 83 | 8, _ => 87 | 22, _ => 88 | 13, _ => 89 | 24, _ => 91 | 25, _ => 94 | 26, _ => 108 | 27, _ => 109 | 32, _ => 110 | 33, _ => 111 | _, _ => 0
def zmS : zM := (fun k i j => match k with
  | 6 => if j < 3 then 5 else 0
  | 20 => if i < 33 then (if i % 3 = 0 then 50 else if i % 3 = 1 then 1 else 0) else 0
  | 10 => if j = 2 then -1 else 0
  | 12 => if j = 6 then -1 else 0
  | 13 => if j = 10 then -1 else 0
  | 23 => (match i with
    | 0 => zmf j | _ => 0)
  | _ => 0, fun k _ j => if k = 6 then (if j = 3 then 1 else 0) else 0, fun _ _ _ => 0)
def zsE (cs : Nat → ClassId) (sz : Nat) : List va_E := [.inr (12, [.ref (sz + 1), .ref (sz + 5), .ref (sz + 9), .int 0, .ref (sz + 13), .ref (sz + 47), .int (-1), .ref (sz + 49), .ref (sz + 54), .ref (sz + 63), .ref (sz + 68), .ref (sz + 77), .ref (sz + 83), .ref (sz + 87)]),
  .inr (6, [.int 5, .int 5, .int 5, .long 1, .ref (sz + 2), .ref (sz + 3), .ref (sz + 4)]),
  zrI cs 64 50,
  zrI cs 64 1,
  zrI cs 64 0,
  .inr (6, [.int 5, .int 5, .int 5, .long 1, .ref (sz + 6), .ref (sz + 7), .ref (sz + 8)]),
  zrI cs 64 50,
  zrI cs 64 1,
  zrI cs 64 0,
  .inr (6, [.int 5, .int 5, .int 5, .long 1, .ref (sz + 10), .ref (sz + 11), .ref (sz + 12)]),
  zrI cs 64 50,
  zrI cs 64 1,
  zrI cs 64 0,
  .inr (7, [.ref (sz + 14), .int 0, .int 0]),
  .inl (cs 4, 8, zQ (fun j => if j < 8 then some (sz + 14 + (1 + 4 * j)) else none)),
  .inr (6, [.int 5, .int 5, .int 5, .long 1, .ref (sz + 16), .ref (sz + 17), .ref (sz + 18)]),
  zrI cs 64 50,
  zrI cs 64 1,
  zrI cs 64 0,
  .inr (6, [.int 5, .int 5, .int 5, .long 1, .ref (sz + 20), .ref (sz + 21), .ref (sz + 22)]),
  zrI cs 64 50,
  zrI cs 64 1,
  zrI cs 64 0,
  .inr (6, [.int 5, .int 5, .int 5, .long 1, .ref (sz + 24), .ref (sz + 25), .ref (sz + 26)]),
  zrI cs 64 50,
  zrI cs 64 1,
  zrI cs 64 0,
  .inr (6, [.int 5, .int 5, .int 5, .long 1, .ref (sz + 28), .ref (sz + 29), .ref (sz + 30)]),
  zrI cs 64 50,
  zrI cs 64 1,
  zrI cs 64 0,
  .inr (6, [.int 5, .int 5, .int 5, .long 1, .ref (sz + 32), .ref (sz + 33), .ref (sz + 34)]),
  zrI cs 64 50,
  zrI cs 64 1,
  zrI cs 64 0,
  .inr (6, [.int 5, .int 5, .int 5, .long 1, .ref (sz + 36), .ref (sz + 37), .ref (sz + 38)]),
  zrI cs 64 50,
  zrI cs 64 1,
  zrI cs 64 0,
  .inr (6, [.int 5, .int 5, .int 5, .long 1, .ref (sz + 40), .ref (sz + 41), .ref (sz + 42)]),
  zrI cs 64 50,
  zrI cs 64 1,
  zrI cs 64 0,
  .inr (6, [.int 5, .int 5, .int 5, .long 1, .ref (sz + 44), .ref (sz + 45), .ref (sz + 46)]),
  zrI cs 64 50,
  zrI cs 64 1,
  zrI cs 64 0,
  .inr (10, [.ref (sz + 48), .int 0, .int (-1), .int 0, .int 0, .int 0, .int 0]),
  zrC cs 60,
  .inr (4, [.ref (sz + 50), .ref (sz + 51), .ref (sz + 52), .ref (sz + 53), .int 0, .long 0]),
  zrI cs 64 0,
  zrI cs 64 0,
  zrI cs 64 0,
  zrL cs 64,
  .inr (5, [.int 0, .long 0, .ref (sz + 55), .ref (sz + 56), .ref (sz + 57), .ref (sz + 58), .ref (sz + 59), .ref (sz + 60), .ref (sz + 61), .ref (sz + 62)]),
  zrI cs 64 0,
  zrI cs 64 0,
  zrI cs 64 0,
  zrI cs 64 0,
  zrI cs 64 0,
  zrI cs 64 0,
  zrI cs 64 0,
  zrI cs 64 0,
  .inr (11, [.ref (sz + 64), .ref (sz + 65), .ref (sz + 66), .ref (sz + 67)]),
  zrI cs 64 0,
  zrI cs 64 0,
  zrI cs 64 0,
  zrI cs 64 0,
  .inr (9, [.long 0, .ref (sz + 69), .ref (sz + 70), .ref (sz + 71), .ref (sz + 72), .ref (sz + 73), .int 0, .ref (sz + 74), .ref (sz + 75), .ref (sz + 76)]),
  zrI cs 64 0,
  zrI cs 64 0,
  zrI cs 64 0,
  zrI cs 64 0,
  zrI cs 64 0,
  zrI cs 64 0,
  zrI cs 64 0,
  zrI cs 64 0,
  .inr (3, [.int 0, .ref (sz + 78), .ref (sz + 79), .ref (sz + 80), .ref (sz + 81), .ref (sz + 82)]),
  zrI cs 128 0,
  zrI cs 128 0,
  zrI cs 128 0,
  zrL cs 128,
  zrL cs 128,
  .inr (2, [.ref (sz + 84), .ref (sz + 85), .ref (sz + 86), .int 0, .int 0]),
  zrI cs 64 0,
  zrI cs 64 0,
  zrI cs 64 0,
  .inr (8, [.ref (sz + 88), .int 0]),
  zrI cs 8 0,
  .inr (13, [.int 0, .ref (sz + 90), .ref (sz + 91), .int 0, .ref (sz + 92), .int 0, .ref (sz + 93), .ref (sz + 94), .int 0, .int 0, .int (-1), .ref (sz + 95), .ref (sz + 96), .ref (sz + 97), .ref (sz + 98), .ref (sz + 99), .ref (sz + 100), .ref (sz + 101), .int 0, .ref (sz + 102), .long 0, .int 0, .ref (sz + 103), .ref (sz + 104), .ref (sz + 105), .ref (sz + 106), .ref (sz + 107), .ref (sz + 108), .ref (sz + 109), .int 0, .int 0]),
  .inl (cs 0, 259, .inl zmf),
  zrI cs 2072 0,
  zrI cs 259 0,
  zrI cs 259 0,
  zrI cs 60 0,
  zrI cs 64 0,
  zrI cs 64 0,
  zrI cs 64 0,
  zrI cs 64 0,
  zrI cs 64 0,
  zrI cs 64 0,
  zrI cs 64 0,
  zrI cs 64 0,
  zrI cs 128 0,
  zrI cs 128 0,
  zrI cs 128 0,
  zrL cs 128,
  zrL cs 128,
  zrI cs 6400 0,
  zrI cs 65 0,
  zrL cs 1,
  .inl (cs 2, 1, .inr (.inr (.inr (.inl (fun _ => 0)))))]
abbrev zsA (sz : Nat) : Nat → Nat → Nat := fun k i => sz + zoff k i
def zsI : List (Nat × Nat) := [(2, 0), (3, 0), (4, 0), (5, 0), (6, 0), (6, 1), (6, 2), (6, 3), (6, 4), (6, 5), (6, 6), (6, 7), (6, 8), (6, 9), (6, 10), (7, 0), (8, 0), (9, 0), (10, 0), (11, 0), (12, 0), (13, 0), (20, 0), (20, 1), (20, 2), (20, 3), (20, 4), (20, 5), (20, 6), (20, 7), (20, 8), (20, 9), (20, 10), (20, 11), (20, 12), (20, 13), (20, 14), (20, 15), (20, 16), (20, 17), (20, 18), (20, 19), (20, 20), (20, 21), (20, 22), (20, 23), (20, 24), (20, 25), (20, 26), (20, 27), (20, 28), (20, 29), (20, 30), (20, 31), (20, 32), (20, 33), (20, 34), (20, 35), (20, 36), (20, 37), (20, 38), (20, 39), (20, 40), (20, 41), (20, 42), (20, 43), (20, 44), (20, 45), (20, 46), (20, 47), (20, 48), (20, 49), (20, 50), (20, 51), (20, 52), (20, 53), (20, 54), (20, 55), (20, 56), (20, 57), (20, 58), (20, 59), (20, 60), (20, 61), (20, 62), (20, 63), (20, 64), (20, 65), (20, 66), (21, 0), (21, 1), (21, 2), (21, 3), (21, 4), (21, 5), (22, 0), (23, 0), (23, 1), (23, 2), (24, 0), (25, 0), (26, 0), (27, 0), (30, 0), (31, 0), (31, 1), (31, 2), (31, 3), (32, 0), (33, 0), (34, 0), (35, 0)]
theorem zsI_eq : z_ids zN = zsI := by decide +kernel
def zsO : List Nat := [83, 77, 49, 54, 1, 5, 9, 15, 19, 23, 27, 31, 35, 39, 43, 13, 87, 68, 47, 63, 0, 89, 2, 3, 4, 6, 7, 8, 10, 11, 12, 16, 17, 18, 20, 21, 22, 24, 25, 26, 28, 29, 30, 32, 33, 34, 36, 37, 38, 40, 41, 42, 44, 45, 46, 50, 51, 52, 55, 56, 57, 58, 59, 60, 61, 62, 64, 65, 66, 67, 69, 70, 71, 72, 73, 74, 75, 76, 84, 85, 86, 95, 96, 97, 98, 99, 100, 101, 102, 78, 79, 80, 103, 104, 105, 88, 90, 92, 93, 91, 94, 108, 109, 53, 81, 82, 106, 107, 110, 111, 48, 14]
theorem zsO_eq : zsI.map (fun p => zoff p.1 p.2) = zsO := by decide +kernel
theorem zsO_inj : ∀ i, i < 112 → ∀ j, j < 112 → zsO[i]? = zsO[j]? → i = j := by decide +kernel
set_option maxRecDepth 100000 in
set_option maxHeartbeats 4000000 in
theorem zs_at (cs : Nat → ClassId) (sz : Nat) : ∀ p ∈ zsI, p = (35, 0) ∨ (zsE cs sz)[zoff p.1 p.2]? = some (z_cE (zsA sz) zRf (fun k _ => cs (z_aty k)) zmS p.1 p.2) := List.forall_mem_cons.mpr ⟨.inr rfl, List.forall_mem_cons.mpr ⟨.inr rfl, List.forall_mem_cons.mpr ⟨.inr rfl, List.forall_mem_cons.mpr ⟨.inr rfl, List.forall_mem_cons.mpr ⟨.inr rfl, List.forall_mem_cons.mpr ⟨.inr rfl, List.forall_mem_cons.mpr ⟨.inr rfl, List.forall_mem_cons.mpr ⟨.inr rfl, List.forall_mem_cons.mpr ⟨.inr rfl, List.forall_mem_cons.mpr ⟨.inr rfl, List.forall_mem_cons.mpr ⟨.inr rfl, List.forall_mem_cons.mpr ⟨.inr rfl, List.forall_mem_cons.mpr ⟨.inr rfl, List.forall_mem_cons.mpr ⟨.inr rfl, List.forall_mem_cons.mpr ⟨.inr rfl, List.forall_mem_cons.mpr ⟨.inr rfl, List.forall_mem_cons.mpr ⟨.inr rfl, List.forall_mem_cons.mpr ⟨.inr rfl, List.forall_mem_cons.mpr ⟨.inr rfl, List.forall_mem_cons.mpr ⟨.inr rfl, List.forall_mem_cons.mpr ⟨.inr rfl, List.forall_mem_cons.mpr ⟨.inr rfl, List.forall_mem_cons.mpr ⟨.inr rfl, List.forall_mem_cons.mpr ⟨.inr rfl, List.forall_mem_cons.mpr ⟨.inr rfl, List.forall_mem_cons.mpr ⟨.inr rfl, List.forall_mem_cons.mpr ⟨.inr rfl, List.forall_mem_cons.mpr ⟨.inr rfl, List.forall_mem_cons.mpr ⟨.inr rfl, List.forall_mem_cons.mpr ⟨.inr rfl, List.forall_mem_cons.mpr ⟨.inr rfl, List.forall_mem_cons.mpr ⟨.inr rfl, List.forall_mem_cons.mpr ⟨.inr rfl, List.forall_mem_cons.mpr ⟨.inr rfl, List.forall_mem_cons.mpr ⟨.inr rfl, List.forall_mem_cons.mpr ⟨.inr rfl, List.forall_mem_cons.mpr ⟨.inr rfl, List.forall_mem_cons.mpr ⟨.inr rfl, List.forall_mem_cons.mpr ⟨.inr rfl, List.forall_mem_cons.mpr ⟨.inr rfl, List.forall_mem_cons.mpr ⟨.inr rfl, List.forall_mem_cons.mpr ⟨.inr rfl, List.forall_mem_cons.mpr ⟨.inr rfl, List.forall_mem_cons.mpr ⟨.inr rfl, List.forall_mem_cons.mpr ⟨.inr rfl, List.forall_mem_cons.mpr ⟨.inr rfl, List.forall_mem_cons.mpr ⟨.inr rfl, List.forall_mem_cons.mpr ⟨.inr rfl, List.forall_mem_cons.mpr ⟨.inr rfl, List.forall_mem_cons.mpr ⟨.inr rfl, List.forall_mem_cons.mpr ⟨.inr rfl, List.forall_mem_cons.mpr ⟨.inr rfl, List.forall_mem_cons.mpr ⟨.inr rfl, List.forall_mem_cons.mpr ⟨.inr rfl, List.forall_mem_cons.mpr ⟨.inr rfl, List.forall_mem_cons.mpr ⟨.inr rfl, List.forall_mem_cons.mpr ⟨.inr rfl, List.forall_mem_cons.mpr ⟨.inr rfl, List.forall_mem_cons.mpr ⟨.inr rfl, List.forall_mem_cons.mpr ⟨.inr rfl, List.forall_mem_cons.mpr ⟨.inr rfl, List.forall_mem_cons.mpr ⟨.inr rfl, List.forall_mem_cons.mpr ⟨.inr rfl, List.forall_mem_cons.mpr ⟨.inr rfl, List.forall_mem_cons.mpr ⟨.inr rfl, List.forall_mem_cons.mpr ⟨.inr rfl, List.forall_mem_cons.mpr ⟨.inr rfl, List.forall_mem_cons.mpr ⟨.inr rfl, List.forall_mem_cons.mpr ⟨.inr rfl, List.forall_mem_cons.mpr ⟨.inr rfl, List.forall_mem_cons.mpr ⟨.inr rfl, List.forall_mem_cons.mpr ⟨.inr rfl, List.forall_mem_cons.mpr ⟨.inr rfl, List.forall_mem_cons.mpr ⟨.inr rfl, List.forall_mem_cons.mpr ⟨.inr rfl, List.forall_mem_cons.mpr ⟨.inr rfl, List.forall_mem_cons.mpr ⟨.inr rfl, List.forall_mem_cons.mpr ⟨.inr rfl, List.forall_mem_cons.mpr ⟨.inr rfl, List.forall_mem_cons.mpr ⟨.inr rfl, List.forall_mem_cons.mpr ⟨.inr rfl, List.forall_mem_cons.mpr ⟨.inr rfl, List.forall_mem_cons.mpr ⟨.inr rfl, List.forall_mem_cons.mpr ⟨.inr rfl, List.forall_mem_cons.mpr ⟨.inr rfl, List.forall_mem_cons.mpr ⟨.inr rfl, List.forall_mem_cons.mpr ⟨.inr rfl, List.forall_mem_cons.mpr ⟨.inr rfl, List.forall_mem_cons.mpr ⟨.inr rfl, List.forall_mem_cons.mpr ⟨.inr rfl, List.forall_mem_cons.mpr ⟨.inr rfl, List.forall_mem_cons.mpr ⟨.inr rfl, List.forall_mem_cons.mpr ⟨.inr rfl, List.forall_mem_cons.mpr ⟨.inr rfl, List.forall_mem_cons.mpr ⟨.inr rfl, List.forall_mem_cons.mpr ⟨.inr rfl, List.forall_mem_cons.mpr ⟨.inr rfl, List.forall_mem_cons.mpr ⟨.inr rfl, List.forall_mem_cons.mpr ⟨.inr rfl, List.forall_mem_cons.mpr ⟨.inr rfl, List.forall_mem_cons.mpr ⟨.inr rfl, List.forall_mem_cons.mpr ⟨.inr rfl, List.forall_mem_cons.mpr ⟨.inr rfl, List.forall_mem_cons.mpr ⟨.inr rfl, List.forall_mem_cons.mpr ⟨.inr rfl, List.forall_mem_cons.mpr ⟨.inr rfl, List.forall_mem_cons.mpr ⟨.inr rfl, List.forall_mem_cons.mpr ⟨.inr rfl, List.forall_mem_cons.mpr ⟨.inr rfl, List.forall_mem_cons.mpr ⟨.inr rfl, List.forall_mem_cons.mpr ⟨.inr rfl, List.forall_mem_cons.mpr ⟨.inl rfl, fun _ h => absurd h List.not_mem_nil⟩⟩⟩⟩⟩⟩⟩⟩⟩⟩⟩⟩⟩⟩⟩⟩⟩⟩⟩⟩⟩⟩⟩⟩⟩⟩⟩⟩⟩⟩⟩⟩⟩⟩⟩⟩⟩⟩⟩⟩⟩⟩⟩⟩⟩⟩⟩⟩⟩⟩⟩⟩⟩⟩⟩⟩⟩⟩⟩⟩⟩⟩⟩⟩⟩⟩⟩⟩⟩⟩⟩⟩⟩⟩⟩⟩⟩⟩⟩⟩⟩⟩⟩⟩⟩⟩⟩⟩⟩⟩⟩⟩⟩⟩⟩⟩⟩⟩⟩⟩⟩⟩⟩⟩⟩⟩⟩⟩⟩⟩⟩⟩
theorem zs_I {dC : Nat → ClassId} {dI : Nat → Nat → Nat} {cs : Nat → ClassId} {H0 H : Heap} {locs : List Loc} (h : zLst dC dI (zsE cs H0.size) H0 H locs) : z_I (fun q => H0.size ≤ q) (zsA H0.size) zN zRf dC dI (fun k _ => cs (z_aty k)) H0 zmS H locs := by
  have at9 : ∀ k q, (z_wl (zsA H0.size) zN zRf (fun k _ => cs (z_aty k)) zmS)[k]? = some q → ∃ p : Nat × Nat, zsI[k]? = some p ∧ q = (zsA H0.size p.1 p.2, z_cE (zsA H0.size) zRf (fun k _ => cs (z_aty k)) zmS p.1 p.2) := fun k q hk => by
    unfold z_wl at hk
    rw [zsI_eq, List.getElem?_map] at hk
    cases hp : zsI[k]? with
    | none => rw [hp] at hk; cases hk
    | some p => rw [hp] at hk; cases hk; exact ⟨p, hp, rfl⟩
  have off : ∀ (k : Nat) (p : Nat × Nat), zsI[k]? = some p → k < 112 ∧ zsO[k]? = some (zoff p.1 p.2) := fun k p hp => by
    refine ⟨(List.getElem?_eq_some_iff.mp hp).1, ?_⟩
    rw [← zsO_eq, List.getElem?_map, hp]
    rfl
  refine ⟨fun k q hk => ?_, ⟨fun i j p q hi hj e => ?_, fun k q hk => ?_⟩, h.2.2⟩
  · obtain ⟨p, hp, rfl⟩ := at9 k q hk
    rcases zs_at cs H0.size p (List.mem_of_getElem? hp) with rfl | hz
    · have := h.2.1 14 _ rfl
      refine this.trans (congrArg some (z_arq_ext fun j hj => ?_))
      show (if j < 8 then some (H0.size + 14 + (1 + 4 * j)) else none) = some (H0.size + zoff 6 (3 + j))
      rw [if_pos hj]
      show some (H0.size + 14 + (1 + 4 * j)) = some (H0.size + (if 3 + j < 3 then 1 + 4 * (3 + j) else 3 + 4 * (3 + j)))
      rw [if_neg (by omega)]
      congr 1
      omega
    · exact h.2.1 _ _ hz
  · obtain ⟨p', hp, rfl⟩ := at9 i p hi
    obtain ⟨q', hq, rfl⟩ := at9 j q hj
    obtain ⟨i1, i2⟩ := off i p' hp
    obtain ⟨j1, j2⟩ := off j q' hq
    have e : H0.size + zoff p'.1 p'.2 = H0.size + zoff q'.1 q'.2 := e
    refine zsO_inj i i1 j j1 ?_
    rw [i2, j2, show zoff p'.1 p'.2 = zoff q'.1 q'.2 by omega]
  · obtain ⟨p, hp, rfl⟩ := at9 k q hk
    exact Nat.le_add_right _ _
theorem zmf_MR : zMR zmf (zG.frs 5 5 5) := by
  refine ⟨rfl, rfl, rfl, fun c hc => ?_, fun c hc => ?_, fun c hc => ?_, fun c hc => ?_⟩
  · unfold zmf
    rw [if_neg (by omega), if_pos (by omega)]
    rfl
  · unfold zmf
    rw [if_neg (by omega), if_neg (by omega), if_pos (by omega)]
    rfl
  · unfold zmf
    rw [if_neg (by omega), if_neg (by omega), if_neg (by omega), if_pos (by omega)]
    rfl
  · unfold zmf
    rw [if_neg (by omega), if_neg (by omega), if_neg (by omega), if_neg (by omega)]
    show _ = if decide (c = 0) = true then (1 : Int32) else 0
    by_cases w : c = 0
    · rw [if_pos (by omega), if_pos (by rw [w]; rfl)]
    · rw [if_neg (by omega), if_neg (by rw [decide_eq_true_eq]; exact w)]
theorem zs_inv : zInv zmS := by
  refine ⟨zG.frs 5 5 5, fun _ => zG.frs 5 5 5, 0, 0, none, 0, fun _ => 0, none, zG.frs_v (by decide) (by decide) (by decide) (by decide) (by decide) (by decide), ⟨rfl, rfl, rfl, fun c hc => rfl, fun c hc => rfl, fun c hc => rfl, fun c hc => ?_⟩, zmf_MR, ⟨by decide, by decide, rfl, rfl, rfl, fun j hj => absurd hj (Nat.not_lt_zero _)⟩, ⟨rfl, rfl⟩, ⟨by decide, rfl, rfl, fun t ht => absurd ht (Nat.not_lt_zero _)⟩, rfl, rfl, fun q hq => by cases hq⟩
  show zb 1 c = decide (c = 0)
  rw [show (1 : Int64) = z_shl 1 (Int32.ofNat 0) from rfl, zb_one (by omega) hc]
