/-! The start: what the statement gives of it; the world at the loop's head. -/
theorem zt_sub : ∀ w ∈ z_W, w ∈ lw_tbl := z_W_tbl
set_option maxRecDepth 100000 in
theorem zt_J0 : ∀ w ∈ u_ws RJ0 TJ0 2, w ∈ z_W := z_in [772, 774] (by decide +kernel) (by decide +kernel)
set_option maxRecDepth 100000 in
theorem zt_J1 : ∀ w ∈ u_ws RJx00060 TJx00060 6, w ∈ z_W := z_in [760, 761, 762, 763, 764, 765] (by decide +kernel) (by decide +kernel)
set_option maxRecDepth 100000 in
theorem zt_B : ∀ w ∈ z_B, w ∈ lw_tbl := by decide +kernel
section
variable {s : State} {args : Array Value}
theorem zs_cls (hts : ∀ w ∈ z_W, w.before args s = true) : ∀ (c : Nat), ∃ (cC : ClassId) (iS : Nat → Nat), ∀ q : vw_C, vwCl[c]? = some q → u_Kn s q.1 q.2.1 q.2.2 cC iS := by
  intro c
  by_cases hc : c < 14
  · rcases (show c = 0 ∨ c = 1 ∨ c = 2 ∨ c = 3 ∨ c = 4 ∨ c = 5 ∨ c = 6 ∨ c = 7 ∨ c = 8 ∨ c = 9 ∨ c = 10 ∨ c = 11 ∨ c = 12 ∨ c = 13 by omega) with rfl | rfl | rfl | rfl | rfl | rfl | rfl | rfl | rfl | rfl | rfl | rfl | rfl | rfl
    · obtain ⟨cC, iS, h⟩ := u_known hts zt_J0 (hts _ (z_at3 198 rfl rfl))
      exact ⟨cC, iS, fun q hq => by cases hq; exact h⟩
    · obtain ⟨cC, iS, h⟩ := u_known hts zt_J1 (hts _ (z_at3 180 rfl rfl))
      exact ⟨cC, iS, fun q hq => by cases hq; exact h⟩
    · obtain ⟨cC, iS, h⟩ := u_known hts (z_cls (k := 2) (by decide)).2.1 (hts _ (z_at2 85 rfl rfl))
      exact ⟨cC, iS, fun q hq => by cases hq; exact h⟩
    · obtain ⟨cC, iS, h⟩ := u_known hts (z_cls (k := 3) (by decide)).2.1 (hts _ (z_at2 54 rfl rfl))
      exact ⟨cC, iS, fun q hq => by cases hq; exact h⟩
    · obtain ⟨cC, iS, h⟩ := u_known hts (z_cls (k := 4) (by decide)).2.1 (hts _ (z_at1 144 rfl rfl))
      exact ⟨cC, iS, fun q hq => by cases hq; exact h⟩
    · obtain ⟨cC, iS, h⟩ := u_known hts (z_cls (k := 5) (by decide)).2.1 (hts _ (z_at1 177 rfl rfl))
      exact ⟨cC, iS, fun q hq => by cases hq; exact h⟩
    · obtain ⟨cC, iS, h⟩ := u_known hts (z_cls (k := 6) (by decide)).2.1 (hts _ (z_at1 38 rfl rfl))
      exact ⟨cC, iS, fun q hq => by cases hq; exact h⟩
    · obtain ⟨cC, iS, h⟩ := u_known hts (z_cls (k := 7) (by decide)).2.1 (hts _ (z_at1 93 rfl rfl))
      exact ⟨cC, iS, fun q hq => by cases hq; exact h⟩
    · obtain ⟨cC, iS, h⟩ := u_known hts (z_cls (k := 8) (by decide)).2.1 (hts _ (z_at2 110 rfl rfl))
      exact ⟨cC, iS, fun q hq => by cases hq; exact h⟩
    · obtain ⟨cC, iS, h⟩ := u_known hts (z_cls (k := 9) (by decide)).2.1 (hts _ (z_at2 10 rfl rfl))
      exact ⟨cC, iS, fun q hq => by cases hq; exact h⟩
    · obtain ⟨cC, iS, h⟩ := u_known hts (z_cls (k := 10) (by decide)).2.1 (hts _ (z_at1 113 rfl rfl))
      exact ⟨cC, iS, fun q hq => by cases hq; exact h⟩
    · obtain ⟨cC, iS, h⟩ := u_known hts (z_cls (k := 11) (by decide)).2.1 (hts _ (z_at1 226 rfl rfl))
      exact ⟨cC, iS, fun q hq => by cases hq; exact h⟩
    · obtain ⟨cC, iS, h⟩ := u_known hts (z_cls (k := 12) (by decide)).2.1 (hts _ (z_at1 30 rfl rfl))
      exact ⟨cC, iS, fun q hq => by cases hq; exact h⟩
    · obtain ⟨cC, iS, h⟩ := u_known hts (z_cls (k := 13) (by decide)).2.1 (hts _ (z_at6 193 rfl rfl))
      exact ⟨cC, iS, fun q hq => by cases hq; exact h⟩
  · exact ⟨0, fun _ => 0, fun q hq => absurd (List.getElem?_eq_some_iff.mp hq).1 hc⟩
theorem zs_prim (hts : ∀ w ∈ z_W, w.before args s = true) {t : FieldType} (ht : ∀ C, t ≠ .object C) (hw : Cond.arrayClass t ∈ z_W) : ∃ cA : ClassId, ArrOfT s cA t ∧ va_RA s cA t := by
  obtain ⟨c, k, comp, h1, h2, h3⟩ := Cond.arrayClass_spec (hts _ hw)
  refine ⟨c, fun n z => ⟨fun q h => (by cases h), k, h2, comp, h3⟩, ?_⟩
  revert h1 ht
  cases t <;> intro ht h1 <;> first | exact h1 | exact absurd rfl (ht _)
theorem zs_row (hts : ∀ w ∈ z_W, w.before args s = true) (hao : va_AO RX4 s) : ∀ t : Nat, ∃ cA : ClassId, ∀ k, 20 ≤ k → z_aty k = t → ArrOfT s cA (z_aT k) ∧ va_RA s cA (z_aT k) := by
  intro t
  have key : ∀ T : FieldType, (∀ C, T ≠ .object C) → Cond.arrayClass T ∈ z_W → (∀ k, 20 ≤ k → z_aty k = t → z_aT k = T) → ∃ cA : ClassId, ∀ k, 20 ≤ k → z_aty k = t → ArrOfT s cA (z_aT k) ∧ va_RA s cA (z_aT k) := fun T h1 h2 h3 => by
    obtain ⟨cA, g⟩ := zs_prim hts h1 h2
    exact ⟨cA, fun k q1 q2 => by rw [h3 k q1 q2]; exact g⟩
  by_cases h1 : t = 1
  · exact key .long (fun _ h => by cases h) zw_long fun k _ h => by unfold z_aT; rw [h, h1]; rfl
  · by_cases h2 : t = 2
    · exact key .double (fun _ h => by cases h) zw_double fun k _ h => by unfold z_aT; rw [h, h2]; rfl
    · by_cases h3 : t = 3
      · exact key .char (fun _ h => by cases h) zw_char fun k _ h => by unfold z_aT; rw [h, h3]; rfl
      · by_cases h4 : t = 4
        · obtain ⟨comp, c, k, g1, g2, g3, g4, g5⟩ := Cond.arrayOver_spec hao
          refine ⟨c, fun q q1 q2 => ?_⟩
          have e : z_aT q = .object RX4 := by unfold z_aT; rw [q2, h4]; rfl
          rw [e]
          exact ⟨fun N z => ⟨fun q h => (by cases h), k, g3, comp, g4⟩, k, comp, g3, g4, g1, g5⟩
        · refine key .int (fun _ h => by cases h) zw_int fun k _ h => ?_
          unfold z_aT
          rw [h]
          split <;> first | rfl | (exfalso; omega)
set_option maxRecDepth 100000 in
theorem zs_str (hts : ∀ w ∈ lw_tbl, w.before args s = true) (hgv : (Jvm.Cond.and given_1 narrow_1).before args s = true) : ∀ q ∈ z_strs, ∃ a, vk_R q.1 q.2.1 q.2.2 a s := by
  have hf := flat_of_before _ hgv
  have str : ∀ (k : Nat) (tx : String), Cond.stringRef "WatershedMapper" k tx ∈ lw_tbl → Cond.exactly (.string "WatershedMapper" k) "java/lang/String" ∈ flatC (Jvm.Cond.and given_1 narrow_1) → ∃ a, vk_R "WatershedMapper" k tx a s := fun k tx h1 h2 => by
    obtain ⟨a, c, cell, kk, g1, -⟩ := Cond.exactly_spec (hf _ h2)
    exact ⟨a, vk_R.of (hts _ h1) g1⟩
  unfold z_strs
  exact List.forall_mem_cons.mpr ⟨str 472 "a number out of range" (List.mem_of_getElem? (l := lw_tbl) (i := 693) rfl) (List.mem_of_getElem? (i := 90) rfl), List.forall_mem_cons.mpr ⟨str 111 "range out of range" (List.mem_of_getElem? (l := lw_tbl) (i := 738) rfl) (List.mem_of_getElem? (i := 115) rfl), List.forall_mem_cons.mpr ⟨str 468 "no such cell" (List.mem_of_getElem? (l := lw_tbl) (i := 793) rfl) (List.mem_of_getElem? (i := 138) rfl), List.forall_mem_cons.mpr ⟨str 154 "the only outlet" (List.mem_of_getElem? (l := lw_tbl) (i := 859) rfl) (List.mem_of_getElem? (i := 156) rfl), List.forall_mem_cons.mpr ⟨str 470 "no such lake" (List.mem_of_getElem? (l := lw_tbl) (i := 1005) rfl) (List.mem_of_getElem? (i := 178) rfl), List.forall_mem_cons.mpr ⟨str 268 "the depth is 0" (List.mem_of_getElem? (l := lw_tbl) (i := 1074) rfl) (List.mem_of_getElem? (i := 198) rfl), List.forall_mem_cons.mpr ⟨str 280 "no such index" (List.mem_of_getElem? (l := lw_tbl) (i := 1114) rfl) (List.mem_of_getElem? (i := 221) rfl), List.forall_mem_cons.mpr ⟨str 290 "no cell has a depth greater than 0" (List.mem_of_getElem? (l := lw_tbl) (i := 1137) rfl) (List.mem_of_getElem? (i := 244) rfl), List.forall_mem_cons.mpr ⟨str 296 "an outlet flows to no cell" (List.mem_of_getElem? (l := lw_tbl) (i := 1146) rfl) (List.mem_of_getElem? (i := 289) rfl), List.forall_mem_cons.mpr ⟨str 345 "no such reach" (List.mem_of_getElem? (l := lw_tbl) (i := 1215) rfl) (List.mem_of_getElem? (i := 327) rfl), List.forall_mem_cons.mpr ⟨str 361 "no stream cell" (List.mem_of_getElem? (l := lw_tbl) (i := 1227) rfl) (List.mem_of_getElem? (i := 353) rfl), List.forall_mem_cons.mpr ⟨str 366 "no outlet" (List.mem_of_getElem? (l := lw_tbl) (i := 1235) rfl) (List.mem_of_getElem? (i := 381) rfl), List.forall_mem_cons.mpr ⟨str 371 "no such depression" (List.mem_of_getElem? (l := lw_tbl) (i := 1243) rfl) (List.mem_of_getElem? (i := 405) rfl), List.forall_mem_cons.mpr ⟨str 401 "no pool of this number contains the cell" (List.mem_of_getElem? (l := lw_tbl) (i := 1270) rfl) (List.mem_of_getElem? (i := 439) rfl), List.forall_mem_cons.mpr ⟨str 441 "the buffer is full" (List.mem_of_getElem? (l := lw_tbl) (i := 1392) rfl) (List.mem_of_getElem? (i := 496) rfl), List.forall_mem_cons.mpr ⟨str 453 "an error in the text" (List.mem_of_getElem? (l := lw_tbl) (i := 1436) rfl) (List.mem_of_getElem? (i := 532) rfl), List.forall_mem_cons.mpr ⟨str 459 "no error position was kept" (List.mem_of_getElem? (l := lw_tbl) (i := 1456) rfl) (List.mem_of_getElem? (i := 571) rfl), List.forall_mem_cons.mpr ⟨str 461 "nothing can be taken back" (List.mem_of_getElem? (l := lw_tbl) (i := 1471) rfl) (List.mem_of_getElem? (i := 617) rfl), List.forall_mem_cons.mpr ⟨str 466 "nothing was saved" (List.mem_of_getElem? (l := lw_tbl) (i := 1484) rfl) (List.mem_of_getElem? (i := 663) rfl), fun _ h => absurd h List.not_mem_nil⟩⟩⟩⟩⟩⟩⟩⟩⟩⟩⟩⟩⟩⟩⟩⟩⟩⟩⟩
set_option maxRecDepth 100000 in
theorem zs_Nc (hgv : (Jvm.Cond.and given_1 narrow_1).before args s = true) : ∀ i j, i < 5 → j < 5 → i ≠ j → va_Nc (z_ex i) (z_ex j) s := by
  have hf := flat_of_before _ hgv
  intro i j hi hj hij
  have h5 : ∀ x : Nat, x < 5 → x = 0 ∨ x = 1 ∨ x = 2 ∨ x = 3 ∨ x = 4 := fun x h => by omega
  rcases h5 i hi with rfl | rfl | rfl | rfl | rfl
  · rcases h5 j hj with rfl | rfl | rfl | rfl | rfl
    · exact absurd rfl hij
    · exact (show va_Nc "java/lang/IllegalArgumentException" "java/lang/IndexOutOfBoundsException" s from va_Nc.of (hf (Cond.not (.castable "java/lang/IllegalArgumentException" "java/lang/IndexOutOfBoundsException")) (List.mem_of_getElem? (i := 35) rfl)))
    · exact (show va_Nc "java/lang/IllegalArgumentException" "java/lang/IllegalStateException" s from va_Nc.of (hf (Cond.not (.castable "java/lang/IllegalArgumentException" "java/lang/IllegalStateException")) (List.mem_of_getElem? (i := 51) rfl)))
    · exact (show va_Nc "java/lang/IllegalArgumentException" "java/util/NoSuchElementException" s from va_Nc.of (hf (Cond.not (.castable "java/lang/IllegalArgumentException" "java/util/NoSuchElementException")) (List.mem_of_getElem? (i := 68) rfl)))
    · exact (show va_Nc "java/lang/IllegalArgumentException" "java/lang/ArithmeticException" s from va_Nc.of (hf (Cond.not (.castable "java/lang/IllegalArgumentException" "java/lang/ArithmeticException")) (List.mem_of_getElem? (i := 85) rfl)))
  · rcases h5 j hj with rfl | rfl | rfl | rfl | rfl
    · exact (show va_Nc "java/lang/IndexOutOfBoundsException" "java/lang/IllegalArgumentException" s from va_Nc.of (hf (Cond.not (.castable "java/lang/IndexOutOfBoundsException" "java/lang/IllegalArgumentException")) (List.mem_of_getElem? (i := 19) rfl)))
    · exact absurd rfl hij
    · exact (show va_Nc "java/lang/IndexOutOfBoundsException" "java/lang/IllegalStateException" s from va_Nc.of (hf (Cond.not (.castable "java/lang/IndexOutOfBoundsException" "java/lang/IllegalStateException")) (List.mem_of_getElem? (i := 53) rfl)))
    · exact (show va_Nc "java/lang/IndexOutOfBoundsException" "java/util/NoSuchElementException" s from va_Nc.of (hf (Cond.not (.castable "java/lang/IndexOutOfBoundsException" "java/util/NoSuchElementException")) (List.mem_of_getElem? (i := 70) rfl)))
    · exact (show va_Nc "java/lang/IndexOutOfBoundsException" "java/lang/ArithmeticException" s from va_Nc.of (hf (Cond.not (.castable "java/lang/IndexOutOfBoundsException" "java/lang/ArithmeticException")) (List.mem_of_getElem? (i := 87) rfl)))
  · rcases h5 j hj with rfl | rfl | rfl | rfl | rfl
    · exact (show va_Nc "java/lang/IllegalStateException" "java/lang/IllegalArgumentException" s from va_Nc.of (hf (Cond.not (.castable "java/lang/IllegalStateException" "java/lang/IllegalArgumentException")) (List.mem_of_getElem? (i := 20) rfl)))
    · exact (show va_Nc "java/lang/IllegalStateException" "java/lang/IndexOutOfBoundsException" s from va_Nc.of (hf (Cond.not (.castable "java/lang/IllegalStateException" "java/lang/IndexOutOfBoundsException")) (List.mem_of_getElem? (i := 36) rfl)))
    · exact absurd rfl hij
    · exact (show va_Nc "java/lang/IllegalStateException" "java/util/NoSuchElementException" s from va_Nc.of (hf (Cond.not (.castable "java/lang/IllegalStateException" "java/util/NoSuchElementException")) (List.mem_of_getElem? (i := 71) rfl)))
    · exact (show va_Nc "java/lang/IllegalStateException" "java/lang/ArithmeticException" s from va_Nc.of (hf (Cond.not (.castable "java/lang/IllegalStateException" "java/lang/ArithmeticException")) (List.mem_of_getElem? (i := 88) rfl)))
  · rcases h5 j hj with rfl | rfl | rfl | rfl | rfl
    · exact (show va_Nc "java/util/NoSuchElementException" "java/lang/IllegalArgumentException" s from va_Nc.of (hf (Cond.not (.castable "java/util/NoSuchElementException" "java/lang/IllegalArgumentException")) (List.mem_of_getElem? (i := 21) rfl)))
    · exact (show va_Nc "java/util/NoSuchElementException" "java/lang/IndexOutOfBoundsException" s from va_Nc.of (hf (Cond.not (.castable "java/util/NoSuchElementException" "java/lang/IndexOutOfBoundsException")) (List.mem_of_getElem? (i := 37) rfl)))
    · exact (show va_Nc "java/util/NoSuchElementException" "java/lang/IllegalStateException" s from va_Nc.of (hf (Cond.not (.castable "java/util/NoSuchElementException" "java/lang/IllegalStateException")) (List.mem_of_getElem? (i := 54) rfl)))
    · exact absurd rfl hij
    · exact (show va_Nc "java/util/NoSuchElementException" "java/lang/ArithmeticException" s from va_Nc.of (hf (Cond.not (.castable "java/util/NoSuchElementException" "java/lang/ArithmeticException")) (List.mem_of_getElem? (i := 89) rfl)))
  · rcases h5 j hj with rfl | rfl | rfl | rfl | rfl
    · exact (show va_Nc "java/lang/ArithmeticException" "java/lang/IllegalArgumentException" s from va_Nc.of (hf (Cond.not (.castable "java/lang/ArithmeticException" "java/lang/IllegalArgumentException")) (List.mem_of_getElem? (i := 22) rfl)))
    · exact (show va_Nc "java/lang/ArithmeticException" "java/lang/IndexOutOfBoundsException" s from va_Nc.of (hf (Cond.not (.castable "java/lang/ArithmeticException" "java/lang/IndexOutOfBoundsException")) (List.mem_of_getElem? (i := 38) rfl)))
    · exact (show va_Nc "java/lang/ArithmeticException" "java/lang/IllegalStateException" s from va_Nc.of (hf (Cond.not (.castable "java/lang/ArithmeticException" "java/lang/IllegalStateException")) (List.mem_of_getElem? (i := 55) rfl)))
    · exact (show va_Nc "java/lang/ArithmeticException" "java/util/NoSuchElementException" s from va_Nc.of (hf (Cond.not (.castable "java/lang/ArithmeticException" "java/util/NoSuchElementException")) (List.mem_of_getElem? (i := 72) rfl)))
    · exact absurd rfl hij
set_option maxRecDepth 100000 in
theorem zs_WX (hts : ∀ w ∈ lw_tbl, w.before args s = true) (hgv : (Jvm.Cond.and given_1 narrow_1).before args s = true) : z_WX (fun q => s.heap.size ≤ q) s s.heap := by
  have hf := flat_of_before _ hgv
  have hz : ∀ w ∈ z_W, w.before args s = true := fun w hw => hts w (z_W_tbl w hw)
  refine ⟨?_, ?_, zs_str hts hgv, fun w hw => va_Nw.of (z_Bok_t (z_B_ok w hw)) (hts w (zt_B w hw)), zs_Nc hgv⟩
  · exact vx_Zqof (hts _ (List.mem_of_getElem? (l := lw_tbl) (i := 676) rfl)) (hz _ (z_at1 14 rfl rfl)) (hf (Cond.isRef (.static "java/lang/Throwable" "UNASSIGNED_STACK" "[Ljava/lang/StackTraceElement;")) (List.mem_of_getElem? (i := 4) rfl)) (fun a h => by omega)
  · exact vx_Zqof (hts _ (List.mem_of_getElem? (l := lw_tbl) (i := 678) rfl)) (hz _ (z_at1 14 rfl rfl)) (hf (Cond.isRef (.static "java/lang/Throwable" "SUPPRESSED_SENTINEL" "Ljava/util/List;")) (List.mem_of_getElem? (i := 5) rfl)) (fun a h => by omega)
theorem zs_env (hts : ∀ w ∈ lw_tbl, w.before args s = true) (hgv : (Jvm.Cond.and given_1 narrow_1).before args s = true) : ∃ (dC : Nat → ClassId) (dI : Nat → Nat → Nat) (cs : Nat → ClassId), zEnv dC dI cs (fun q => s.heap.size ≤ q) s := by
  have hz : ∀ w ∈ z_W, w.before args s = true := fun w hw => hts w (z_W_tbl w hw)
  have hao : va_AO RX4 s := va_AO.of (hts _ (List.mem_of_getElem? (l := lw_tbl) (i := 192) rfl))
  have k1 := zs_cls hz
  have k2 := zs_row hz hao
  refine ⟨fun c => Classical.choose (k1 c), fun c => Classical.choose (Classical.choose_spec (k1 c)), fun t => Classical.choose (k2 t), ⟨fun c q hq => Classical.choose_spec (Classical.choose_spec (k1 c)) q hq, fun k q hk => by cases hk⟩, fun k hk => Classical.choose_spec (k2 (z_aty k)) k hk rfl, zs_WX hts hgv, hao⟩
end
