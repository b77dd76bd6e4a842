def z_ex : Nat → String
  | 0 => "java/lang/IllegalArgumentException"
  | 1 => "java/lang/IndexOutOfBoundsException"
  | 2 => "java/lang/IllegalStateException"
  | 3 => "java/util/NoSuchElementException"
  | _ => "java/lang/ArithmeticException"
def z_strs : List (String × Nat × String) := [("WatershedMapper", 472, "a number out of range"), ("WatershedMapper", 111, "range out of range"), ("WatershedMapper", 468, "no such cell"), ("WatershedMapper", 154, "the only outlet"), ("WatershedMapper", 470, "no such lake"), ("WatershedMapper", 268, "the depth is 0"), ("WatershedMapper", 280, "no such index"), ("WatershedMapper", 290, "no cell has a depth greater than 0"), ("WatershedMapper", 296, "an outlet flows to no cell"), ("WatershedMapper", 345, "no such reach"), ("WatershedMapper", 361, "no stream cell"), ("WatershedMapper", 366, "no outlet"), ("WatershedMapper", 371, "no such depression"), ("WatershedMapper", 401, "no pool of this number contains the cell"), ("WatershedMapper", 441, "the buffer is full"), ("WatershedMapper", 453, "an error in the text"), ("WatershedMapper", 459, "no error position was kept"), ("WatershedMapper", 461, "nothing can be taken back"), ("WatershedMapper", 466, "nothing was saved")]
def z_B : List Cond := [Cond.castable "java/lang/IllegalArgumentException" "java/lang/IllegalArgumentException", Cond.castable "java/lang/IndexOutOfBoundsException" "java/lang/IndexOutOfBoundsException", Cond.castable "java/lang/IllegalStateException" "java/lang/IllegalStateException", Cond.castable "java/util/NoSuchElementException" "java/util/NoSuchElementException", Cond.castable "java/lang/ArithmeticException" "java/lang/ArithmeticException", (Jvm.Cond.declares ({ cls := "java/lang/RuntimeException", name := "<init>", desc := "()V" } : Jvm.MethodName)), (Jvm.Cond.declares ({ cls := "java/lang/RuntimeException", name := "<init>", desc := "(Ljava/lang/String;)V" } : Jvm.MethodName)), (Jvm.Cond.declares ({ cls := "java/lang/Exception", name := "<init>", desc := "()V" } : Jvm.MethodName)), (Jvm.Cond.declares ({ cls := "java/lang/Exception", name := "<init>", desc := "(Ljava/lang/String;)V" } : Jvm.MethodName)), (Jvm.Cond.declares ({ cls := "java/lang/Throwable", name := "<init>", desc := "()V" } : Jvm.MethodName)), (Jvm.Cond.declares ({ cls := "java/lang/Throwable", name := "<init>", desc := "(Ljava/lang/String;)V" } : Jvm.MethodName)), (Jvm.Cond.declares ({ cls := "java/lang/IndexOutOfBoundsException", name := "<init>", desc := "()V" } : Jvm.MethodName)), (Jvm.Cond.declares ({ cls := "java/lang/IndexOutOfBoundsException", name := "<init>", desc := "(Ljava/lang/String;)V" } : Jvm.MethodName))]
def z_Bok : Cond → Bool
  | .castable _ _ => true
  | .declares _ => true
  | _ => false
theorem z_B_ok : ∀ w ∈ z_B, z_Bok w = true := by decide +kernel
theorem z_Bok_t {w : Cond} (h : z_Bok w = true) : w.onTables = true := by cases w <;> first | rfl | cases h
theorem z_Bok_w {w : Cond} {s U : State} (h : z_Bok w = true) (hW : s.WarmedH U.vm) (hZ : va_Nw w s) : va_Nw w U := by
  cases w <;> first | exact va_Nw.warmC hW hZ | exact va_Nw.warmD hW hZ | cases h
/-- what a throw and a catch want of the start -/
def z_WX (A : Nat → Prop) (s : State) (H : Heap) : Prop :=
  vx_Zq Bundle.tN "UNASSIGNED_STACK" Bundle.steD A s H ∧ vx_Zq Bundle.tN "SUPPRESSED_SENTINEL" Bundle.listD A s H ∧ (∀ q ∈ z_strs, ∃ a, vk_R q.1 q.2.1 q.2.2 a s) ∧ (∀ w ∈ z_B, va_Nw w s) ∧ ∀ i j, i < 5 → j < 5 → i ≠ j → va_Nc (z_ex i) (z_ex j) s
def z_A (ad : Nat → Nat → Nat) (N : Nat → Nat) (sz : Nat) : Nat → Prop := fun q => (∃ k i, i < N k ∧ q = ad k i) ∨ sz ≤ q
def z_Pc (ad : Nat → Nat → Nat) (N : Nat → Nat) (Rf : Nat → Nat → Nat → zA) (dC : Nat → ClassId) (dI : Nat → Nat → Nat) (cA : Nat → Nat → ClassId) (sz : Nat) (as : List zA) (m : zM) : Array Value → State → Prop := fun v U =>
  v = (as.map (z_cv ad)).toArray ∧ U.heap.size = sz ∧ z_W0 (z_A ad N sz) N Rf dC dI cA U ∧ z_WX (z_A ad N sz) U U.heap ∧ va_P (dC, dI) vwCl (z_wl ad N Rf cA m) U.heap ∧ va_D (z_A ad N sz) (z_wl ad N Rf cA m)
def z_Qc (ad : Nat → Nat → Nat) (N : Nat → Nat) (Rf : Nat → Nat → Nat → zA) (dC : Nat → ClassId) (dI : Nat → Nat → Nat) (cA : Nat → Nat → ClassId) (sz : Nat) (o : zO) : Array Value → State → Outcome → State → Prop := fun _ st oc t =>
  ∃ v m', o = (.inl v, m') ∧ oc = .returned (v.map (z_cv ad)) ∧ va_P (dC, dI) vwCl (z_wl ad N Rf cA m') t.heap ∧ va_D (z_A ad N sz) (z_wl ad N Rf cA m') ∧ va_F (z_A ad N sz) st t
def z_XC (ad : Nat → Nat → Nat) (N : Nat → Nat) (Rf : Nat → Nat → Nat → zA) (dC : Nat → ClassId) (dI : Nat → Nat → Nat) (cA : Nat → Nat → ClassId) (sz : Nat) (o : zO) : String → State → State → Prop := fun E st t =>
  ∃ e m', o = (.inr e, m') ∧ e < 5 ∧ E = z_ex e ∧ va_P (dC, dI) vwCl (z_wl ad N Rf cA m') t.heap ∧ va_D (z_A ad N sz) (z_wl ad N Rf cA m') ∧ va_F (z_A ad N sz) st t
def z_rm (d k : Nat) : Room := { frames := d + 5, cells := k, slots := 6 * k, locals := 100 + 64 * d }
def z_raw (h : List (Nat × Nat × Nat × Nat × Nat × Int32)) : List (Nat × Nat × Nat × Nat) := h.map fun q => (q.1, q.2.1, q.2.2.1, q.2.2.2.1)
def z_cw (I : zI) : Cond := match I.2.2.2.2.1 with
  | [] => .code I.1 I.2.1 I.2.2.1 I.2.2.2.1
  | h => .codeWith I.1 I.2.1 I.2.2.1 I.2.2.2.1 (z_raw h)
def z_ws (I : zI) : List Cond := z_cw I :: z_W
/-- a method's contract, for all worlds -/
def z_Con (l : Launch) (MT : Nat → zI) (N : Nat → Nat) (Rf : Nat → Nat → Nat → zA) (d k y : Nat) (as : List zA) (m : zM) (o : zO) : Prop :=
  ∀ ad dC dI cA sz, vx_Met l (MT y).1 (z_ws (MT y)) (z_rm d k) (z_Pc ad N Rf dC dI cA sz as m) (z_Qc ad N Rf dC dI cA sz o) (z_XC ad N Rf dC dI cA sz o) k (6 * k) (z_A ad N sz)
theorem z_W0_moved {A : Nat → Prop} {N : Nat → Nat} {Rf : Nat → Nat → Nat → zA} {dC : Nat → ClassId} {dI : Nat → Nat → Nat} {cA : Nat → Nat → ClassId} {s U : State} {B : Nat → Prop} (hvm : s.vm.Alike U.vm) (hB : ∀ q, U.heap.size ≤ q → B q) (h : z_W0 A N Rf dC dI cA s) : z_W0 B N Rf dC dI cA U :=
  ⟨h.1.moved hvm, fun k i h1 h2 => ⟨arrOfT_moved hvm (h.2.1 k i h1 h2).1, (h.2.1 k i h1 h2).2.moved hvm⟩, h.2.2.1, h.2.2.2.1, hB⟩
theorem z_WX_warm {A B : Nat → Prop} {s U : State} {H H1 : Heap} (hW : s.WarmedH U.vm) (h : z_WX A s H) (hk : ∀ a : Nat, a < H.size → ¬ A a → H1[a]? = H[a]?) (hB : ∀ q, B q → A q) : z_WX B U H1 :=
  ⟨((h.1.moved hW.alike).kept hk).narrow hB, ((h.2.1.moved hW.alike).kept hk).narrow hB, fun q hq => (h.2.2.1 q hq).imp fun _ g => g.warm hW, fun w hw => z_Bok_w (z_B_ok w hw) hW (h.2.2.2.1 w hw), fun i j h1 h2 h3 => (h.2.2.2.2 i j h1 h2 h3).moved hW.alike⟩
theorem z_Pc_blind {ad : Nat → Nat → Nat} {N : Nat → Nat} {Rf : Nat → Nat → Nat → zA} {dC : Nat → ClassId} {dI : Nat → Nat → Nat} {cA : Nat → Nat → ClassId} {sz : Nat} {as : List zA} {m : zM} : FrameBlind (z_Pc ad N Rf dC dI cA sz as m) := by
  intro a U g mk h
  obtain ⟨h1, h2, h3, h4, h5, h6⟩ := h
  have hvm : U.vm.Alike (U.calling g mk a).vm := Vm.Alike.refl U.vm
  exact ⟨h1, h2, z_W0_moved hvm h3.2.2.2.2 h3, ⟨h4.1.moved hvm, h4.2.1.moved hvm, fun q hq => (h4.2.2.1 q hq).imp fun _ g1 => vk_R.same (u := U) rfl g1, fun w hw => va_Nw.same (u := U) (z_Bok_t (z_B_ok w hw)) rfl (h4.2.2.2.1 w hw), fun i j q1 q2 q3 => (h4.2.2.2.2 i j q1 q2 q3).moved hvm⟩, h5, h6⟩

