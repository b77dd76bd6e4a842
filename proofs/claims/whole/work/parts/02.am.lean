/-! A small machine over typed memory: a reference is a pair (kind, number); kinds below 20 are the classes by their place in vwCl, the others are rows of one length each. -/
abbrev zA : Type := Value ⊕ (Nat × Nat)
abbrev zM : Type := (Nat → Nat → Nat → Int32) × (Nat → Nat → Nat → Int64) × (Nat → Nat → Nat → UInt64)
abbrev zL : Type := List (Option zA)
abbrev zR : Type := Instr ⊕ (Nat × Nat × Nat × Nat × Nat × Int32 × Int64)
abbrev zT : Type := List (Nat × List (Nat × Nat × zR))
abbrev zS : Type := Nat × zL × List zA × zM
abbrev zO : Type := (Option zA ⊕ Nat) × zM
def z_cv (ad : Nat → Nat → Nat) : zA → Value
  | .inl v => v
  | .inr q => .ref (ad q.1 q.2)
def z_lk1 : List (Nat × Nat × zR) → Nat → Option (Nat × zR)
  | [], _ => none
  | (a, b, r) :: t, pc => cond (Nat.beq a pc) (some (b, r)) (z_lk1 t pc)
def z_lk : zT → Nat → Option (Nat × zR)
  | [], _ => none
  | (b, c) :: t, pc => cond (Nat.ble pc b) (z_lk1 c pc) (z_lk t pc)
def z_sI (m : zM) (k i j : Nat) (v : Int32) : zM := (fun a b c => if a = k ∧ b = i ∧ c = j then v else m.1 a b c, m.2)
def z_sL (m : zM) (k i j : Nat) (v : Int64) : zM := (m.1, fun a b c => if a = k ∧ b = i ∧ c = j then v else m.2.1 a b c, m.2.2)
def z_sD (m : zM) (k i j : Nat) (v : UInt64) : zM := (m.1, m.2.1, fun a b c => if a = k ∧ b = i ∧ c = j then v else m.2.2 a b c)
def z_irem (x y : Int32) : Int32 := x - x / y * y
def z_iushr (x y : Int32) : Int32 := (x.toUInt32 >>> (y.toUInt32 &&& Int32.toUInt32 31)).toInt32
def z_shl (x : Int64) (y : Int32) : Int64 := x <<< (y.toInt64 &&& 63)
def z_shr (x : Int64) (y : Int32) : Int64 := x >>> (y.toInt64 &&& 63)
def z_ushr (x : Int64) (y : Int32) : Int64 := (x.toUInt64 >>> (y.toInt64.toUInt64 &&& Int64.toUInt64 63)).toInt64
def z_i2c (x : Int32) : Int32 := (x.toUInt32 % 65536).toInt32
/-- the kinds of rows: what they hold (0 int, 1 long, 2 double, 3 char, 4 references), and how many -/
def z_aty : Nat → Nat
  | 30 => 1 | 31 => 1 | 32 => 1 | 33 => 2 | 34 => 3 | 35 => 4 | _ => 0
def z_alen : Nat → Nat
  | 20 => 64 | 21 => 128 | 22 => 8 | 23 => 259 | 24 => 2072 | 25 => 60 | 26 => 6400 | 27 => 65
  | 30 => 64 | 31 => 128 | 32 => 1 | 33 => 1 | 34 => 60 | 35 => 8 | _ => 0
def z_tyf : Nat → Nat → FieldType
  | 2 => tyX0 | 3 => tyX1 | 4 => tyX2 | 5 => tyX3 | 6 => tyX4 | 7 => tyX5 | 8 => tyX6 | 9 => tyX8 | 10 => tyX9 | 11 => tyX10 | 12 => tyX11 | 13 => tyX12 | _ => fun _ => .int
/-- what a place of an object holds: 0 int, 1 long, 2 a reference, 3 boolean -/
def z_fty (k j : Nat) : Nat := match z_tyf k j with
  | .int => 0 | .long => 1 | .boolean => 3 | _ => 2
def z_c2 : zA → Bool
  | .inl (.long _) => true
  | .inl (.double _) => true
  | _ => false
def z_cs : List zA → Nat
  | [] => 0
  | v :: t => cond (z_c2 v) (z_cs t + 2) (z_cs t + 1)
def z_rcv (N : Nat → Nat) (kd : Nat) (as : List zA) : Prop := match kd with
  | 0 => True
  | d + 1 => match as with
    | .inr (k, i) :: _ => Nat.beq k (d + 1) = true ∧ i < N k
    | _ => False
def z_get : zL → Nat → Option zA
  | [], _ => none
  | x :: _, 0 => x
  | _ :: t, n + 1 => z_get t n
def z_set : zL → Nat → Option zA → zL
  | [], _, _ => []
  | _ :: t, 0, v => v :: t
  | x :: t, n + 1, v => x :: z_set t n v
def z_cl (ls : zL) : Nat → zL
  | 0 => ls
  | j + 1 => match z_get ls j with
    | some v => cond (z_c2 v) (z_set ls j none) ls
    | none => ls
def z_st1 (ls : zL) (i : Nat) (v : zA) : zL := z_set (z_cl ls i) i (some v)
def z_st2 (ls : zL) (i : Nat) (v : zA) : zL := z_set (z_set (z_cl ls i) i (some v)) (i + 1) none
def z_mask : List Bool → zL → zL
  | true :: b, x :: t => x :: z_mask b t
  | false :: b, _ :: t => none :: z_mask b t
  | _, t => t.map fun _ => none
section
variable (N : Nat → Nat) (Rf : Nat → Nat → Nat → zA) (nx : Nat) (ls : zL) (m : zM)
def z_II (st : List zA) (f : Int32 → Int32 → Int32) : Option (zS × Prop) := match st with
  | .inl (.int y) :: .inl (.int x) :: t => some ((nx, ls, .inl (.int (f x y)) :: t, m), True)
  | _ => none
def z_IIg (st : List zA) (f : Int32 → Int32 → Int32) : Option (zS × Prop) := match st with
  | .inl (.int y) :: .inl (.int x) :: t => some ((nx, ls, .inl (.int (f x y)) :: t, m), ¬ y = 0)
  | _ => none
def z_LL (st : List zA) (f : Int64 → Int64 → Int64) : Option (zS × Prop) := match st with
  | .inl (.long y) :: .inl (.long x) :: t => some ((nx, ls, .inl (.long (f x y)) :: t, m), True)
  | _ => none
def z_LI (st : List zA) (f : Int64 → Int32 → Int64) : Option (zS × Prop) := match st with
  | .inl (.int y) :: .inl (.long x) :: t => some ((nx, ls, .inl (.long (f x y)) :: t, m), True)
  | _ => none
def z_I' (st : List zA) (f : Int32 → Value) : Option (zS × Prop) := match st with
  | .inl (.int x) :: t => some ((nx, ls, .inl (f x) :: t, m), True)
  | _ => none
def z_al (st : List zA) (ty : Nat) (f : Nat → Nat → Nat → zA) : Option (zS × Prop) := match st with
  | .inl (.int x) :: .inr (k, i) :: t => cond (Nat.beq (z_aty k) ty && Nat.ble 20 k) (some ((nx, ls, f k i x.toNatClampNeg :: t, m), i < N k ∧ vp_in x (z_alen k))) none
  | _ => none
def z_ex1 (i : Instr) (st : List zA) : Option (zS × Prop) := match i with
  | .iadd => z_II nx ls m st (fun x y => x + y)
  | .isub => z_II nx ls m st (fun x y => x - y)
  | .imul => z_II nx ls m st (fun x y => x * y)
  | .iand => z_II nx ls m st (fun x y => x &&& y)
  | .ior => z_II nx ls m st (fun x y => x ||| y)
  | .ixor => z_II nx ls m st (fun x y => x ^^^ y)
  | .iushr => z_II nx ls m st z_iushr
  | .idiv => z_IIg nx ls m st (fun x y => x / y)
  | .irem => z_IIg nx ls m st z_irem
  | .ineg => z_I' nx ls m st (fun x => .int (-x))
  | .ladd => z_LL nx ls m st (fun x y => x + y)
  | .lsub => z_LL nx ls m st (fun x y => x - y)
  | .land => z_LL nx ls m st (fun x y => x &&& y)
  | .lor => z_LL nx ls m st (fun x y => x ||| y)
  | .lxor => z_LL nx ls m st (fun x y => x ^^^ y)
  | .lshl => z_LI nx ls m st z_shl
  | .lshr => z_LI nx ls m st z_shr
  | .lushr => z_LI nx ls m st z_ushr
  | .lcmp => match st with
    | .inl (.long y) :: .inl (.long x) :: t => some ((nx, ls, .inl (.int (lg_cmp x y)) :: t, m), True)
    | _ => none
  | .i2l => z_I' nx ls m st (fun x => .long x.toInt64)
  | .i2c => z_I' nx ls m st (fun x => .int (z_i2c x))
  | .i2d => z_I' nx ls m st (fun x => .double (FP.i2d x))
  | .l2i => match st with
    | .inl (.long x) :: t => some ((nx, ls, .inl (.int x.toInt32) :: t, m), True)
    | _ => none
  | .ddiv => match st with
    | .inl (.double y) :: .inl (.double x) :: t => some ((nx, ls, .inl (.double (FP.ddiv x y)) :: t, m), vf_n64 (FP.ddiv x y))
    | _ => none
  | .dcmp op => match st with
    | .inl (.double y) :: .inl (.double x) :: t => some ((nx, ls, .inl (.int (Op.cmpValue (FP.dcmp x y) op)) :: t, m), True)
    | _ => none
  | .dup => match st with
    | v :: t => cond (z_c2 v) none (some ((nx, ls, v :: v :: t, m), True))
    | _ => none
  | .pop => match st with
    | v :: t => cond (z_c2 v) none (some ((nx, ls, t, m), True))
    | _ => none
  | .dup_x1 => match st with
    | v :: w :: t => cond (z_c2 v || z_c2 w) none (some ((nx, ls, v :: w :: v :: t, m), True))
    | _ => none
  | .dup2 => match st with
    | v :: w :: t => cond (z_c2 v || z_c2 w) none (some ((nx, ls, v :: w :: v :: w :: t, m), True))
    | _ => none
  | .aconst_null => some ((nx, ls, .inl .null :: st, m), True)
  | .arraylength => match st with
    | .inr (k, i) :: t => cond (Nat.ble 20 k) (some ((nx, ls, .inl (.int (Int32.ofNat (z_alen k))) :: t, m), i < N k)) none
    | _ => none
  | .iaload => z_al N nx ls m st 0 (fun k i j => .inl (.int (m.1 k i j)))
  | .caload => z_al N nx ls m st 3 (fun k i j => .inl (.int (m.1 k i j)))
  | .laload => z_al N nx ls m st 1 (fun k i j => .inl (.long (m.2.1 k i j)))
  | .daload => z_al N nx ls m st 2 (fun k i j => .inl (.double (m.2.2 k i j)))
  | .aaload => z_al N nx ls m st 4 (fun k i j => Rf k i j)
  | .iastore => match st with
    | .inl (.int v) :: .inl (.int x) :: .inr (k, i) :: t => cond (Nat.beq (z_aty k) 0 && Nat.ble 20 k) (some ((nx, ls, t, z_sI m k i x.toNatClampNeg v), i < N k ∧ vp_in x (z_alen k))) none
    | _ => none
  | .castore => match st with
    | .inl (.int v) :: .inl (.int x) :: .inr (k, i) :: t => cond (Nat.beq (z_aty k) 3 && Nat.ble 20 k) (some ((nx, ls, t, z_sI m k i x.toNatClampNeg (vp_nar .char v)), i < N k ∧ vp_in x (z_alen k))) none
    | _ => none
  | .lastore => match st with
    | .inl (.long v) :: .inl (.int x) :: .inr (k, i) :: t => cond (Nat.beq (z_aty k) 1 && Nat.ble 20 k) (some ((nx, ls, t, z_sL m k i x.toNatClampNeg v), i < N k ∧ vp_in x (z_alen k))) none
    | _ => none
  | .dastore => match st with
    | .inl (.double v) :: .inl (.int x) :: .inr (k, i) :: t => cond (Nat.beq (z_aty k) 2 && Nat.ble 20 k) (some ((nx, ls, t, z_sD m k i x.toNatClampNeg v), i < N k ∧ vp_in x (z_alen k))) none
    | _ => none
  | _ => none
/-- the resolved ones: 0 getfield, 1 putfield, 2 an int, 3 a long, 4 iinc, 5..8 loads, 9..12 stores, 13 goto -/
def z_ex2 (q : Nat × Nat × Nat × Nat × Nat × Int32 × Int64) (st : List zA) : Option (zS × Prop) := match q with
  | (0, a, b, _) => match st with
    | .inr (k, i) :: t => cond (Nat.beq k a) (match z_fty a b with
      | 0 => some ((nx, ls, .inl (.int (m.1 a i b)) :: t, m), i < N a)
      | 1 => some ((nx, ls, .inl (.long (m.2.1 a i b)) :: t, m), i < N a)
      | 3 => some ((nx, ls, .inl (.int (m.1 a i b)) :: t, m), i < N a)
      | _ => some ((nx, ls, Rf a i b :: t, m), i < N a)) none
    | _ => none
  | (1, a, b, _) => match st with
    | .inl (.int v) :: .inr (k, i) :: t => cond (Nat.beq k a) (match z_fty a b with
      | 0 => some ((nx, ls, t, z_sI m a i b v), i < N a)
      | 3 => some ((nx, ls, t, z_sI m a i b v), i < N a ∧ (v = 0 ∨ v = 1))
      | _ => none) none
    | .inl (.long v) :: .inr (k, i) :: t => cond (Nat.beq k a) (match z_fty a b with
      | 1 => some ((nx, ls, t, z_sL m a i b v), i < N a)
      | _ => none) none
    | _ => none
  | (2, _, _, _, _, v, _) => some ((nx, ls, .inl (.int v) :: st, m), True)
  | (3, _, _, _, _, _, v) => some ((nx, ls, .inl (.long v) :: st, m), True)
  | (4, a, _, _, _, v, _) => match z_get ls a with
    | some (.inl (.int x)) => some ((nx, z_st1 ls a (.inl (.int (x + v))), st, m), True)
    | _ => none
  | (5, a, _) => match z_get ls a with
    | some (.inl (.int x)) => some ((nx, ls, .inl (.int x) :: st, m), True)
    | _ => none
  | (6, a, _) => match z_get ls a with
    | some (.inl (.long x)) => some ((nx, ls, .inl (.long x) :: st, m), True)
    | _ => none
  | (7, a, _) => match z_get ls a with
    | some (.inr q) => some ((nx, ls, .inr q :: st, m), True)
    | _ => none
  | (8, a, _) => match z_get ls a with
    | some (.inl (.double x)) => some ((nx, ls, .inl (.double x) :: st, m), True)
    | _ => none
  | (9, a, _) => match st with
    | .inl (.int x) :: t => cond (Nat.ble (a + 1) ls.length) (some ((nx, z_st1 ls a (.inl (.int x)), t, m), True)) none
    | _ => none
  | (10, a, _) => match st with
    | .inl (.long x) :: t => cond (Nat.ble (a + 2) ls.length) (some ((nx, z_st2 ls a (.inl (.long x)), t, m), True)) none
    | _ => none
  | (11, a, _) => match st with
    | .inr q :: t => cond (Nat.ble (a + 1) ls.length) (some ((nx, z_st1 ls a (.inr q), t, m), True)) none
    | _ => none
  | (12, a, _) => match st with
    | .inl (.double x) :: t => cond (Nat.ble (a + 2) ls.length) (some ((nx, z_st2 ls a (.inl (.double x)), t, m), True)) none
    | _ => none
  | (13, a, _) => some ((a, ls, st, m), True)
  | _ => none
end
section
variable (N : Nat → Nat) (Rf : Nat → Nat → Nat → zA) (ct : zT)
/-- a step, and what it wants -/
def z_step (s : zS) : Option (zS × Prop) := match z_lk ct s.1 with
  | some (len, .inl i) => z_ex1 N Rf (s.1 + len) s.2.1 s.2.2.2 i s.2.2.1
  | some (len, .inr q) => z_ex2 N Rf (s.1 + len) s.2.1 s.2.2.2 q s.2.2.1
  | none => none
def z_steps : Nat → zS → Option (zS × Prop)
  | 0, s => some (s, True)
  | n + 1, s => match z_step N Rf ct s with
    | some (s', P) => match z_steps n s' with
      | some (s2, P2) => some (s2, P ∧ P2)
      | none => none
    | none => none
/-- a branch: the condition, where to when it holds, where to otherwise, the stack behind it -/
def z_br (pc : Nat) (st : List zA) : Option (Prop × Nat × Nat × List zA) := match z_lk ct pc with
  | some (len, .inr (14, a, b, _)) => match st with
    | .inl (.int x) :: t => match b with
      | 0 => some (x = 0, a, pc + len, t)
      | 1 => some (x = 0, pc + len, a, t)
      | 2 => some (x < 0, a, pc + len, t)
      | 3 => some (0 ≤ x, a, pc + len, t)
      | 4 => some (0 < x, a, pc + len, t)
      | _ => some (x ≤ 0, a, pc + len, t)
    | _ => none
  | some (len, .inr (15, a, b, _)) => match st with
    | .inl (.int y) :: .inl (.int x) :: t => match b with
      | 0 => some (x = y, a, pc + len, t)
      | 1 => some (x = y, pc + len, a, t)
      | 2 => some (x < y, a, pc + len, t)
      | 3 => some (y ≤ x, a, pc + len, t)
      | 4 => some (y < x, a, pc + len, t)
      | _ => some (x ≤ y, a, pc + len, t)
    | _ => none
  | some (len, .inr (16, a, _)) => match st with
    | .inl .null :: t => some (True, a, pc + len, t)
    | .inr _ :: t => some (False, a, pc + len, t)
    | _ => none
  | _ => none
def z_swT (pc : Nat) (d lo hi : Int) (offs : Array Int) (x : Int32) : Nat := if x.toInt < lo ∨ hi < x.toInt then (pc + d).toNat else (pc + offs.getD (x.toInt - lo).toNat 0).toNat
def z_swL (pc : Nat) (d : Int) (ps : Array (Int × Int)) (x : Int32) : Nat := (pc + Op.lookupswitch.offset ps.toList d x.toInt).toNat
def z_sw (pc : Nat) (st : List zA) : Option (Nat × List zA) := match z_lk ct pc with
  | some (_, .inl (.tableswitch d lo hi offs)) => match st with
    | .inl (.int x) :: t => some (z_swT pc d lo hi offs x, t)
    | _ => none
  | some (_, .inl (.lookupswitch d ps)) => match st with
    | .inl (.int x) :: t => some (z_swL pc d ps x, t)
    | _ => none
  | _ => none
/-- 18: a call of method a, with b values -/
def z_call (pc : Nat) (st : List zA) : Option (Nat × List zA × Nat × List zA) := match z_lk ct pc with
  | some (len, .inr (18, a, b, _)) => cond (Nat.ble b st.length && Nat.ble (z_cs (st.drop b)) 8) (some (a, (st.take b).reverse, pc + len, st.drop b)) none
  | _ => none
def z_ret (bo : Nat) (pc : Nat) (st : List zA) : Option (Option zA × Prop) := match z_lk ct pc with
  | some (_, .inl .ireturn) => match st with
    | [.inl (.int x)] => some (some (.inl (.int x)), match bo with
      | 0 => True
      | 1 => x = 0 ∨ x = 1
      | _ => narrow .char (.int x) = .int x)
    | _ => none
  | some (_, .inl .lreturn) => match st with
    | [.inl (.long x)] => some (some (.inl (.long x)), True)
    | _ => none
  | some (_, .inl .dreturn) => match st with
    | [.inl (.double x)] => some (some (.inl (.double x)), True)
    | _ => none
  | some (_, .inl .areturn) => match st with
    | [.inl .null] => some (some (.inl .null), True)
    | [.inr q] => some (some (.inr q), True)
    | _ => none
  | some (_, .inl .return_) => match st with
    | [] => some (none, True)
    | _ => none
  | _ => none
/-- 19: a throw of the exception a -/
def z_thr (pc : Nat) (st : List zA) : Option Nat := match z_lk ct pc with
  | some (_, .inr (19, a, _)) => match st with
    | [] => some a
    | _ => none
  | _ => none
end
/-- what is closed under the steps: G k pc locals stack memory; k: how many exceptions may still be made; C: the calls; KD: the kind that a method's receiver is of; hh: who catches what, and answers what; o: the end -/
def z_Rules (N : Nat → Nat) (Rf : Nat → Nat → Nat → zA) (KD : Nat → Nat) (C : Nat → Nat → List zA → zM → zO → Prop) (ct : zT) (bo : Nat) (hh : Nat → Nat → Option Int32) (o : zO) (G : Nat → Nat → zL → List zA → zM → Prop) : Prop :=
  (∀ k pc ls st m s' P, z_step N Rf ct (pc, ls, st, m) = some (s', P) → P → G k s'.1 s'.2.1 s'.2.2.1 s'.2.2.2 → G k pc ls st m) ∧
  (∀ k pc ls st m c t f st', z_br ct pc st = some (c, t, f, st') → (c → G k t ls st' m) → (¬ c → G k f ls st' m) → G k pc ls st m) ∧
  (∀ k pc ls st m t st', z_sw ct pc st = some (t, st') → G k t ls st' m → G k pc ls st m) ∧
  (∀ k1 k2 pc ls st m y as nx st' v m', z_call ct pc st = some (y, as, nx, st') → z_rcv N (KD y) as → C k1 y as m (.inl v, m') → G k2 nx ls (v.toList ++ st') m' → G (k1 + k2) pc ls st m) ∧
  (∀ k1 k2 pc ls st m y as nx st' e m', z_call ct pc st = some (y, as, nx, st') → z_rcv N (KD y) as → C k1 y as m (.inr e, m') → (match hh pc e with
    | none => o = (.inr e, m')
    | some x => o = (.inl (some (.inl (.int x))), m')) → G (k1 + k2) pc ls st m) ∧
  (∀ k pc ls st m v P, z_ret ct bo pc st = some (v, P) → P → o = (.inl v, m) → G k pc ls st m) ∧
  (∀ k pc ls st m e, z_thr ct pc st = some e → o = (.inr e, m) → G (k + 1) pc ls st m) ∧
  (∀ k pc ls st m b, G k pc (z_mask b ls) st m → G k pc ls st m)
def z_sl : List zA → zL
  | [] => []
  | v :: t => cond (z_c2 v) (some v :: none :: z_sl t) (some v :: z_sl t)
def z_rep : Nat → zL
  | 0 => []
  | n + 1 => none :: z_rep n
def z_ent (n : Nat) (as : List zA) : zL := z_sl as ++ z_rep (n - (z_sl as).length)
/-- a method: its name, bytes, room for locals, answer; its handlers (from, to, at, the table's number, the exception, the answer); its table; the kind of its receiver (0: static); how many values it takes; four places of words -/
abbrev zI : Type := MethodName × ByteArray × Nat × Option FieldType × List (Nat × Nat × Nat × Nat × Nat × Int32) × zT × Nat × Nat × Nat × Nat × Nat × Nat
def z_bo (t : Option FieldType) : Nat := match t with
  | some .boolean => 1
  | some .char => 2
  | _ => 0
def z_hf (h : List (Nat × Nat × Nat × Nat × Nat × Int32)) (pc e : Nat) : Option Int32 := match h with
  | [] => none
  | (a, b, _, _, e', x) :: t => cond (Nat.ble a pc && Nat.ble (pc + 1) b && Nat.beq e e') (some x) (z_hf t pc e)
/-- a method's run: at most d calls deep, at most k exceptions made -/
def z_Ev (MT : Nat → zI) (N : Nat → Nat) (Rf : Nat → Nat → Nat → zA) : Nat → Nat → Nat → List zA → zM → zO → Prop
  | 0, _, _, _, _, _ => False
  | d + 1, k, y, as, m, o => (z_sl as).length ≤ (MT y).2.2.1 ∧ ∀ G, z_Rules N Rf (fun i => (MT i).2.2.2.2.2.2.1) (z_Ev MT N Rf d) (MT y).2.2.2.2.2.1 (z_bo (MT y).2.2.2.1) (z_hf (MT y).2.2.2.2.1) o G → G k 0 (z_ent (MT y).2.2.1 as) [] m
