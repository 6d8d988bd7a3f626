/-! THE PURE MACHINE, part 1: words for cells, stores, locals; the instructions that touch no cell -/
/-- a cell: an array (number of its type, length, contents) or an object (number of its class, fields); a reference in it is the number of a cell (from jm_lim on: an array that nobody writes) -/
abbrev jm_c : Type := (Nat × vp_A) ⊕ (Nat × List Value)
abbrev jm_S : Type := Nat × (Nat → jm_c)
abbrev jm_L : Type := List (Nat × Value)
def jm_lim : Nat := 1000000
def jm_a (base : Nat) (sa : Nat → Nat) (k : Nat) : Nat := if k < jm_lim then base + k else sa k
def jm_v (base : Nat) (sa : Nat → Nat) (v : Value) : Value := match v with
  | .ref k => .ref (jm_a base sa k)
  | .int x => .int x
  | .long x => .long x
  | .float x => .float x
  | .double x => .double x
  | .null => .null
  | .retAddr x => .retAddr x
def jm_lv (base : Nat) (sa : Nat → Nat) (lv : jm_L) : List (Nat × Value) := lv.map fun q => (q.1, jm_v base sa q.2)
theorem jm_v_cat (base : Nat) (sa : Nat → Nat) (v : Value) : (jm_v base sa v).category = v.category := by cases v <;> rfl
theorem jm_cats (base : Nat) (sa : Nat → Nat) (st : List Value) : ((st.map (jm_v base sa)).map fun v => v.category).sum = (st.map fun v => v.category).sum := by
  rw [List.map_map]
  congr 1
  apply List.map_congr_left
  intro v _
  exact jm_v_cat base sa v
def jm_get (lv : jm_L) (i : Nat) : Option Value := match lv.find? (fun q => q.1 == i) with
  | some q => some q.2
  | none => none
theorem jm_get_mem {lv : jm_L} {i : Nat} {v : Value} (h : jm_get lv i = some v) : (i, v) ∈ lv := by
  unfold jm_get at h
  split at h
  · rename_i q hq
    cases h
    have h1 := List.find?_some hq
    have h2 := List.mem_of_find?_eq_some hq
    have h3 : q.1 = i := by simpa using h1
    rw [← h3]
    exact h2
  · cases h
theorem jm_get_has {base : Nat} {sa : Nat → Nat} {lv : jm_L} {i nL : Nat} {v : Value} {ls : Array Slot} (hl : lv_has ls nL (jm_lv base sa lv)) (h : jm_get lv i = some v) : ls[i]? = some (.val (jm_v base sa v)) :=
  hl.2.2 (i, jm_v base sa v) (List.mem_map.mpr ⟨(i, v), jm_get_mem h, rfl⟩)
def jm_set1 (lv : jm_L) (i : Nat) (v : Value) : jm_L := (i, v) :: lv.filter (fun q => !(q.1 == i) && !(q.1 + 1 == i && q.2.category == 2))
def jm_set2 (lv : jm_L) (i : Nat) (v : Value) : jm_L := (i, v) :: lv.filter (fun q => !(q.1 == i) && (!(q.1 == i + 1) && !(q.1 + 1 == i && q.2.category == 2)))
theorem jm_set1_eq (base : Nat) (sa : Nat → Nat) (lv : jm_L) (i : Nat) (v : Value) : (i, jm_v base sa v) :: (jm_lv base sa lv).filter (fun q => !(q.1 == i) && !(q.1 + 1 == i && q.2.category == 2)) = jm_lv base sa (jm_set1 lv i v) := by
  unfold jm_set1 jm_lv
  rw [List.map_cons, List.filter_map]
  congr 2
  apply List.filter_congr
  intro q _
  simp [jm_v_cat]
theorem jm_set2_eq (base : Nat) (sa : Nat → Nat) (lv : jm_L) (i : Nat) (v : Value) : (i, jm_v base sa v) :: (jm_lv base sa lv).filter (fun q => !(q.1 == i) && (!(q.1 == i + 1) && !(q.1 + 1 == i && q.2.category == 2))) = jm_lv base sa (jm_set2 lv i v) := by
  unfold jm_set2 jm_lv
  rw [List.map_cons, List.filter_map]
  congr 2
  apply List.filter_congr
  intro q _
  simp [jm_v_cat]
/-- a constant -/
def jm_k (i : Instr) (len : Nat) : Option Value := match i, len with
  | .iconst n, 1 => some (.int (Int32.ofInt n))
  | .bipush n, 2 => some (.int (Int8.ofInt n).toInt32)
  | .sipush n, 3 => some (.int (Int16.ofInt n).toInt32)
  | .lconst n, 1 => some (.long (Int64.ofNat (n : Nat)))
  | .aconst_null, 1 => some .null
  | _, _ => none
/-- a load: the local's number, the kind (0 int, 1 long, 2 reference) -/
def jm_ld (i : Instr) (len : Nat) : Option (Nat × Nat) := match i, len with
  | .iload n, 2 => some (n, 0)
  | .iload_n n, 1 => some (n.val, 0)
  | .lload n, 2 => some (n, 1)
  | .lload_n n, 1 => some (n.val, 1)
  | .aload n, 2 => some (n, 2)
  | .aload_n n, 1 => some (n.val, 2)
  | _, _ => none
def jm_isk (k : Nat) (v : Value) : Bool := match k, v with
  | 0, .int _ => true
  | 1, .long _ => true
  | 2, .ref _ => true
  | _, _ => false
def jm_sr (i : Instr) (len : Nat) : Option (Nat × Nat) := match i, len with
  | .istore n, 2 => some (n, 0)
  | .istore_n n, 1 => some (n.val, 0)
  | .lstore n, 2 => some (n, 1)
  | .lstore_n n, 1 => some (n.val, 1)
  | .astore n, 2 => some (n, 2)
  | .astore_n n, 1 => some (n.val, 2)
  | _, _ => none
/-- two ints to one -/
def jm_ib (i : Instr) (x y : Int32) : Option Int32 := match i with
  | .iadd => some (x + y)
  | .isub => some (x - y)
  | .imul => some (x * y)
  | .iand => some (x &&& y)
  | .ior => some (x ||| y)
  | .ixor => some (x ^^^ y)
  | .ishl => some (x <<< (y &&& 31))
  | .ishr => some (x >>> (y &&& 31))
  | .iushr => some (x.toUInt32 >>> (y.toUInt32 &&& Int32.toUInt32 31)).toInt32
  | .idiv => if y = 0 then none else some (x / y)
  | .irem => if y = 0 then none else some (x - x / y * y)
  | _ => none
/-- two longs to one -/
def jm_lb (i : Instr) (x y : Int64) : Option Int64 := match i with
  | .ladd => some (x + y)
  | .lsub => some (x - y)
  | .lmul => some (x * y)
  | .land => some (x &&& y)
  | .lor => some (x ||| y)
  | .lxor => some (x ^^^ y)
  | .ldiv => if y = 0 then none else some (x / y)
  | .lrem => if y = 0 then none else some (x - x / y * y)
  | _ => none
/-- a long and an int to a long -/
def jm_ls (i : Instr) (x : Int64) (y : Int32) : Option Int64 := match i with
  | .lshl => some (x <<< (y.toInt64 &&& 63))
  | .lshr => some (x >>> (y.toInt64 &&& 63))
  | .lushr => some (x.toUInt64 >>> (y.toInt64.toUInt64 &&& Int64.toUInt64 63)).toInt64
  | _ => none
/-- one value to one -/
def jm_un (i : Instr) (v : Value) : Option Value := match i, v with
  | .ineg, .int x => some (.int (-x))
  | .lneg, .long x => some (.long (-x))
  | .i2l, .int x => some (.long x.toInt64)
  | .l2i, .long x => some (.int x.toInt32)
  | .i2b, .int x => some (.int x.toInt8.toInt32)
  | .i2s, .int x => some (.int x.toInt16.toInt32)
  | .i2c, .int x => some (.int (x.toUInt32 % 65536).toInt32)
  | _, _ => none
/-- all that takes its operands from the stack and lays its result there, length 1 -/
def jm_al (i : Instr) (st : List Value) : Option (List Value) := match st with
  | .int y :: .int x :: r => (match jm_ib i x y with
    | some z => some (.int z :: r)
    | none => match jm_un i (.int y) with
      | some z => some (z :: .int x :: r)
      | none => none)
  | .long y :: .long x :: r => (match i with
    | .lcmp => some (.int (lg_cmp x y) :: r)
    | _ => match jm_lb i x y with
      | some z => some (.long z :: r)
      | none => match jm_un i (.long y) with
        | some z => some (z :: .long x :: r)
        | none => none)
  | .int y :: .long x :: r => (match jm_ls i x y with
    | some z => some (.long z :: r)
    | none => match jm_un i (.int y) with
      | some z => some (z :: .long x :: r)
      | none => none)
  | v :: r => (match jm_un i v with
    | some z => some (z :: r)
    | none => none)
  | [] => none
/-- the stack's own instructions, length 1 -/
def jm_sk (i : Instr) (st : List Value) : Option (List Value) := match i, st with
  | .dup, a :: r => if a.category = 1 then some (a :: a :: r) else none
  | .pop, a :: r => if a.category = 1 then some r else none
  | .dup_x1, a :: b :: r => if a.category = 1 ∧ b.category = 1 then some (a :: b :: a :: r) else none
  | .dup_x2, a :: b :: d :: r => if a.category = 1 ∧ b.category = 1 ∧ d.category = 1 then some (a :: b :: d :: a :: r) else none
  | .dup2, a :: r => if a.category = 2 then some (a :: a :: r) else (match r with
    | b :: r' => if a.category = 1 ∧ b.category = 1 then some (a :: b :: a :: b :: r') else none
    | [] => none)
  | .pop2, a :: r => if a.category = 2 then some r else none
  | _, _ => none
def jm_at (pc : Nat) (off : Int) : Nat := ((pc : Int) + off).toNat
def jm_ok (pc : Nat) (off : Int) : Bool := decide (0 ≤ (pc : Int) + off)
theorem jm_at_eq {pc : Nat} {off : Int} (h : jm_ok pc off = true) : (pc : Int) + off = (jm_at pc off : Int) := by
  have h1 : 0 ≤ (pc : Int) + off := of_decide_eq_true h
  unfold jm_at
  omega
def jm_cz (q : ClassFile.Cond) (x : Int32) : Bool := match q with
  | .eq => decide (x = 0)
  | .ne => decide (¬ x = 0)
  | .lt => decide (x < 0)
  | .ge => decide (0 ≤ x)
  | .gt => decide (0 < x)
  | .le => decide (x ≤ 0)
def jm_cc (q : ClassFile.Cond) (x y : Int32) : Bool := match q with
  | .eq => decide (x = y)
  | .ne => decide (¬ x = y)
  | .lt => decide (x < y)
  | .ge => decide (y ≤ x)
  | .gt => decide (y < x)
  | .le => decide (x ≤ y)
/-- where a jump goes, and the stack behind it -/
def jm_br (i : Instr) (len pc : Nat) (st : List Value) : Option (Nat × List Value) := match i, len, st with
  | .goto off, 3, r => if jm_ok pc off = true then some (jm_at pc off, r) else none
  | .ifCond q off, 3, .int x :: r => if jm_ok pc off = true then some (if jm_cz q x = true then jm_at pc off else pc + 3, r) else none
  | .if_icmp q off, 3, .int y :: .int x :: r => if jm_ok pc off = true then some (if jm_cc q x y = true then jm_at pc off else pc + 3, r) else none
  | .ifnull off, 3, .ref _ :: r => some (pc + 3, r)
  | .ifnull off, 3, .null :: r => if jm_ok pc off = true then some (jm_at pc off, r) else none
  | .ifnonnull off, 3, .ref _ :: r => if jm_ok pc off = true then some (jm_at pc off, r) else none
  | .ifnonnull off, 3, .null :: r => some (pc + 3, r)
  | .tableswitch dflt lo hi offs, _, .int x :: r =>
    if x.toInt < lo ∨ hi < x.toInt then (if jm_ok pc dflt = true then some (jm_at pc dflt, r) else none)
    else (match offs[(x.toInt - lo).toNat]? with
      | some off => if jm_ok pc off = true then some (jm_at pc off, r) else none
      | none => none)
  | .lookupswitch dflt ps, _, .int x :: r =>
    if (ps.toList.zip (ps.toList.drop 1)).all (fun (a, next) => a.1 < next.1) = true ∧ jm_ok pc (Op.lookupswitch.offset ps.toList dflt x.toInt) = true then some (jm_at pc (Op.lookupswitch.offset ps.toList dflt x.toInt), r) else none
  | _, _, _ => none
