section
/-! THE PURE MACHINE, part 1: words for cells, stores, locals; the instructions that touch no cell -/
/-- a cell: an array (number of its type, length, contents) or an object (number of its class, fields); a reference in it is the number of a cell (from jm_lim on: an array that nobody writes) -/
abbrev jm_c : Type := (Nat × vp_A) ⊕ (Nat × List Value)
abbrev jm_S : Type := Nat × (Nat → jm_c)
abbrev jm_L : Type := List (Nat × Value)
def jm_lim : Nat := 1000000
def jm_a (base : Nat) (sa : Nat → Nat) (k : Nat) : Nat := if k < jm_lim then base + k else sa k
def jm_v (base : Nat) (sa : Nat → Nat) (v : Value) : Value := match v with
  | .ref k => .ref (jm_a base sa k)
  | .int x => .int x
  | .long x => .long x
  | .float x => .float x
  | .double x => .double x
  | .null => .null
  | .retAddr x => .retAddr x
def jm_lv (base : Nat) (sa : Nat → Nat) (lv : jm_L) : List (Nat × Value) := lv.map fun q => (q.1, jm_v base sa q.2)
theorem jm_v_cat (base : Nat) (sa : Nat → Nat) (v : Value) : (jm_v base sa v).category = v.category := by cases v <;> rfl
theorem jm_cats (base : Nat) (sa : Nat → Nat) (st : List Value) : ((st.map (jm_v base sa)).map fun v => v.category).sum = (st.map fun v => v.category).sum := by
  rw [List.map_map]
  congr 1
  apply List.map_congr_left
  intro v _
  exact jm_v_cat base sa v
def jm_get (lv : jm_L) (i : Nat) : Option Value := match lv.find? (fun q => q.1 == i) with
  | some q => some q.2
  | none => none
theorem jm_get_mem {lv : jm_L} {i : Nat} {v : Value} (h : jm_get lv i = some v) : (i, v) ∈ lv := by
  unfold jm_get at h
  split at h
  · rename_i q hq
    cases h
    have h1 := List.find?_some hq
    have h2 := List.mem_of_find?_eq_some hq
    have h3 : q.1 = i := by simpa using h1
    rw [← h3]
    exact h2
  · cases h
theorem jm_get_has {base : Nat} {sa : Nat → Nat} {lv : jm_L} {i nL : Nat} {v : Value} {ls : Array Slot} (hl : lv_has ls nL (jm_lv base sa lv)) (h : jm_get lv i = some v) : ls[i]? = some (.val (jm_v base sa v)) :=
  hl.2.2 (i, jm_v base sa v) (List.mem_map.mpr ⟨(i, v), jm_get_mem h, rfl⟩)
def jm_set1 (lv : jm_L) (i : Nat) (v : Value) : jm_L := (i, v) :: lv.filter (fun q => !(q.1 == i) && !(q.1 + 1 == i && q.2.category == 2))
def jm_set2 (lv : jm_L) (i : Nat) (v : Value) : jm_L := (i, v) :: lv.filter (fun q => !(q.1 == i) && (!(q.1 == i + 1) && !(q.1 + 1 == i && q.2.category == 2)))
theorem jm_set1_eq (base : Nat) (sa : Nat → Nat) (lv : jm_L) (i : Nat) (v : Value) : (i, jm_v base sa v) :: (jm_lv base sa lv).filter (fun q => !(q.1 == i) && !(q.1 + 1 == i && q.2.category == 2)) = jm_lv base sa (jm_set1 lv i v) := by
  unfold jm_set1 jm_lv
  rw [List.map_cons, List.filter_map]
  congr 2
  apply List.filter_congr
  intro q _
  simp [jm_v_cat]
theorem jm_set2_eq (base : Nat) (sa : Nat → Nat) (lv : jm_L) (i : Nat) (v : Value) : (i, jm_v base sa v) :: (jm_lv base sa lv).filter (fun q => !(q.1 == i) && (!(q.1 == i + 1) && !(q.1 + 1 == i && q.2.category == 2))) = jm_lv base sa (jm_set2 lv i v) := by
  unfold jm_set2 jm_lv
  rw [List.map_cons, List.filter_map]
  congr 2
  apply List.filter_congr
  intro q _
  simp [jm_v_cat]
/-- a constant -/
def jm_k (i : Instr) (len : Nat) : Option Value := match i, len with
  | .iconst n, 1 => some (.int (Int32.ofInt n))
  | .bipush n, 2 => some (.int (Int8.ofInt n).toInt32)
  | .sipush n, 3 => some (.int (Int16.ofInt n).toInt32)
  | .lconst n, 1 => some (.long (Int64.ofNat (n : Nat)))
  | .aconst_null, 1 => some .null
  | _, _ => none
/-- a load: the local's number, the kind (0 int, 1 long, 2 reference) -/
def jm_ld (i : Instr) (len : Nat) : Option (Nat × Nat) := match i, len with
  | .iload n, 2 => some (n, 0)
  | .iload_n n, 1 => some (n.val, 0)
  | .lload n, 2 => some (n, 1)
  | .lload_n n, 1 => some (n.val, 1)
  | .aload n, 2 => some (n, 2)
  | .aload_n n, 1 => some (n.val, 2)
  | _, _ => none
def jm_isk (k : Nat) (v : Value) : Bool := match k, v with
  | 0, .int _ => true
  | 1, .long _ => true
  | 2, .ref _ => true
  | _, _ => false
def jm_sr (i : Instr) (len : Nat) : Option (Nat × Nat) := match i, len with
  | .istore n, 2 => some (n, 0)
  | .istore_n n, 1 => some (n.val, 0)
  | .lstore n, 2 => some (n, 1)
  | .lstore_n n, 1 => some (n.val, 1)
  | .astore n, 2 => some (n, 2)
  | .astore_n n, 1 => some (n.val, 2)
  | _, _ => none
/-- two ints to one -/
def jm_ib (i : Instr) (x y : Int32) : Option Int32 := match i with
  | .iadd => some (x + y)
  | .isub => some (x - y)
  | .imul => some (x * y)
  | .iand => some (x &&& y)
  | .ior => some (x ||| y)
  | .ixor => some (x ^^^ y)
  | .ishl => some (x <<< (y &&& 31))
  | .ishr => some (x >>> (y &&& 31))
  | .iushr => some (x.toUInt32 >>> (y.toUInt32 &&& Int32.toUInt32 31)).toInt32
  | .idiv => if y = 0 then none else some (x / y)
  | .irem => if y = 0 then none else some (x - x / y * y)
  | _ => none
/-- two longs to one -/
def jm_lb (i : Instr) (x y : Int64) : Option Int64 := match i with
  | .ladd => some (x + y)
  | .lsub => some (x - y)
  | .lmul => some (x * y)
  | .land => some (x &&& y)
  | .lor => some (x ||| y)
  | .lxor => some (x ^^^ y)
  | .ldiv => if y = 0 then none else some (x / y)
  | .lrem => if y = 0 then none else some (x - x / y * y)
  | _ => none
/-- a long and an int to a long -/
def jm_ls (i : Instr) (x : Int64) (y : Int32) : Option Int64 := match i with
  | .lshl => some (x <<< (y.toInt64 &&& 63))
  | .lshr => some (x >>> (y.toInt64 &&& 63))
  | .lushr => some (x.toUInt64 >>> (y.toInt64.toUInt64 &&& Int64.toUInt64 63)).toInt64
  | _ => none
/-- one value to one -/
def jm_un (i : Instr) (v : Value) : Option Value := match i, v with
  | .ineg, .int x => some (.int (-x))
  | .lneg, .long x => some (.long (-x))
  | .i2l, .int x => some (.long x.toInt64)
  | .l2i, .long x => some (.int x.toInt32)
  | .i2b, .int x => some (.int x.toInt8.toInt32)
  | .i2s, .int x => some (.int x.toInt16.toInt32)
  | .i2c, .int x => some (.int (x.toUInt32 % 65536).toInt32)
  | _, _ => none
/-- all that takes its operands from the stack and lays its result there, length 1 -/
def jm_al (i : Instr) (st : List Value) : Option (List Value) := match st with
  | .int y :: .int x :: r => (match jm_ib i x y with
    | some z => some (.int z :: r)
    | none => match jm_un i (.int y) with
      | some z => some (z :: .int x :: r)
      | none => none)
  | .long y :: .long x :: r => (match i with
    | .lcmp => some (.int (lg_cmp x y) :: r)
    | _ => match jm_lb i x y with
      | some z => some (.long z :: r)
      | none => match jm_un i (.long y) with
        | some z => some (z :: .long x :: r)
        | none => none)
  | .int y :: .long x :: r => (match jm_ls i x y with
    | some z => some (.long z :: r)
    | none => match jm_un i (.int y) with
      | some z => some (z :: .long x :: r)
      | none => none)
  | v :: r => (match jm_un i v with
    | some z => some (z :: r)
    | none => none)
  | [] => none
/-- the stack's own instructions, length 1 -/
def jm_sk (i : Instr) (st : List Value) : Option (List Value) := match i, st with
  | .dup, a :: r => if a.category = 1 then some (a :: a :: r) else none
  | .pop, a :: r => if a.category = 1 then some r else none
  | .dup_x1, a :: b :: r => if a.category = 1 ∧ b.category = 1 then some (a :: b :: a :: r) else none
  | .dup_x2, a :: b :: d :: r => if a.category = 1 ∧ b.category = 1 ∧ d.category = 1 then some (a :: b :: d :: a :: r) else none
  | .dup2, a :: r => if a.category = 2 then some (a :: a :: r) else (match r with
    | b :: r' => if a.category = 1 ∧ b.category = 1 then some (a :: b :: a :: b :: r') else none
    | [] => none)
  | .pop2, a :: r => if a.category = 2 then some r else none
  | _, _ => none
def jm_at (pc : Nat) (off : Int) : Nat := ((pc : Int) + off).toNat
def jm_ok (pc : Nat) (off : Int) : Bool := decide (0 ≤ (pc : Int) + off)
theorem jm_at_eq {pc : Nat} {off : Int} (h : jm_ok pc off = true) : (pc : Int) + off = (jm_at pc off : Int) := by
  have h1 : 0 ≤ (pc : Int) + off := of_decide_eq_true h
  unfold jm_at
  omega
def jm_cz (q : ClassFile.Cond) (x : Int32) : Bool := match q with
  | .eq => decide (x = 0)
  | .ne => decide (¬ x = 0)
  | .lt => decide (x < 0)
  | .ge => decide (0 ≤ x)
  | .gt => decide (0 < x)
  | .le => decide (x ≤ 0)
def jm_cc (q : ClassFile.Cond) (x y : Int32) : Bool := match q with
  | .eq => decide (x = y)
  | .ne => decide (¬ x = y)
  | .lt => decide (x < y)
  | .ge => decide (y ≤ x)
  | .gt => decide (y < x)
  | .le => decide (x ≤ y)
/-- where a jump goes, and the stack behind it -/
def jm_br (i : Instr) (len pc : Nat) (st : List Value) : Option (Nat × List Value) := match i, len, st with
  | .goto off, 3, r => if jm_ok pc off = true then some (jm_at pc off, r) else none
  | .ifCond q off, 3, .int x :: r => if jm_ok pc off = true then some (if jm_cz q x = true then jm_at pc off else pc + 3, r) else none
  | .if_icmp q off, 3, .int y :: .int x :: r => if jm_ok pc off = true then some (if jm_cc q x y = true then jm_at pc off else pc + 3, r) else none
  | .ifnull off, 3, .ref _ :: r => some (pc + 3, r)
  | .ifnull off, 3, .null :: r => if jm_ok pc off = true then some (jm_at pc off, r) else none
  | .ifnonnull off, 3, .ref _ :: r => if jm_ok pc off = true then some (jm_at pc off, r) else none
  | .ifnonnull off, 3, .null :: r => some (pc + 3, r)
  | .tableswitch dflt lo hi offs, _, .int x :: r =>
    if x.toInt < lo ∨ hi < x.toInt then (if jm_ok pc dflt = true then some (jm_at pc dflt, r) else none)
    else (match offs[(x.toInt - lo).toNat]? with
      | some off => if jm_ok pc off = true then some (jm_at pc off, r) else none
      | none => none)
  | .lookupswitch dflt ps, _, .int x :: r =>
    if (ps.toList.zip (ps.toList.drop 1)).all (fun (a, next) => a.1 < next.1) = true ∧ jm_ok pc (Op.lookupswitch.offset ps.toList dflt x.toInt) = true then some (jm_at pc (Op.lookupswitch.offset ps.toList dflt x.toInt), r) else none
  | _, _, _ => none
end
section
/-! THE PURE MACHINE, part 2: each of part 1's instructions, over the machine itself -/
section JM2
variable {p : Program} {l : Launch} {e : Env} {R : Room} {s : State} {m : MethodId} {args : Array Value} {below : List Frame} {meth : Method} {c : Code} {H : Heap} {locs : List Loc} {cells slots : Nat} {Q : State → Prop}
variable {cc : ByteArray} {pc len nL base : Nat} {sa : Nat → Nat} {ls : Array Slot} {lv : jm_L} {st st' : List Value} {rest : List Value} {i : Instr}
theorem jm_k_ok {v : Value} (hx : p.tables.exec = Jvm.exec) (hb : c.code = cc) (hd : decode cc pc = .ok (i, len)) (h : jm_k i len = some v)
    (k : W p l e R s m args below meth c H locs cells slots Q (F0 m (pc + len) ls (jm_v base sa v :: rest))) : W p l e R s m args below meth c H locs cells slots Q (F0 m pc ls rest) := by
  unfold jm_k at h
  split at h
  · cases h; exact lv_iconst hx hb hd rfl k
  · cases h; exact lv_bipush hx hb hd rfl k
  · cases h; exact lv_sipush hx hb hd rfl k
  · cases h; exact lv_lconst hx hb hd rfl k
  · cases h; exact lv_null hx hb hd k
  · cases h
theorem jm_ld_ok {v : Value} {n q : Nat} (hx : p.tables.exec = Jvm.exec) (hb : c.code = cc) (hd : decode cc pc = .ok (i, len)) (h : jm_ld i len = some (n, q)) (hl : lv_has ls nL (jm_lv base sa lv)) (hg : jm_get lv n = some v) (hq : jm_isk q v = true)
    (k : W p l e R s m args below meth c H locs cells slots Q (F0 m (pc + len) ls (jm_v base sa v :: rest))) : W p l e R s m args below meth c H locs cells slots Q (F0 m pc ls rest) := by
  have ha := jm_get_has hl hg
  unfold jm_isk at hq
  unfold jm_ld at h
  split at h
  all_goals first | cases h | skip
  all_goals (split at hq)
  all_goals first | (cases hq; done) | skip
  all_goals first | omega | skip
  all_goals first | exact lv_iload hx hb hd ha k | exact lv_iload_n hx hb hd rfl ha k | exact lv_lload hx hb hd ha k | exact lv_lload_n hx hb hd rfl ha k | exact lv_aload hx hb hd ha k | exact lv_aload_n hx hb hd rfl ha k
theorem jm_sr_ok {v : Value} {n q : Nat} (hx : p.tables.exec = Jvm.exec) (hb : c.code = cc) (hd : decode cc pc = .ok (i, len)) (h : jm_sr i len = some (n, q)) (hl : lv_has ls nL (jm_lv base sa lv)) (hq : jm_isk q v = true) (hn : n + 1 < nL ∨ (n < nL ∧ v.category = 1))
    (kk : ∀ ls' : Array Slot, lv_has ls' nL (jm_lv base sa (if q = 1 then jm_set2 lv n v else jm_set1 lv n v)) → W p l e R s m args below meth c H locs cells slots Q (F0 m (pc + len) ls' rest)) : W p l e R s m args below meth c H locs cells slots Q (F0 m pc ls (jm_v base sa v :: rest)) := by
  have e1 := jm_set1_eq base sa lv n v
  have e2 := jm_set2_eq base sa lv n v
  have h1 : n < nL := by omega
  unfold jm_isk at hq
  unfold jm_sr at h
  split at h
  all_goals first | cases h | skip
  all_goals (split at hq)
  all_goals first | (cases hq; done) | skip
  all_goals first | omega | skip
  all_goals first
    | exact lv_istore hx hb hd hl h1 e1 kk
    | exact lv_istore_n hx hb hd rfl hl h1 e1 kk
    | exact lv_astore hx hb hd hl h1 e1 kk
    | exact lv_astore_n hx hb hd rfl hl h1 e1 kk
    | exact lv_lstore hx hb hd hl (by simp [Value.category] at hn; omega) e2 kk
    | exact lv_lstore_n hx hb hd rfl hl (by simp [Value.category] at hn; omega) e2 kk
theorem jm_inc_ok {n : Nat} {q : Int} {x : Int32} (hx : p.tables.exec = Jvm.exec) (hb : c.code = cc) (hd : decode cc pc = .ok (.iinc n q, 3)) (hl : lv_has ls nL (jm_lv base sa lv)) (hg : jm_get lv n = some (.int x)) (hn : n < nL)
    (kk : ∀ ls' : Array Slot, lv_has ls' nL (jm_lv base sa (jm_set1 lv n (.int (x + Int32.ofInt q)))) → W p l e R s m args below meth c H locs cells slots Q (F0 m (pc + 3) ls' rest)) : W p l e R s m args below meth c H locs cells slots Q (F0 m pc ls rest) := by
  have hm : (n, Value.int x) ∈ jm_lv base sa lv := List.mem_map.mpr ⟨(n, .int x), jm_get_mem hg, rfl⟩
  obtain ⟨j, hj⟩ := List.getElem?_of_mem hm
  exact lv_iinc hx hb hd hl hj rfl hn (jm_set1_eq base sa lv n (.int (x + Int32.ofInt q))) kk
theorem jm_ib_ok {x y z : Int32} (hx : p.tables.exec = Jvm.exec) (hb : c.code = cc) (hd : decode cc pc = .ok (i, 1)) (h : jm_ib i x y = some z)
    (k : W p l e R s m args below meth c H locs cells slots Q (F0 m (pc + 1) ls (.int z :: rest))) : W p l e R s m args below meth c H locs cells slots Q (F0 m pc ls (.int y :: .int x :: rest)) := by
  unfold jm_ib at h
  split at h
  · cases h; exact lv_iadd hx hb hd k
  · cases h; exact lv_isub hx hb hd k
  · cases h; exact lv_imul hx hb hd k
  · cases h; exact lv_iand hx hb hd k
  · cases h; exact lv_ior hx hb hd k
  · cases h; exact lv_ixor hx hb hd k
  · cases h; exact lv_ishl hx hb hd k
  · cases h; exact lv_ishr hx hb hd k
  · cases h; exact lv_iushr hx hb hd rfl k
  · split at h
    · cases h
    · rename_i hy; cases h; exact lv_idiv hx hb hd hy k
  · split at h
    · cases h
    · rename_i hy; cases h; exact lv_irem hx hb hd hy k
  · cases h
theorem jm_lb_ok {x y z : Int64} (hx : p.tables.exec = Jvm.exec) (hb : c.code = cc) (hd : decode cc pc = .ok (i, 1)) (h : jm_lb i x y = some z)
    (k : W p l e R s m args below meth c H locs cells slots Q (F0 m (pc + 1) ls (.long z :: rest))) : W p l e R s m args below meth c H locs cells slots Q (F0 m pc ls (.long y :: .long x :: rest)) := by
  unfold jm_lb at h
  split at h
  · cases h; exact lv_ladd hx hb hd k
  · cases h; exact lv_lsub hx hb hd k
  · cases h; exact lv_lmul hx hb hd k
  · cases h; exact lv_land hx hb hd k
  · cases h; exact lv_lor hx hb hd k
  · cases h; exact lv_lxor hx hb hd k
  · split at h
    · cases h
    · rename_i hy; cases h; exact lv_ldiv hx hb hd hy k
  · split at h
    · cases h
    · rename_i hy; cases h; exact lv_lrem hx hb hd hy k
  · cases h
theorem jm_ls_ok {x z : Int64} {y : Int32} (hx : p.tables.exec = Jvm.exec) (hb : c.code = cc) (hd : decode cc pc = .ok (i, 1)) (h : jm_ls i x y = some z)
    (k : W p l e R s m args below meth c H locs cells slots Q (F0 m (pc + 1) ls (.long z :: rest))) : W p l e R s m args below meth c H locs cells slots Q (F0 m pc ls (.int y :: .long x :: rest)) := by
  unfold jm_ls at h
  split at h
  · cases h; exact lv_lshl hx hb hd rfl k
  · cases h; exact lv_lshr hx hb hd rfl k
  · cases h; exact lv_lushr hx hb hd rfl k
  · cases h
theorem jm_un_ok {v z : Value} (hx : p.tables.exec = Jvm.exec) (hb : c.code = cc) (hd : decode cc pc = .ok (i, 1)) (h : jm_un i v = some z)
    (k : W p l e R s m args below meth c H locs cells slots Q (F0 m (pc + 1) ls (jm_v base sa z :: rest))) : W p l e R s m args below meth c H locs cells slots Q (F0 m pc ls (jm_v base sa v :: rest)) := by
  unfold jm_un at h
  split at h
  · cases h; exact lv_ineg hx hb hd k
  · cases h; exact lv_lneg hx hb hd k
  · cases h; exact lv_i2l hx hb hd rfl k
  · cases h; exact lv_l2i hx hb hd rfl k
  · cases h; exact lv_i2b hx hb hd rfl k
  · cases h; exact lv_i2s hx hb hd rfl k
  · cases h; exact lv_i2c hx hb hd rfl k
  · cases h
theorem jm_al_ok (hx : p.tables.exec = Jvm.exec) (hb : c.code = cc) (hd : decode cc pc = .ok (i, 1)) (h : jm_al i st = some st')
    (k : W p l e R s m args below meth c H locs cells slots Q (F0 m (pc + 1) ls (st'.map (jm_v base sa)))) : W p l e R s m args below meth c H locs cells slots Q (F0 m pc ls (st.map (jm_v base sa))) := by
  unfold jm_al at h
  split at h
  · split at h
    · rename_i y x r z hz; cases h; exact jm_ib_ok hx hb hd hz k
    · split at h
      · rename_i z hz; cases h; exact jm_un_ok (base := base) (sa := sa) hx hb hd hz k
      · cases h
  · split at h
    · cases h; exact W.lcmp hx hb hd k
    · split at h
      · rename_i z hz; cases h; exact jm_lb_ok hx hb hd hz k
      · split at h
        · rename_i z hz; cases h; exact jm_un_ok (base := base) (sa := sa) hx hb hd hz k
        · cases h
  · split at h
    · rename_i y x r z hz; cases h; exact jm_ls_ok hx hb hd hz k
    · split at h
      · rename_i z hz; cases h; exact jm_un_ok (base := base) (sa := sa) hx hb hd hz k
      · cases h
  · split at h
    · rename_i z hz; cases h; exact jm_un_ok (base := base) (sa := sa) hx hb hd hz k
    · cases h
  · cases h
theorem jm_sk_ok (hx : p.tables.exec = Jvm.exec) (hb : c.code = cc) (hd : decode cc pc = .ok (i, 1)) (h : jm_sk i st = some st')
    (k : W p l e R s m args below meth c H locs cells slots Q (F0 m (pc + 1) ls (st'.map (jm_v base sa)))) : W p l e R s m args below meth c H locs cells slots Q (F0 m pc ls (st.map (jm_v base sa))) := by
  unfold jm_sk at h
  split at h
  · split at h
    · rename_i q; cases h; exact lv_dup hx hb hd (by rw [jm_v_cat]; exact q) k
    · cases h
  · split at h
    · rename_i q; cases h; exact lv_pop hx hb hd (by rw [jm_v_cat]; exact q) k
    · cases h
  · split at h
    · rename_i q; cases h; exact lv_dup_x1 hx hb hd (by rw [jm_v_cat]; exact q.1) (by rw [jm_v_cat]; exact q.2) k
    · cases h
  · split at h
    · rename_i q; cases h; exact lv_dup_x2 hx hb hd (by rw [jm_v_cat]; exact q.1) (by rw [jm_v_cat]; exact q.2.1) (by rw [jm_v_cat]; exact q.2.2) k
    · cases h
  · split at h
    · rename_i q; cases h; exact lv_dup2_2 hx hb hd (by rw [jm_v_cat]; exact q) k
    · split at h
      · split at h
        · rename_i q; cases h; exact lv_dup2_11 hx hb hd (by rw [jm_v_cat]; exact q.1) (by rw [jm_v_cat]; exact q.2) k
        · cases h
      · cases h
  · split at h
    · rename_i q; cases h; exact lv_pop2_2 hx hb hd (by rw [jm_v_cat]; exact q) k
    · cases h
  · cases h
theorem jm_cz_ok {q : ClassFile.Cond} {off : Int} {x : Int32} (hx : p.tables.exec = Jvm.exec) (hb : c.code = cc) (hd : decode cc pc = .ok (.ifCond q off, 3)) (ho : jm_ok pc off = true)
    (k : W p l e R s m args below meth c H locs cells slots Q (F0 m (if jm_cz q x = true then jm_at pc off else pc + 3) ls rest)) : W p l e R s m args below meth c H locs cells slots Q (F0 m pc ls (.int x :: rest)) := by
  have ht := jm_at_eq ho
  cases q
  · exact lv_if_eq hx hb hd ht (fun z => by rw [if_pos (by simp [jm_cz, z])] at k; exact k) (fun z => by rw [if_neg (by simp [jm_cz, z])] at k; exact k)
  · exact lv_if_ne hx hb hd ht (fun z => by rw [if_pos (by simp [jm_cz, z])] at k; exact k) (fun z => by rw [if_neg (by simp [jm_cz, z])] at k; exact k)
  · exact lv_if_lt hx hb hd ht (fun z => by rw [if_pos (by simp [jm_cz, z])] at k; exact k) (fun z => by rw [if_neg (by simp only [jm_cz, decide_eq_true_eq]; exact z)] at k; exact k)
  · exact lv_if_ge hx hb hd ht (fun z => by rw [if_pos (by simp only [jm_cz, decide_eq_true_eq]; exact z)] at k; exact k) (fun z => by rw [if_neg (by simp only [jm_cz, decide_eq_true_eq]; exact z)] at k; exact k)
  · exact lv_if_gt hx hb hd ht (fun z => by rw [if_pos (by simp only [jm_cz, decide_eq_true_eq]; exact z)] at k; exact k) (fun z => by rw [if_neg (by simp only [jm_cz, decide_eq_true_eq]; exact z)] at k; exact k)
  · exact lv_if_le hx hb hd ht (fun z => by rw [if_pos (by simp only [jm_cz, decide_eq_true_eq]; exact z)] at k; exact k) (fun z => by rw [if_neg (by simp only [jm_cz, decide_eq_true_eq]; exact z)] at k; exact k)
theorem jm_cc_ok {q : ClassFile.Cond} {off : Int} {x y : Int32} (hx : p.tables.exec = Jvm.exec) (hb : c.code = cc) (hd : decode cc pc = .ok (.if_icmp q off, 3)) (ho : jm_ok pc off = true)
    (k : W p l e R s m args below meth c H locs cells slots Q (F0 m (if jm_cc q x y = true then jm_at pc off else pc + 3) ls rest)) : W p l e R s m args below meth c H locs cells slots Q (F0 m pc ls (.int y :: .int x :: rest)) := by
  have ht := jm_at_eq ho
  cases q
  · exact lv_icmp_eq hx hb hd ht (fun z => by rw [if_pos (by simp only [jm_cc, decide_eq_true_eq]; exact z)] at k; exact k) (fun z => by rw [if_neg (by simp only [jm_cc, decide_eq_true_eq]; exact z)] at k; exact k)
  · exact lv_icmp_ne hx hb hd ht (fun z => by rw [if_pos (by simp only [jm_cc, decide_eq_true_eq]; exact z)] at k; exact k) (fun z => by rw [if_neg (by simp only [jm_cc, decide_eq_true_eq]; exact fun w => w z)] at k; exact k)
  · exact lv_icmp_lt hx hb hd ht (fun z => by rw [if_pos (by simp only [jm_cc, decide_eq_true_eq]; exact z)] at k; exact k) (fun z => by rw [if_neg (by simp only [jm_cc, decide_eq_true_eq]; exact z)] at k; exact k)
  · exact lv_icmp_ge hx hb hd ht (fun z => by rw [if_pos (by simp only [jm_cc, decide_eq_true_eq]; exact z)] at k; exact k) (fun z => by rw [if_neg (by simp only [jm_cc, decide_eq_true_eq]; exact z)] at k; exact k)
  · exact lv_icmp_gt hx hb hd ht (fun z => by rw [if_pos (by simp only [jm_cc, decide_eq_true_eq]; exact z)] at k; exact k) (fun z => by rw [if_neg (by simp only [jm_cc, decide_eq_true_eq]; exact z)] at k; exact k)
  · exact lv_icmp_le hx hb hd ht (fun z => by rw [if_pos (by simp only [jm_cc, decide_eq_true_eq]; exact z)] at k; exact k) (fun z => by rw [if_neg (by simp only [jm_cc, decide_eq_true_eq]; exact z)] at k; exact k)
theorem jm_br_ok {pc' : Nat} (hx : p.tables.exec = Jvm.exec) (hb : c.code = cc) (hd : decode cc pc = .ok (i, len)) (h : jm_br i len pc st = some (pc', st'))
    (k : W p l e R s m args below meth c H locs cells slots Q (F0 m pc' ls (st'.map (jm_v base sa)))) : W p l e R s m args below meth c H locs cells slots Q (F0 m pc ls (st.map (jm_v base sa))) := by
  unfold jm_br at h
  split at h
  · split at h
    · rename_i q; cases h; exact lv_goto hx hb hd (jm_at_eq q) k
    · cases h
  · split at h
    · rename_i q; cases h; exact jm_cz_ok hx hb hd q k
    · cases h
  · split at h
    · rename_i q; cases h; exact jm_cc_ok hx hb hd q k
    · cases h
  · cases h; exact lv_ifnull hx hb hd k
  · split at h
    · rename_i q; cases h; exact lv_ifnullN hx hb hd (jm_at_eq q) k
    · cases h
  · split at h
    · rename_i q; cases h; exact lv_ifnonnull hx hb hd (jm_at_eq q) k
    · cases h
  · cases h; exact lv_ifnonnullN hx hb hd k
  · split at h
    · rename_i q
      split at h
      · rename_i q2; cases h; exact lv_tableOut hx hb hd q (jm_at_eq q2) k
      · cases h
    · rename_i q
      split at h
      · rename_i off ho
        split at h
        · rename_i q2; cases h; exact lv_tableIn hx hb hd (fun z => q (Or.inl z)) (fun z => q (Or.inr z)) ho (jm_at_eq q2) k
        · cases h
      · cases h
  · split at h
    · rename_i q; cases h; exact lv_lookup hx hb hd q.1 rfl (jm_at_eq q.2) k
    · cases h
  · cases h
end JM2
end
section
/-! THE PURE MACHINE, part 3: cells -/
def jm_E (base : Nat) (sa : Nat → Nat) (dA : Nat → ClassId) (x : jm_c) : va_E := match x with
  | .inl (t, n, .inr (.inr (.inr (.inr g)))) => .inl (dA t, n, .inr (.inr (.inr (.inr (fun j => (g j).map (jm_a base sa))))))
  | .inl (t, a) => .inl (dA t, a)
  | .inr (ci, fs) => .inr (ci, fs.map (jm_v base sa))
/-- the heap holds the store S, from the address base on, and ends there -/
def jm_H (D : va_G) (cl : List vw_C) (dA : Nat → ClassId) (base : Nat) (sa : Nat → Nat) (S : jm_S) (H : Heap) : Prop :=
  H.size = base + S.1 ∧ ∀ k, k < S.1 → va_at D cl (base + k, jm_E base sa dA (S.2 k)) H
def jm_up (S : jm_S) (k : Nat) (x : jm_c) : jm_S := (S.1, va_up S.2 k x)
def jm_add (S : jm_S) (x : jm_c) : jm_S := (S.1 + 1, va_up S.2 S.1 x)
theorem jm_H.up {D : va_G} {cl : List vw_C} {dA : Nat → ClassId} {base : Nat} {sa : Nat → Nat} {S : jm_S} {H H1 : Heap} {k : Nat} {x : jm_c} (h : jm_H D cl dA base sa S H) (z : H1.size = H.size) (oq : ∀ q : Nat, q ≠ base + k → H1[q]? = H[q]?) (hx : va_at D cl (base + k, jm_E base sa dA x) H1) : jm_H D cl dA base sa (jm_up S k x) H1 := by
  refine ⟨by rw [z]; exact h.1, fun j hj => ?_⟩
  by_cases hjk : j = k
  · subst hjk
    show va_at D cl (base + j, jm_E base sa dA (va_up S.2 j x j)) H1
    rw [va_up_self]
    exact hx
  · show va_at D cl (base + j, jm_E base sa dA (va_up S.2 k x j)) H1
    rw [va_up_ne _ _ hjk]
    exact (h.2 j hj).kept (oq _ (by show base + j ≠ base + k; omega))
theorem jm_H.add {D : va_G} {cl : List vw_C} {dA : Nat → ClassId} {base : Nat} {sa : Nat → Nat} {S : jm_S} {H H1 : Heap} {x : jm_c} (h : jm_H D cl dA base sa S H) (z : H1.size = base + S.1 + 1) (oq : ∀ q : Nat, q < base + S.1 → H1[q]? = H[q]?) (hx : va_at D cl (base + S.1, jm_E base sa dA x) H1) : jm_H D cl dA base sa (jm_add S x) H1 := by
  refine ⟨by rw [z]; rfl, fun j hj => ?_⟩
  have hj' : j < S.1 + 1 := hj
  by_cases hjk : j = S.1
  · subst hjk
    show va_at D cl (base + S.1, jm_E base sa dA (va_up S.2 S.1 x S.1)) H1
    rw [va_up_self]
    exact hx
  · show va_at D cl (base + j, jm_E base sa dA (va_up S.2 S.1 x j)) H1
    rw [va_up_ne _ _ hjk]
    exact (h.2 j (by omega)).kept (oq _ (by show base + j < base + S.1; omega))
theorem jm_one {D : va_G} {cl : List vw_C} {q : Nat × va_E} {H : Heap} (h : va_at D cl q H) : va_P D cl [q] H := by
  intro k x hx
  have hk : k < 1 := (List.getElem?_eq_some_iff.mp hx).1
  rw [show k = 0 by omega] at hx
  cases hx
  exact h
/-- the types of arrays, by number -/
def jm_tys (dA : Nat → ClassId) : List (ClassId × FieldType) := [(dA 0, .int), (dA 1, .long), (dA 2, .boolean)]
/-- may the value be laid into a field of the type -/
def jm_fit (ty : FieldType) (v : Value) : Bool := match ty, v with
  | .int, .int _ => true
  | .long, .long _ => true
  | .boolean, .int x => x == 0 || x == 1
  | .object _, .ref _ => true
  | .array _, .ref _ => true
  | .object _, .null => true
  | .array _, .null => true
  | _, _ => false
theorem jm_fit_ok {ty : FieldType} {v : Value} (base : Nat) (sa : Nat → Nat) (h : jm_fit ty v = true) : narrow ty (jm_v base sa v) = jm_v base sa v ∧ fits ty (jm_v base sa v) = true := by
  unfold jm_fit at h
  split at h
  · exact ⟨rfl, rfl⟩
  · exact ⟨rfl, rfl⟩
  · rename_i x
    rcases (by simpa using h : x = 0 ∨ x = 1) with rfl | rfl <;> exact ⟨rfl, rfl⟩
  · exact ⟨rfl, rfl⟩
  · exact ⟨rfl, rfl⟩
  · exact ⟨rfl, rfl⟩
  · exact ⟨rfl, rfl⟩
  · cases h
section JM3
variable {p : Program} {l : Launch} {e : Env} {R : Room} {s : State} {m : MethodId} {args : Array Value} {below : List Frame} {meth : Method} {c : Code} {H H0 : Heap} {locs : List Loc} {cells slots : Nat} {Q : State → Prop}
variable {cc : ByteArray} {pc base : Nat} {sa : Nat → Nat} {dA : Nat → ClassId} {D : va_G} {cl : List vw_C} {tys : List (ClassId × FieldType)} {ls : Array Slot} {rest : List Value} {S : jm_S} {k : Nat}
theorem jm_a_lo (hk : k < S.1) (hlim : S.1 ≤ jm_lim) : jm_a base sa k = base + k := if_pos (by omega)
theorem jm_getf_ok (hx : p.tables.exec = Jvm.exec) (hb : c.code = cc) {own C host : String} {T : u_T} {N ci index : Nat} {Ts : List Cond} (hts : ∀ w ∈ Ts, w.before args s = true) (hin : ∀ w ∈ u_ws C T N, w ∈ Ts) (hown : s.vm.findClass own = some m.cls) (hK : va_K D cl tys s) (hH : jm_H D cl dA base sa S H) (hlim : S.1 ≤ jm_lim) (hk : k < S.1) {fs : List Value} (he : S.2 k = .inr (ci, fs)) (hc : cl[ci]? = some (C, T, N)) (j : Nat) (hj : j < N)
    (hlink : (Cond.fieldLink own index (T j).1 (T j).2.1 (T j).2.2.1) ∈ Ts ∨ (Cond.fieldLinkNest own index (T j).1 (T j).2.1 (T j).2.2.1 host) ∈ Ts) {v : Value} (hv : fs[j]? = some v) (hdg : decode cc pc = .ok (.getfield index, 3))
    (kk : W p l e R s m args below meth c H locs cells slots Q (F0 m (pc + 3) ls (jm_v base sa v :: rest))) : W p l e R s m args below meth c H locs cells slots Q (F0 m pc ls (jm_v base sa (.ref k) :: rest)) := by
  show W p l e R s m args below meth c H locs cells slots Q (F0 m pc ls (.ref (jm_a base sa k) :: rest))
  rw [jm_a_lo hk hlim]
  have h1 := hH.2 k hk
  rw [he] at h1
  have hv' : (fs.map (jm_v base sa))[j]? = some (jm_v base sa v) := by rw [List.getElem?_map, hv]; rfl
  rcases hlink with h | h
  · exact va_get hx hb hts hin hown hK (jm_one h1) 0 rfl hc j hj (hts _ h) (fun _ h9 => h9) hv' hdg kk
  · exact va_getN hx hb hts hin hown hK (jm_one h1) 0 rfl hc j hj (hts _ h) (fun _ h9 => h9) hv' hdg kk
theorem jm_putf_ok (hx : p.tables.exec = Jvm.exec) (hb : c.code = cc) {own C host : String} {T : u_T} {N ci index : Nat} {Ts : List Cond} (hts : ∀ w ∈ Ts, w.before args s = true) (hin : ∀ w ∈ u_ws C T N, w ∈ Ts) (ty0 : Nat → FieldType) (hty : ∀ k, k < N → parseFieldDescriptor (T k).2.2.1 = some (ty0 k)) (hnm : ∀ a, a < N → ∀ b, b < N → a ≠ b → (T a).2.1 ≠ (T b).2.1)
    (hown : s.vm.findClass own = some m.cls) (hK : va_K D cl tys s) (hH : jm_H D cl dA base sa S H) (hS : va_S (fun q => base ≤ q) H0 H locs) (hlim : S.1 ≤ jm_lim) (hk : k < S.1) {fs : List Value} (he : S.2 k = .inr (ci, fs)) (hc : cl[ci]? = some (C, T, N)) (j : Nat) (hj : j < N)
    (hlink : ((Cond.fieldLink own index (T j).1 (T j).2.1 (T j).2.2.1) ∈ Ts ∧ ((T j).2.2.2 = true → meth.name = "<init>" ∧ own = (T j).1)) ∨ ((Cond.fieldLinkNest own index (T j).1 (T j).2.1 (T j).2.2.1 host) ∈ Ts ∧ (T j).2.2.2 = false)) {v : Value} (hf : jm_fit (ty0 j) v = true) (hl : j < fs.length) (hdg : decode cc pc = .ok (.putfield index, 3))
    (kk : ∀ (H1 : Heap) (locs1 : List Loc), jm_H D cl dA base sa (jm_up S k (.inr (ci, fs.set j v))) H1 → va_S (fun q => base ≤ q) H0 H1 locs1 → W p l e R s m args below meth c H1 locs1 cells slots Q (F0 m (pc + 3) ls rest)) : W p l e R s m args below meth c H locs cells slots Q (F0 m pc ls (jm_v base sa v :: jm_v base sa (.ref k) :: rest)) := by
  show W p l e R s m args below meth c H locs cells slots Q (F0 m pc ls (jm_v base sa v :: .ref (jm_a base sa k) :: rest))
  rw [jm_a_lo hk hlim]
  have h1 := hH.2 k hk
  rw [he] at h1
  obtain ⟨hn, hfit⟩ := jm_fit_ok base sa hf
  have hd := hty j hj
  have hap := va_apart (own := own) hts hin ty0 hty hnm hK hc
  obtain ⟨r, h1, cell, q1, q2, q3, q4⟩ := h1
  have hr : r = (C, T, N) := Option.some.inj (h1.symm.trans hc)
  subst hr
  obtain ⟨hSl, hfc, kC, hkC, hkind⟩ := hK.1 ci _ hc
  obtain ⟨cf, kf, fi, f, hi, hsl⟩ := hSl j hj
  have hlays := u_lays hts hin hj
  have hst := (u_facts hfc hkC hlays hi).1
  have hl' : j < (fs.map (jm_v base sa)).length := by rw [List.length_map]; exact hl
  have fin : ∀ H' : Heap, H'[base + k]? = some (cell.setSlot f.slot (jm_v base sa v)) → H'.size = H.size → (∀ q, q ≠ base + k → H'[q]? = H[q]?) → W p l e R s m args below meth c H' (locs ++ [⟨base + k, f.slot⟩]) cells slots Q (F0 m (pc + 3) ls rest) := by
    intro H' e1 e2 e3
    rw [hsl] at e1 ⊢
    refine kk H' _ (hH.up e2 e3 ?_) (hS.put e2 e3 (Nat.le_add_right _ _))
    refine ⟨_, hc, ?_⟩
    show t_OB (base + k) (D.1 ci) N (D.2 ci) H' (vp_V ((fs.set j v).map (jm_v base sa)))
    rw [List.map_set]
    exact t_OB.to (V := updV (vp_V (fs.map (jm_v base sa))) j (jm_v base sa v)) ⟨_, e1, q2, q3, t_set q4 hap hj (jm_v base sa v)⟩ (fun i _ => vp_updV_set hl' (jm_v base sa v) i)
  have hlt : f.slot < cell.slots.size := by rw [hsl]; exact k2_hasslot (q4 j hj)
  rcases hlink with ⟨h, hfin⟩ | ⟨h, hfin⟩
  · by_cases hb4 : (T j).2.2.2 = true
    · obtain ⟨hin2, hdecl⟩ := hfin hb4
      have hlay := hts _ (hin _ (u_in_lay hj))
      unfold u_lay at hlay
      rw [if_pos hb4] at hlay
      have hcf : m.cls = cf := by
        obtain ⟨_, _, c', _, _, _, -, -, hf', -, -, -, hown2, -⟩ := Cond.laysFinal_spec hlay
        have e1 : c' = cf := by have := hi.symm.trans hf'; simp at this; exact this.1.symm
        rw [← hdecl] at hown2
        rw [← e1]; exact Option.some.inj (hown.symm.trans hown2)
      have h6 := u_fits hfc hkC hkind (Or.inr hlay) hi hd hn hfit
      exact W.putFinK hx hb hown (hts _ h) hi hst hcf hin2 (by rw [q2]; exact h6) q1 q3 hlt rfl rfl hdg fin
    · have hlay := hts _ (hin _ (u_in_lay hj))
      unfold u_lay at hlay
      rw [if_neg hb4] at hlay
      have h6 := u_store hfc hkC hkind hlay hi hd hn hfit
      exact W.putK hx hb (f := f) ⟨hown, hts _ h, ⟨_, _, _, hi⟩, hst⟩ (by rw [q2]; exact h6) q1 q3 hlt rfl rfl hdg fin
  · have hlay := hts _ (hin _ (u_in_lay hj))
    unfold u_lay at hlay
    rw [if_neg (by rw [hfin]; decide)] at hlay
    have h6 := u_store hfc hkC hkind hlay hi hd hn hfit
    exact va_WputK hx hb hown (hts _ h) hi hst (by rw [q2]; exact h6) q1 q3 hlt rfl rfl hdg fin
/-- an element, read -/
theorem jm_iald_ok (hx : p.tables.exec = Jvm.exec) (hb : c.code = cc) (hK : va_K D cl (jm_tys dA) s) (hH : jm_H D cl dA base sa S H) (hlim : S.1 ≤ jm_lim) (hk : k < S.1) {n : Nat} {f : Nat → Int32} (he : S.2 k = .inl (0, n, .inl f)) {i : Int32} (hin : vp_in i n) (hdg : decode cc pc = .ok (.iaload, 1))
    (kk : W p l e R s m args below meth c H locs cells slots Q (F0 m (pc + 1) ls (.int (f i.toNatClampNeg) :: rest))) : W p l e R s m args below meth c H locs cells slots Q (F0 m pc ls (.int i :: jm_v base sa (.ref k) :: rest)) := by
  show W p l e R s m args below meth c H locs cells slots Q (F0 m pc ls (.int i :: .ref (jm_a base sa k) :: rest))
  rw [jm_a_lo hk hlim]
  have h1 := hH.2 k hk
  rw [he] at h1
  exact va_iald hx hb hK (jm_one h1) 0 0 rfl rfl hin hdg kk
theorem jm_zald_ok (hx : p.tables.exec = Jvm.exec) (hb : c.code = cc) (hK : va_K D cl (jm_tys dA) s) (hH : jm_H D cl dA base sa S H) (hlim : S.1 ≤ jm_lim) (hk : k < S.1) {n : Nat} {f : Nat → Int32} (he : S.2 k = .inl (2, n, .inl f)) {i : Int32} (hin : vp_in i n) (hdg : decode cc pc = .ok (.baload, 1))
    (kk : W p l e R s m args below meth c H locs cells slots Q (F0 m (pc + 1) ls (.int (f i.toNatClampNeg) :: rest))) : W p l e R s m args below meth c H locs cells slots Q (F0 m pc ls (.int i :: jm_v base sa (.ref k) :: rest)) := by
  show W p l e R s m args below meth c H locs cells slots Q (F0 m pc ls (.int i :: .ref (jm_a base sa k) :: rest))
  rw [jm_a_lo hk hlim]
  have h1 := hH.2 k hk
  rw [he] at h1
  exact va_zald hx hb hK (jm_one h1) 0 2 rfl rfl hin hdg kk
theorem jm_lald_ok (hx : p.tables.exec = Jvm.exec) (hb : c.code = cc) (hK : va_K D cl (jm_tys dA) s) (hH : jm_H D cl dA base sa S H) (hlim : S.1 ≤ jm_lim) (hk : k < S.1) {n : Nat} {f : Nat → Int64} (he : S.2 k = .inl (1, n, .inr (.inl f))) {i : Int32} (hin : vp_in i n) (hdg : decode cc pc = .ok (.laload, 1))
    (kk : W p l e R s m args below meth c H locs cells slots Q (F0 m (pc + 1) ls (.long (f i.toNatClampNeg) :: rest))) : W p l e R s m args below meth c H locs cells slots Q (F0 m pc ls (.int i :: jm_v base sa (.ref k) :: rest)) := by
  show W p l e R s m args below meth c H locs cells slots Q (F0 m pc ls (.int i :: .ref (jm_a base sa k) :: rest))
  rw [jm_a_lo hk hlim]
  have h1 := hH.2 k hk
  rw [he] at h1
  exact va_lald hx hb hK (jm_one h1) 0 1 rfl rfl hin hdg kk
theorem jm_alen_ok (hx : p.tables.exec = Jvm.exec) (hb : c.code = cc) (hK : va_K D cl (jm_tys dA) s) (hH : jm_H D cl dA base sa S H) (hlim : S.1 ≤ jm_lim) (hk : k < S.1) {t n : Nat} (ht : t < 3) {x : (Nat → Int32) ⊕ (Nat → Int64) ⊕ (Nat → UInt32) ⊕ (Nat → UInt64) ⊕ (Nat → Option Nat)} (he : S.2 k = .inl (t, n, x)) (hdg : decode cc pc = .ok (.arraylength, 1))
    (kk : W p l e R s m args below meth c H locs cells slots Q (F0 m (pc + 1) ls (.int (Int32.ofNat n) :: rest))) : W p l e R s m args below meth c H locs cells slots Q (F0 m pc ls (jm_v base sa (.ref k) :: rest)) := by
  show W p l e R s m args below meth c H locs cells slots Q (F0 m pc ls (.ref (jm_a base sa k) :: rest))
  rw [jm_a_lo hk hlim]
  have h1 := hH.2 k hk
  rw [he] at h1
  have hty : ∃ ty, (jm_tys dA)[t]? = some (dA t, ty) := by
    match t, ht with
    | 0, _ => exact ⟨_, rfl⟩
    | 1, _ => exact ⟨_, rfl⟩
    | 2, _ => exact ⟨_, rfl⟩
  obtain ⟨ty, hty⟩ := hty
  rcases x with f | f | f | f | f
  · exact va_alen (x := (n, .inl f)) hx hb hK (jm_one h1) 0 t rfl hty rfl hdg kk
  · exact va_alen (x := (n, .inr (.inl f))) hx hb hK (jm_one h1) 0 t rfl hty rfl hdg kk
  · exact va_alen (x := (n, .inr (.inr (.inl f)))) hx hb hK (jm_one h1) 0 t rfl hty rfl hdg kk
  · exact va_alen (x := (n, .inr (.inr (.inr (.inl f))))) hx hb hK (jm_one h1) 0 t rfl hty rfl hdg kk
  · exact va_alen (x := (n, .inr (.inr (.inr (.inr (fun j => (f j).map (jm_a base sa))))))) hx hb hK (jm_one h1) 0 t rfl hty rfl hdg kk
/-- an element, written -/
theorem jm_iast_ok (hx : p.tables.exec = Jvm.exec) (hb : c.code = cc) (hK : va_K D cl (jm_tys dA) s) (hH : jm_H D cl dA base sa S H) (hS : va_S (fun q => base ≤ q) H0 H locs) (hlim : S.1 ≤ jm_lim) (hk : k < S.1) {n : Nat} {f : Nat → Int32} (he : S.2 k = .inl (0, n, .inl f)) {i x : Int32} (hin : vp_in i n) (hdg : decode cc pc = .ok (.iastore, 1))
    (kk : ∀ (H1 : Heap) (locs1 : List Loc), jm_H D cl dA base sa (jm_up S k (.inl (0, n, .inl (upd f i.toNatClampNeg x)))) H1 → va_S (fun q => base ≤ q) H0 H1 locs1 → W p l e R s m args below meth c H1 locs1 cells slots Q (F0 m (pc + 1) ls rest)) : W p l e R s m args below meth c H locs cells slots Q (F0 m pc ls (.int x :: .int i :: jm_v base sa (.ref k) :: rest)) := by
  show W p l e R s m args below meth c H locs cells slots Q (F0 m pc ls (.int x :: .int i :: .ref (jm_a base sa k) :: rest))
  rw [jm_a_lo hk hlim]
  have h1 := hH.2 k hk
  rw [he] at h1
  have h1' : H[base + k]? = some (vp_cell (dA 0) (n, .inl f)) := h1
  refine W.iast hx hb h1' ((hK.2 0 (dA 0, .int) rfl).1 n (fun j => .int (f j))) (fun q => by cases q) (by show ¬ (i < 0 ∨ (arrV _ _ _).slots.size ≤ _); rw [arrV_size]; exact hin) rfl rfl hdg fun H1 e z oq => ?_
  refine kk H1 _ (hH.up z oq ?_) (hS.put z oq (Nat.le_add_right _ _))
  show H1[base + k]? = some (vp_cell (dA 0) (n, .inl (upd f i.toNatClampNeg x)))
  rw [e, vp_cell_i, vp_cell_i, arrV_store]
  congr 2
  funext q
  by_cases hq : q = i.toNatClampNeg
  · subst hq
    simp [updV, upd]
  · simp [updV, upd, hq]
theorem jm_zast_ok (hx : p.tables.exec = Jvm.exec) (hb : c.code = cc) (hK : va_K D cl (jm_tys dA) s) (hH : jm_H D cl dA base sa S H) (hS : va_S (fun q => base ≤ q) H0 H locs) (hlim : S.1 ≤ jm_lim) (hk : k < S.1) {n : Nat} {f : Nat → Int32} (he : S.2 k = .inl (2, n, .inl f)) {i x : Int32} (hin : vp_in i n) (hdg : decode cc pc = .ok (.bastore, 1))
    (kk : ∀ (H1 : Heap) (locs1 : List Loc), jm_H D cl dA base sa (jm_up S k (.inl (2, n, .inl (upd f i.toNatClampNeg (x &&& 1))))) H1 → va_S (fun q => base ≤ q) H0 H1 locs1 → W p l e R s m args below meth c H1 locs1 cells slots Q (F0 m (pc + 1) ls rest)) : W p l e R s m args below meth c H locs cells slots Q (F0 m pc ls (.int x :: .int i :: jm_v base sa (.ref k) :: rest)) := by
  show W p l e R s m args below meth c H locs cells slots Q (F0 m pc ls (.int x :: .int i :: .ref (jm_a base sa k) :: rest))
  rw [jm_a_lo hk hlim]
  have h1 := hH.2 k hk
  rw [he] at h1
  have h1' : H[base + k]? = some (vp_cell (dA 2) (n, .inl f)) := h1
  refine W.zast hx hb h1' ((hK.2 2 (dA 2, .boolean) rfl).1 n (fun j => .int (f j))) (fun q => by cases q) (by show ¬ (i < 0 ∨ (arrV _ _ _).slots.size ≤ _); rw [arrV_size]; exact hin) rfl rfl hdg fun H1 e z oq => ?_
  refine kk H1 _ (hH.up z oq ?_) (hS.put z oq (Nat.le_add_right _ _))
  show H1[base + k]? = some (vp_cell (dA 2) (n, .inl (upd f i.toNatClampNeg (x &&& 1))))
  rw [e, vp_cell_i, vp_cell_i, arrV_store]
  congr 2
  funext q
  by_cases hq : q = i.toNatClampNeg
  · subst hq
    simp [updV, upd, narrow]
  · simp [updV, upd, hq]
theorem jm_last_ok (hx : p.tables.exec = Jvm.exec) (hb : c.code = cc) (hK : va_K D cl (jm_tys dA) s) (hH : jm_H D cl dA base sa S H) (hS : va_S (fun q => base ≤ q) H0 H locs) (hlim : S.1 ≤ jm_lim) (hk : k < S.1) {n : Nat} {f : Nat → Int64} (he : S.2 k = .inl (1, n, .inr (.inl f))) {i : Int32} {x : Int64} (hin : vp_in i n) (hdg : decode cc pc = .ok (.lastore, 1))
    (kk : ∀ (H1 : Heap) (locs1 : List Loc), jm_H D cl dA base sa (jm_up S k (.inl (1, n, .inr (.inl (vp_updL f i.toNatClampNeg x))))) H1 → va_S (fun q => base ≤ q) H0 H1 locs1 → W p l e R s m args below meth c H1 locs1 cells slots Q (F0 m (pc + 1) ls rest)) : W p l e R s m args below meth c H locs cells slots Q (F0 m pc ls (.long x :: .int i :: jm_v base sa (.ref k) :: rest)) := by
  show W p l e R s m args below meth c H locs cells slots Q (F0 m pc ls (.long x :: .int i :: .ref (jm_a base sa k) :: rest))
  rw [jm_a_lo hk hlim]
  have h1 := hH.2 k hk
  rw [he] at h1
  have h1' : H[base + k]? = some (vp_cell (dA 1) (n, .inr (.inl f))) := h1
  refine W.last hx hb h1' ((hK.2 1 (dA 1, .long) rfl).1 n (fun j => .long (f j))) (fun q => by cases q) (by show ¬ (i < 0 ∨ (arrV _ _ _).slots.size ≤ _); rw [arrV_size]; exact hin) rfl rfl hdg fun H1 e z oq => ?_
  refine kk H1 _ (hH.up z oq ?_) (hS.put z oq (Nat.le_add_right _ _))
  show H1[base + k]? = some (vp_cell (dA 1) (n, .inr (.inl (vp_updL f i.toNatClampNeg x))))
  rw [e, vp_cell_l, vp_cell_l, arrV_store]
  congr 2
  funext q
  by_cases hq : q = i.toNatClampNeg
  · subst hq
    simp [updV, vp_updL]
  · simp [updV, vp_updL, hq]
end JM3
end
section
/-! THE PURE MACHINE, part 4: new cells, constants of the pool, arrays that nobody writes -/
theorem jm_v_dflt (base : Nat) (sa : Nat → Nat) (t : FieldType) : jm_v base sa (defaultValue t) = defaultValue t := by cases t <;> rfl
def jm_new (N : Nat) (ty : Nat → FieldType) : List Value := (List.range N).map fun j => defaultValue (ty j)
theorem jm_new_V (base : Nat) (sa : Nat → Nat) (N : Nat) (ty : Nat → FieldType) (j : Nat) (hj : j < N) : defaultValue (ty j) = vp_V ((jm_new N ty).map (jm_v base sa)) j := by
  simp [vp_V, jm_new, hj, jm_v_dflt]
/-- the number of an array's type -/
def jm_nt (a : ArrayType) : Option Nat := match a with
  | .int => some 0
  | .long => some 1
  | .boolean => some 2
  | _ => none
def jm_blank (t n : Nat) : jm_c := if t = 1 then .inl (1, n, .inr (.inl fun _ => 0)) else .inl (t, n, .inl fun _ => 0)
section JM4
variable {p : Program} {l : Launch} {e : Env} {R : Room} {s : State} {m : MethodId} {args : Array Value} {below : List Frame} {meth : Method} {c : Code} {H H0 : Heap} {locs : List Loc} {cells slots : Nat} {Q : State → Prop}
variable {cc : ByteArray} {pc base : Nat} {sa : Nat → Nat} {dA : Nat → ClassId} {D : va_G} {cl : List vw_C} {tys : List (ClassId × FieldType)} {ls : Array Slot} {rest : List Value} {S : jm_S} {k : Nat}
theorem jm_new_ok (hx : p.tables.exec = Jvm.exec) (hb : c.code = cc) {own C : String} {T : u_T} {N ci index : Nat} {Ts : List Cond} (hts : ∀ w ∈ Ts, w.before args s = true) (hin : ∀ w ∈ u_ws C T N, w ∈ Ts) (ty : Nat → FieldType) (hty : ∀ k, k < N → parseFieldDescriptor (T k).2.2.1 = some (ty k)) (hown : s.vm.findClass own = some m.cls)
    (hcl : Cond.classLink own index C ∈ Ts) (hinst : Cond.instantiable C N ∈ Ts) (hini : Cond.initialized C ∈ Ts) (hK : va_K D cl tys s) (hH : jm_H D cl dA base sa S H) (hS : va_S (fun q => base ≤ q) H0 H locs) (hlim : S.1 < jm_lim) (hc : cl[ci]? = some (C, T, N)) (hcells : cells + 1 ≤ R.cells) (hslots : slots + N ≤ R.slots) (hdg : decode cc pc = .ok (.new index, 3))
    (kk : ∀ H1 : Heap, jm_H D cl dA base sa (jm_add S (.inr (ci, jm_new N ty))) H1 → va_S (fun q => base ≤ q) H0 H1 locs → W p l e R s m args below meth c H1 locs (cells + 1) (slots + N) Q (F0 m (pc + 3) ls (jm_v base sa (.ref S.1) :: rest))) : W p l e R s m args below meth c H locs cells slots Q (F0 m pc ls rest) := by
  have hKn := hK.1 ci _ hc
  have ha : jm_v base sa (.ref S.1) = .ref (base + S.1) := congrArg Value.ref (if_pos hlim)
  refine W.newcK hx hb hown (hts _ hcl) (hts _ hinst) (hts _ hini) rfl hdg hcells hslots hKn.2.1 hH.1 fun H1 kC hkC e1 z1 o1 => ?_
  have hkk := kk H1 (hH.add z1 o1 ⟨_, hc, (u_born ty hts hin hKn hkC e1 hty).to (fun j hj => jm_new_V base sa N ty j hj)⟩)
    ⟨by rw [z1]; exact Nat.le_trans hS.1 (by rw [hH.1]; exact Nat.le_succ _), fun q h1 h2 => by
      have hq : q < base + S.1 := by have := hS.1; rw [hH.1] at this; omega
      rw [o1 q hq]; exact hS.2.1 q h1 h2, hS.2.2⟩
  rw [ha] at hkk
  exact hkk
theorem jm_newa_ok (hx : p.tables.exec = Jvm.exec) (hb : c.code = cc) {atype : ArrayType} {t : Nat} (ht : jm_nt atype = some t) {Ts : List Cond} (hts : ∀ w ∈ Ts, w.before args s = true) (harr : Cond.arrayClass (newarray.typeOf atype) ∈ Ts) (hK : va_K D cl (jm_tys dA) s) (hH : jm_H D cl dA base sa S H) (hS : va_S (fun q => base ≤ q) H0 H locs) (hlim : S.1 < jm_lim)
    {n : Int32} (hn : ¬ n < 0) (hbig : n.toNatClampNeg ≤ 1000000) (hcells : cells + 1 ≤ R.cells) (hslots : slots + n.toNatClampNeg ≤ R.slots) (hdg : decode cc pc = .ok (.newarray atype, 2))
    (kk : ∀ H1 : Heap, jm_H D cl dA base sa (jm_add S (jm_blank t n.toNatClampNeg)) H1 → va_S (fun q => base ≤ q) H0 H1 locs → W p l e R s m args below meth c H1 locs (cells + 1) (slots + n.toNatClampNeg) Q (F0 m (pc + 2) ls (jm_v base sa (.ref S.1) :: rest))) : W p l e R s m args below meth c H locs cells slots Q (F0 m pc ls (.int n :: rest)) := by
  have ha : jm_v base sa (.ref S.1) = .ref (base + S.1) := congrArg Value.ref (if_pos hlim)
  have hbytes : n.toNatClampNeg * componentBytes (newarray.typeOf atype) ≤ 536870912 := by
    have : componentBytes (newarray.typeOf atype) ≤ 8 := by cases atype <;> decide
    calc n.toNatClampNeg * componentBytes (newarray.typeOf atype) ≤ 1000000 * 8 := Nat.mul_le_mul hbig this
      _ ≤ 536870912 := by decide
  refine va_newaK hx hb (hts _ harr) rfl hdg rfl hn rfl hbytes hcells hslots hH.1 fun H1 cA e1 z1 o1 hAr hNm => ?_
  have hcell : H1[base + S.1]? = some (vp_cell (dA t) (match jm_blank t n.toNatClampNeg with
    | .inl (_, a) => a
    | .inr _ => (0, .inl fun _ => 0))) ∧ jm_E base sa dA (jm_blank t n.toNatClampNeg) = .inl (dA t, (match jm_blank t n.toNatClampNeg with
    | .inl (_, a) => a
    | .inr _ => (0, .inl fun _ => 0))) := by
    unfold jm_nt at ht
    split at ht
    · cases ht
      have hq : s.vm.findClass ("[" ++ (FieldType.int).toString) = some (dA 0) := (hK.2 0 (dA 0, .int) rfl).2
      have hc2 : cA = dA 0 := Option.some.inj (hNm.symm.trans hq)
      exact ⟨by rw [e1, hc2]; rfl, rfl⟩
    · cases ht
      have hq : s.vm.findClass ("[" ++ (FieldType.long).toString) = some (dA 1) := (hK.2 1 (dA 1, .long) rfl).2
      have hc2 : cA = dA 1 := Option.some.inj (hNm.symm.trans hq)
      exact ⟨by rw [e1, hc2]; rfl, rfl⟩
    · cases ht
      have hq : s.vm.findClass ("[" ++ (FieldType.boolean).toString) = some (dA 2) := (hK.2 2 (dA 2, .boolean) rfl).2
      have hc2 : cA = dA 2 := Option.some.inj (hNm.symm.trans hq)
      exact ⟨by rw [e1, hc2]; rfl, rfl⟩
    · cases ht
  have hkk := kk H1 (hH.add z1 o1 (by rw [hcell.2]; exact hcell.1))
    ⟨by rw [z1]; exact Nat.le_trans hS.1 (by rw [hH.1]; exact Nat.le_succ _), fun q h1 h2 => by
      have hq : q < base + S.1 := by have := hS.1; rw [hH.1] at this; omega
      rw [o1 q hq]; exact hS.2.1 q h1 h2, hS.2.2⟩
  rw [ha] at hkk
  exact hkk
end JM4
end
