/-! THE PURE MACHINE, part 5: a step (jp_ names: the program's own tables) -/
/-- the law's script: its length, its ints -/
abbrev jm_X : Type := Nat × (Nat → Int32)
abbrev jm_N : Type := Nat × jm_L × List Value × jm_S × Nat × Nat
/-- arrays that nobody writes: the script, and the class's two tables -/
def jm_sa (X : jm_X) (a : Nat) : Option (Nat × Nat × (Nat → Value)) :=
  bif Nat.beq a 1000000 then some (0, X.1, fun j => .int (X.2 j))
  else bif Nat.beq a 1000001 then some (1, jp_KEYS.length, fun j => .long (jp_KEYS.getD j 0))
  else bif Nat.beq a 1000002 then some (0, jp_STR.length, fun j => .int (jp_STR.getD j 0))
  else none
/-- a static field that holds a reference or null, unwritten -/
def jm_sf (C n d : String) (A : Nat → Prop) (U : State) (H : Heap) : Prop := ∃ (c : ClassId) (k : Class) (i : Nat) (f : Field) (a : Nat) (cell : Cell) (v : Value), U.vm.findClass C = some c ∧ U.fieldFound? C n d = some (c, k, i, f) ∧ f.isStatic = true ∧ k.statics = some a ∧ H[a]? = some cell ∧ cell.vm.isStatics = true ∧ cell.cls = c ∧ f.slot < cell.slots.size ∧ k.staticTypes[f.slot]? = some f.type ∧ cell.slots[f.slot]? = some v ∧ (v = .null ∨ ∃ t, v = .ref t) ∧ ¬ A a
theorem jm_sf.go {C n d : String} {A : Nat → Prop} {s U : State} {H H1 : Heap} (h : jm_sf C n d A s H) (hvm : s.vm.Alike U.vm) (hq : ∀ a : Nat, a < H.size → ¬ A a → H1[a]? = H[a]?) : jm_sf C n d A U H1 := by
  obtain ⟨c, k, i, f, a, cell, v, h1, h2, h3, h4, h5, h6, h7, h8, h9, h10, h11, h12⟩ := h
  obtain ⟨k', hi', he⟩ := State.fieldFound?_setVm hvm h2
  exact ⟨c, k', i, f, a, cell, v, by rw [hvm.findClass]; exact h1, hi', h3, by rw [he]; exact h4, by rw [hq a (Array.getElem?_eq_some_iff.mp h5).1 h12]; exact h5, h6, h7, h8, by rw [he]; exact h9, h10, h11, h12⟩
theorem jm_sf.lays {C n d : String} {A : Nat → Prop} {U : State} (h : jm_sf C n d A U U.heap) (args : Array Value) : (Cond.laysStatic C n d).before args U = true := by
  obtain ⟨c, k, i, f, a, cell, v, h1, h2, h3, h4, h5, h6, h7, h8, h9, h10, h11, h12⟩ := h
  simp [Cond.before, Cond.holds, Cond.value, h1, h2, h3, h4, h5, h6, h7, h8, h9]
theorem jm_sf.isRef {C n d : String} {A : Nat → Prop} {U : State} (h : jm_sf C n d A U U.heap) (args : Array Value) : (Cond.isRef (.static C n d)).before args U = true := by
  obtain ⟨c, k, i, f, a, cell, v, h1, h2, h3, h4, h5, h6, h7, h8, h9, h10, h11, h12⟩ := h
  have e1 : (Term.static C n d).eval args U none [] U = some v := by
    simp [Term.eval, State.fieldNamed?, h2, h3, h4, h5, h6, h10]
  simp only [Cond.before, Cond.holds, Cond.value, e1]
  rcases h11 with rfl | ⟨t, rfl⟩ <;> rfl
/-- the links that stay by laws of their own; the class's String constants -/
def jnc : List (String × String) := [("java/lang/IllegalArgumentException", "java/lang/IllegalStateException"), ("java/lang/IllegalArgumentException", "java/lang/IndexOutOfBoundsException"), ("java/lang/IllegalStateException", "java/lang/IllegalArgumentException"), ("java/lang/IllegalStateException", "java/lang/IndexOutOfBoundsException"), ("java/lang/IndexOutOfBoundsException", "java/lang/IllegalArgumentException"), ("java/lang/IndexOutOfBoundsException", "java/lang/IllegalStateException")]
def jm_nst (U : State) : Prop := (∀ w ∈ jn, va_Nw w U) ∧ (∀ x ∈ jstr, ∃ q, vk_R "WhilePress" x.1 x.2 q U) ∧ (∀ x ∈ jnc, va_Nc x.1 x.2 U)
theorem jm_nst.go {s U : State} (h : jm_nst s) (hW : s.WarmedH U.vm) : jm_nst U := ⟨jn_warm hW h.1, fun x hx => by
  obtain ⟨q, hq⟩ := h.2.1 x hx
  exact ⟨q, hq.warm hW⟩, fun x hx => (h.2.2 x hx).moved hW.alike⟩
theorem jm_nst.same {u U : State} (h : jm_nst u) (hv : U.vm = u.vm) : jm_nst U := ⟨fun w hw => va_Nw.same (jn_on w hw) hv.symm (h.1 w hw), fun x hx => by
  obtain ⟨q, hq⟩ := h.2.1 x hx
  exact ⟨q, hq.same hv⟩, fun x hx => (h.2.2 x hx).moved (by rw [hv]; exact Vm.Alike.refl _)⟩
def jm_sta (A : Nat → Prop) (sa : Nat → Nat) (X : jm_X) (U : State) : Prop :=
  va_Z "WhilePress" "KEYS" "[J" (.ref (sa 1000001)) A U U.heap ∧ va_Z "WhilePress" "STRENGTH" "[I" (.ref (sa 1000002)) A U U.heap ∧ va_T .int (sa 1000000) X.1 (fun j => .int (X.2 j)) A U U.heap ∧ va_T .long (sa 1000001) jp_KEYS.length (fun j => .long (jp_KEYS.getD j 0)) A U U.heap ∧ va_T .int (sa 1000002) jp_STR.length (fun j => .int (jp_STR.getD j 0)) A U U.heap ∧ jm_sf Bundle.tN "UNASSIGNED_STACK" Bundle.steD A U U.heap ∧ jm_sf Bundle.tN "SUPPRESSED_SENTINEL" Bundle.listD A U U.heap
/-- an element's place is in range -/
def jm_in (i : Int32) (n : Nat) : Bool := decide (¬ (i < 0 ∨ n ≤ i.toNatClampNeg))
theorem jm_in_ok {i : Int32} {n : Nat} (h : jm_in i n = true) : vp_in i n := by
  have h1 : ¬ (i < 0 ∨ n ≤ i.toNatClampNeg) := of_decide_eq_true h
  exact h1
/-- an element of an array that lies in the store -/
def jm_rd (i : Instr) (j : Int32) (x : jm_c) : Option Value := match i, x with
  | .iaload, .inl (0, n, .inl f) => if jm_in j n = true then some (.int (f j.toNatClampNeg)) else none
  | .baload, .inl (2, n, .inl f) => if jm_in j n = true then some (.int (f j.toNatClampNeg)) else none
  | .baload, .inl (3, n, .inl f) => if jm_in j n = true then some (.int (f j.toNatClampNeg)) else none
  | .laload, .inl (1, n, .inr (.inl f)) => if jm_in j n = true then some (.long (f j.toNatClampNeg)) else none
  | _, _ => none
def jm_rs (i : Instr) (j : Int32) (x : Nat × Nat × (Nat → Value)) : Option Value := match i, x with
  | .iaload, (0, n, f) => if jm_in j n = true then some (f j.toNatClampNeg) else none
  | .laload, (1, n, f) => if jm_in j n = true then some (f j.toNatClampNeg) else none
  | _, _ => none
def jm_wr (i : Instr) (v : Value) (j : Int32) (x : jm_c) : Option jm_c := match i, v, x with
  | .iastore, .int z, .inl (0, n, .inl f) => if jm_in j n = true then some (.inl (0, n, .inl (upd f j.toNatClampNeg z))) else none
  | .bastore, .int z, .inl (2, n, .inl f) => if jm_in j n = true then some (.inl (2, n, .inl (upd f j.toNatClampNeg (z &&& 1)))) else none
  | .bastore, .int z, .inl (3, n, .inl f) => if jm_in j n = true then some (.inl (3, n, .inl (upd f j.toNatClampNeg z.toInt8.toInt32))) else none
  | .lastore, .long z, .inl (1, n, .inr (.inl f)) => if jm_in j n = true then some (.inl (1, n, .inr (.inl (vp_updL f j.toNatClampNeg z)))) else none
  | _, _, _ => none
def jm_ln (x : jm_c) : Option Int32 := match x with
  | .inl (t, n, _) => if t < 4 then some (Int32.ofNat n) else none
  | .inr _ => none
/-- instructions on cells: the stack, the store, the cells and the slots that came -/
def jm_cell (X : jm_X) (M : jm_M) (i : Instr) (len : Nat) (st : List Value) (S : jm_S) : Option (List Value × jm_S × Nat × Nat) := match i, len, st with
  | .getfield idx, 3, .ref a :: r => (match jp_F (jm_q M) idx with
    | some f => if a < S.1 then (match S.2 a with
      | .inr o => if o.1 = f.1 then (match o.2[f.2.1]? with
        | some v => some (v :: r, S, 0, 0)
        | none => none) else none
      | .inl _ => none) else none
    | none => none)
  | .putfield idx, 3, v :: .ref a :: r => (match jp_F (jm_q M) idx with
    | some f => if a < S.1 ∧ (f.2.2 = 0 ∨ (M.2.2.2.2.2.2 = 1 ∧ jm_q M = f.1)) ∧ jm_fit (jp_ty f.1 f.2.1) v = true then (match S.2 a with
      | .inr o => if o.1 = f.1 ∧ f.2.1 < o.2.length then some (r, jm_up S a (.inr (o.1, o.2.set f.2.1 v)), 0, 0) else none
      | .inl _ => none) else none
    | none => none)
  | .getstatic idx, 3, r => (match jp_S (jm_q M) idx with
    | some a => some (.ref a :: r, S, 0, 0)
    | none => none)
  | .arraylength, 1, .ref a :: r => if a < S.1 then (match jm_ln (S.2 a) with
    | some z => some (.int z :: r, S, 0, 0)
    | none => none) else (match jm_sa X a with
    | some x => some (.int (Int32.ofNat x.2.1) :: r, S, 0, 0)
    | none => none)
  | .new idx, 3, r => (match jp_W (jm_q M) idx with
    | some ci => if S.1 < jm_lim then some (.ref S.1 :: r, jm_add S (.inr (ci, jm_new (jp_N ci) (jp_ty ci))), 1, jp_N ci) else none
    | none => none)
  | .newarray a, 2, .int n :: r => (match jm_nt a with
    | some t => if S.1 < jm_lim ∧ ¬ n < 0 ∧ n.toNatClampNeg ≤ 1000000 then some (.ref S.1 :: r, jm_add S (jm_blank t n.toNatClampNeg), 1, n.toNatClampNeg) else none
    | none => none)
  | i, 1, .int j :: .ref a :: r => if a < S.1 then (match jm_rd i j (S.2 a) with
    | some v => some (v :: r, S, 0, 0)
    | none => none) else (match jm_sa X a with
    | some x => (match jm_rs i j x with
      | some v => some (v :: r, S, 0, 0)
      | none => none)
    | none => none)
  | i, 1, v :: .int j :: .ref a :: r => if a < S.1 then (match jm_wr i v j (S.2 a) with
    | some x => some (r, jm_up S a x, 0, 0)
    | none => none) else none
  | _, _, _ => none
/-- what is left of the simple ones -/
def jm_mis (M : jm_M) (i : Instr) (len pc : Nat) (lv : jm_L) (st : List Value) : Option (Nat × jm_L × List Value) := match i, len with
  | .iinc n z, 3 => (match jm_get lv n with
    | some (.int x) => if n < M.2.2.1 then some (pc + 3, jm_set1 lv n (.int (x + Int32.ofInt z)), st) else none
    | _ => none)
  | .ldc idx, 2 => (match jp_K (jm_q M) idx with
    | some (.int x) => some (pc + 2, lv, .int x :: st)
    | _ => none)
  | .ldc_w idx, 3 => (match jp_K (jm_q M) idx with
    | some (.int x) => some (pc + 3, lv, .int x :: st)
    | _ => none)
  | .ldc2_w idx, 3 => (match jp_K (jm_q M) idx with
    | some (.long x) => some (pc + 3, lv, .long x :: st)
    | _ => none)
  | i, 1 => (match jm_al i st with
    | some st' => some (pc + 1, lv, st')
    | none => match jm_sk i st with
      | some st' => some (pc + 1, lv, st')
      | none => none)
  | _, _ => none
def jm_step (X : jm_X) (M : jm_M) (i : Instr) (len pc : Nat) (lv : jm_L) (st : List Value) (S : jm_S) : Option jm_N :=
  match jm_k i len with
  | some v => some (pc + len, lv, v :: st, S, 0, 0)
  | none => match jm_ld i len with
  | some q => (match jm_get lv q.1 with
    | some v => if jm_isk q.2 v = true then some (pc + len, lv, v :: st, S, 0, 0) else none
    | none => none)
  | none => match jm_sr i len with
  | some q => (match st with
    | v :: r => if jm_isk q.2 v = true ∧ q.1 + v.category ≤ M.2.2.1 then some (pc + len, if q.2 = 1 then jm_set2 lv q.1 v else jm_set1 lv q.1 v, r, S, 0, 0) else none
    | [] => none)
  | none => match jm_br i len pc st with
  | some q => some (q.1, lv, q.2, S, 0, 0)
  | none => match jm_cell X M i len st S with
  | some q => some (pc + len, lv, q.1, q.2.1, q.2.2.1, q.2.2.2)
  | none => match jm_mis M i len pc lv st with
  | some q => some (q.1, q.2.1, q.2.2, S, 0, 0)
  | none => none
/-- where a method's walk stands: the machine, its code, the tables' words, classes, arrays that nobody writes -/
def jm_ctx (p : Program) (s : State) (m : MethodId) (args : Array Value) (meth : Method) (c : Code) (D : va_G) (dA : Nat → ClassId) (base : Nat) (sa : Nat → Nat) (X : jm_X) (M : jm_M) : Prop :=
  p.tables.exec = Jvm.exec ∧ c.code = M.2.1 ∧ c.maxLocals = M.2.2.1 ∧ s.vm.findClass (jp_O (jm_q M)) = some m.cls ∧ (∀ w ∈ jw, w.before args s = true) ∧ jm_nst s ∧ va_K D jCl (jm_tys dA) s ∧ jm_sta (fun q => base ≤ q) sa X s ∧ (M.2.2.2.2.2.2 = 1 → meth.name = "<init>") ∧ meth.locks = false
theorem jm_sa_ok {X : jm_X} {a : Nat} {x : Nat × Nat × (Nat → Value)} (h : jm_sa X a = some x) : (a = 1000000 ∧ x = (0, X.1, fun j => .int (X.2 j))) ∨ (a = 1000001 ∧ x = (1, jp_KEYS.length, fun j => .long (jp_KEYS.getD j 0))) ∨ (a = 1000002 ∧ x = (0, jp_STR.length, fun j => .int (jp_STR.getD j 0))) := by
  unfold jm_sa at h
  cases h0 : Nat.beq a 1000000
  case true =>
    rw [h0] at h
    cases h
    exact Or.inl ⟨Nat.eq_of_beq_eq_true h0, rfl⟩
  case false =>
    rw [h0] at h
    cases h1 : Nat.beq a 1000001
    case true =>
      rw [h1] at h
      cases h
      exact Or.inr (Or.inl ⟨Nat.eq_of_beq_eq_true h1, rfl⟩)
    case false =>
      rw [h1] at h
      cases h2 : Nat.beq a 1000002
      case true =>
        rw [h2] at h
        cases h
        exact Or.inr (Or.inr ⟨Nat.eq_of_beq_eq_true h2, rfl⟩)
      case false =>
        rw [h2] at h
        cases h
