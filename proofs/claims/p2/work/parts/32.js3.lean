/-! THE SYMBOLIC MACHINE, part 3: jumps, cells, a step -/
theorem js_vi {ρ : js_R} {k : Nat} (h : Nat.blt k 100 = true) : js_v ρ (.inr k) = .int (ρ.1 k) := by
  unfold js_v
  dsimp only
  rw [h]
  rfl
/-- a comparison, its sides changed -/
def js_sw (q : ClassFile.Cond) : ClassFile.Cond := match q with
  | .eq => .eq
  | .ne => .ne
  | .lt => .gt
  | .ge => .le
  | .gt => .lt
  | .le => .ge
theorem js_sw_eq (q : ClassFile.Cond) (x y : Int32) : jm_cc q x y = jm_cc (js_sw q) y x := by
  cases q
  · exact decide_eq_decide.mpr eq_comm
  · exact decide_eq_decide.mpr (not_congr eq_comm)
  · rfl
  · rfl
  · rfl
  · rfl
def js_br (A : js_A) (i : Instr) (len pc : Nat) (st : List js_V) : Option (Nat × List js_V) := match i, len, st with
  | .goto off, 3, r => if jm_ok pc off = true then some (jm_at pc off, r) else none
  | .ifCond q off, 3, .inl (.int x) :: r => if jm_ok pc off = true then some (if jm_cz q x = true then jm_at pc off else pc + 3, r) else none
  | .ifCond q off, 3, .inr k :: r => if jm_ok pc off = true ∧ Nat.blt k 100 = true then (match js_cmp A q k 0 with
    | some b => some (if b = true then jm_at pc off else pc + 3, r)
    | none => none) else none
  | .if_icmp q off, 3, .inl (.int y) :: .inl (.int x) :: r => if jm_ok pc off = true then some (if jm_cc q x y = true then jm_at pc off else pc + 3, r) else none
  | .if_icmp q off, 3, .inl (.int y) :: .inr k :: r => if jm_ok pc off = true ∧ Nat.blt k 100 = true then (match js_cmp A q k y with
    | some b => some (if b = true then jm_at pc off else pc + 3, r)
    | none => none) else none
  | .if_icmp q off, 3, .inr k :: .inl (.int x) :: r => if jm_ok pc off = true ∧ Nat.blt k 100 = true then (match js_cmp A (js_sw q) k x with
    | some b => some (if b = true then jm_at pc off else pc + 3, r)
    | none => none) else none
  | .ifnull _, 3, .inl (.ref _) :: r => some (pc + 3, r)
  | .ifnonnull off, 3, .inl (.ref _) :: r => if jm_ok pc off = true then some (jm_at pc off, r) else none
  | .tableswitch dflt lo hi offs, _, .inl (.int x) :: r =>
    if x.toInt < lo ∨ hi < x.toInt then (if jm_ok pc dflt = true then some (jm_at pc dflt, r) else none)
    else (match offs[(x.toInt - lo).toNat]? with
      | some off => if jm_ok pc off = true then some (jm_at pc off, r) else none
      | none => none)
  | .tableswitch dflt lo hi _, _, .inr k :: r => if (Nat.blt k 100 = true ∧ jm_ok pc dflt = true) ∧ ((js_cmp A .lt k (Int32.ofInt lo) = some true ∧ (Int32.ofInt lo).toInt = lo) ∨ (js_cmp A .gt k (Int32.ofInt hi) = some true ∧ (Int32.ofInt hi).toInt = hi)) then some (jm_at pc dflt, r) else none
  | .lookupswitch dflt ps, _, .inl (.int x) :: r =>
    if (ps.toList.zip (ps.toList.drop 1)).all (fun (a, next) => a.1 < next.1) = true ∧ jm_ok pc (Op.lookupswitch.offset ps.toList dflt x.toInt) = true then some (jm_at pc (Op.lookupswitch.offset ps.toList dflt x.toInt), r) else none
  | _, _, _ => none
theorem js_br_eq {ρ : js_R} {A : js_A} (hA : js_true ρ A) {i : Instr} {len pc pc' : Nat} {st st' : List js_V} (h : js_br A i len pc st = some (pc', st')) : jm_br i len pc (st.map (js_v ρ)) = some (pc', st'.map (js_v ρ)) := by
  unfold js_br at h
  split at h
  · split at h
    · rename_i hk; cases h; exact if_pos hk
    · cases h
  · split at h
    · rename_i hk; cases h; exact if_pos hk
    · cases h
  · rename_i q off k r
    split at h
    · rename_i hk
      split at h
      · rename_i b hb
        cases h
        have h1 := js_cmp_ok hA hb
        rw [List.map_cons, js_vi hk.2]
        show (if jm_ok pc off = true then some (if jm_cz q (ρ.1 k) = true then jm_at pc off else pc + 3, st'.map (js_v ρ)) else none) = _
        rw [if_pos hk.1, js_cz_cc, h1]
      · cases h
    · cases h
  · split at h
    · rename_i hk; cases h; exact if_pos hk
    · cases h
  · rename_i q off y k r
    split at h
    · rename_i hk
      split at h
      · rename_i b hb
        cases h
        have h1 := js_cmp_ok hA hb
        rw [List.map_cons, List.map_cons, js_vi hk.2]
        show (if jm_ok pc off = true then some (if jm_cc q (ρ.1 k) y = true then jm_at pc off else pc + 3, st'.map (js_v ρ)) else none) = _
        rw [if_pos hk.1, h1]
      · cases h
    · cases h
  · rename_i q off k x r
    split at h
    · rename_i hk
      split at h
      · rename_i b hb
        cases h
        have h1 := js_cmp_ok hA hb
        rw [← js_sw_eq] at h1
        rw [List.map_cons, List.map_cons, js_vi hk.2]
        show (if jm_ok pc off = true then some (if jm_cc q x (ρ.1 k) = true then jm_at pc off else pc + 3, st'.map (js_v ρ)) else none) = _
        rw [if_pos hk.1, h1]
      · cases h
    · cases h
  · cases h; rfl
  · split at h
    · rename_i hk; cases h; exact if_pos hk
    · cases h
  · rename_i dflt lo hi offs x r
    show (if x.toInt < lo ∨ hi < x.toInt then (if jm_ok pc dflt = true then some (jm_at pc dflt, r.map (js_v ρ)) else none) else (match offs[(x.toInt - lo).toNat]? with
      | some off => if jm_ok pc off = true then some (jm_at pc off, r.map (js_v ρ)) else none
      | none => none)) = _
    split at h
    · rename_i hx
      rw [if_pos hx]
      split at h
      · rename_i hk; cases h; exact if_pos hk
      · cases h
    · rename_i hx
      rw [if_neg hx]
      split at h
      · rename_i off ho
        split at h
        · rename_i hk; cases h; exact if_pos hk
        · cases h
      · cases h
  · rename_i dflt lo hi offs k r
    split at h
    · rename_i hk
      cases h
      rw [List.map_cons, js_vi hk.1.1]
      show (if (ρ.1 k).toInt < lo ∨ hi < (ρ.1 k).toInt then (if jm_ok pc dflt = true then some (jm_at pc dflt, st'.map (js_v ρ)) else none) else _) = _
      have hx : (ρ.1 k).toInt < lo ∨ hi < (ρ.1 k).toInt := by
        rcases hk.2 with ⟨h1, h2⟩ | ⟨h1, h2⟩
        · left
          have h3 := js_cmp_ok hA h1
          have h4 : ρ.1 k < Int32.ofInt lo := of_decide_eq_true h3
          rw [← h2]
          exact Int32.lt_iff_toInt_lt.mp h4
        · right
          have h3 := js_cmp_ok hA h1
          have h4 : Int32.ofInt hi < ρ.1 k := of_decide_eq_true h3
          rw [← h2]
          exact Int32.lt_iff_toInt_lt.mp h4
      rw [if_pos hx, if_pos hk.1.2]
    · cases h
  · rename_i dflt ps x r
    split at h
    · rename_i hk
      cases h
      exact if_pos hk
    · cases h
  · cases h
def js_isb (i : Instr) : Bool := match i with
  | .goto _ => true
  | .ifCond _ _ => true
  | .if_icmp _ _ => true
  | .ifnull _ => true
  | .ifnonnull _ => true
  | .tableswitch _ _ _ _ => true
  | .lookupswitch _ _ => true
  | _ => false
theorem js_isb_no {i : Instr} (h : js_isb i = false) (len pc : Nat) (st : List Value) : jm_br i len pc st = none := by
  unfold jm_br
  split <;> first | rfl | cases h
def js_isc (i : Instr) : Bool := match i with
  | .getfield _ => true
  | .putfield _ => true
  | .getstatic _ => true
  | .arraylength => true
  | .new _ => true
  | .newarray _ => true
  | .iaload => true
  | .baload => true
  | .laload => true
  | .iastore => true
  | .bastore => true
  | .lastore => true
  | _ => false
theorem js_isc_rd {i : Instr} (h : js_isc i = false) (j : Int32) (x : jm_c) : jm_rd i j x = none := by
  unfold jm_rd
  split <;> first | rfl | cases h
theorem js_isc_rs {i : Instr} (h : js_isc i = false) (j : Int32) (x : Nat × Nat × (Nat → Value)) : jm_rs i j x = none := by
  unfold jm_rs
  split <;> first | rfl | cases h
theorem js_isc_wr {i : Instr} (h : js_isc i = false) (v : Value) (j : Int32) (x : jm_c) : jm_wr i v j x = none := by
  unfold jm_wr
  split <;> first | rfl | cases h
theorem js_isc_no {i : Instr} (h : js_isc i = false) (X : jm_X) (M : jm_M) (len : Nat) (st : List Value) (S : jm_S) : jm_cell X M i len st S = none := by
  unfold jm_cell
  split
  · cases h
  · cases h
  · cases h
  · cases h
  · cases h
  · cases h
  · rw [js_isc_rd h]
    dsimp only
    split
    · rfl
    · split
      · rw [js_isc_rs h]
      · rfl
  · rw [js_isc_wr h]
    dsimp only
    split <;> rfl
  · rfl
def js_fit (ty : FieldType) (v : js_V) : Bool := match v, ty with
  | .inl x, ty => jm_fit ty x
  | .inr k, .int => Nat.blt k 100
  | .inr k, .long => !(Nat.blt k 100)
  | _, _ => false
theorem js_fit_eq (ρ : js_R) {ty : FieldType} {v : js_V} (h : js_fit ty v = true) : jm_fit ty (js_v ρ v) = true := by
  unfold js_fit at h
  split at h
  · exact h
  · rename_i k
    rw [js_vi h]
    rfl
  · rename_i k
    have h1 : Nat.blt k 100 = false := by simpa using h
    unfold js_v
    dsimp only
    rw [h1]
    rfl
  · cases h
def js_rd (i : Instr) (j : Int32) (x : Nat × Nat × List (Nat × js_V)) : Option js_V := match i, x with
  | .iaload, (0, n, us) => if jm_in j n = true ∧ js_isk 0 (js_lk us (.int 0) j.toNatClampNeg) = true then some (js_lk us (.int 0) j.toNatClampNeg) else none
  | .baload, (2, n, us) => if jm_in j n = true ∧ js_isk 0 (js_lk us (.int 0) j.toNatClampNeg) = true then some (js_lk us (.int 0) j.toNatClampNeg) else none
  | .baload, (3, n, us) => if jm_in j n = true ∧ js_isk 0 (js_lk us (.int 0) j.toNatClampNeg) = true then some (js_lk us (.int 0) j.toNatClampNeg) else none
  | .laload, (1, n, us) => if jm_in j n = true ∧ js_isk 1 (js_lk us (.long 0) j.toNatClampNeg) = true then some (js_lk us (.long 0) j.toNatClampNeg) else none
  | _, _ => none
theorem js_rd_eq (ρ : js_R) {i : Instr} {j : Int32} {x : Nat × Nat × List (Nat × js_V)} {v : js_V} (h : js_rd i j x = some v) : jm_rd i j (js_c ρ (.inl x)) = some (js_v ρ v) := by
  unfold js_rd at h
  split at h
  · rename_i n us
    split at h
    · rename_i hk
      cases h
      show (if jm_in j n = true then some (Value.int (js_fi ρ us j.toNatClampNeg)) else none) = _
      rw [if_pos hk.1, js_fi_lk, js_int_eq (by rw [js_isk_eq]; exact hk.2)]
    · cases h
  · rename_i n us
    split at h
    · rename_i hk
      cases h
      show (if jm_in j n = true then some (Value.int (js_fi ρ us j.toNatClampNeg)) else none) = _
      rw [if_pos hk.1, js_fi_lk, js_int_eq (by rw [js_isk_eq]; exact hk.2)]
    · cases h
  · rename_i n us
    split at h
    · rename_i hk
      cases h
      show (if jm_in j n = true then some (Value.int (js_fi ρ us j.toNatClampNeg)) else none) = _
      rw [if_pos hk.1, js_fi_lk, js_int_eq (by rw [js_isk_eq]; exact hk.2)]
    · cases h
  · rename_i n us
    split at h
    · rename_i hk
      cases h
      show (if jm_in j n = true then some (Value.long (js_fl ρ us j.toNatClampNeg)) else none) = _
      rw [if_pos hk.1, js_fl_lk, js_lng_eq (by rw [js_isk_eq]; exact hk.2)]
    · cases h
  · cases h
def js_wr (A : js_A) (i : Instr) (v : js_V) (j : Int32) (x : Nat × Nat × List (Nat × js_V)) : Option (Nat × Nat × List (Nat × js_V)) := match i, v, x with
  | .iastore, v, (0, n, us) => if jm_in j n = true ∧ js_isk 0 v = true then some (0, n, (j.toNatClampNeg, v) :: us) else none
  | .bastore, .inl (.int z), (2, n, us) => if jm_in j n = true then some (2, n, (j.toNatClampNeg, .inl (.int (z &&& 1))) :: us) else none
  | .bastore, .inl (.int z), (3, n, us) => if jm_in j n = true then some (3, n, (j.toNatClampNeg, .inl (.int z.toInt8.toInt32)) :: us) else none
  | .bastore, .inr k, (3, n, us) => if jm_in j n = true ∧ Nat.blt k 100 = true then (match js_r1 A 3 k with
    | some w => some (3, n, (j.toNatClampNeg, w) :: us)
    | none => none) else none
  | .lastore, v, (1, n, us) => if jm_in j n = true ∧ js_isk 1 v = true then some (1, n, (j.toNatClampNeg, v) :: us) else none
  | _, _, _ => none
theorem js_wr_eq {ρ : js_R} {A : js_A} (hA : js_true ρ A) {i : Instr} {v : js_V} {j : Int32} {x x' : Nat × Nat × List (Nat × js_V)} (h : js_wr A i v j x = some x') : jm_wr i (js_v ρ v) j (js_c ρ (.inl x)) = some (js_c ρ (.inl x')) := by
  unfold js_wr at h
  split at h
  · rename_i n us
    split at h
    · rename_i hk
      cases h
      have e := js_int_eq (v := js_v ρ v) (by rw [js_isk_eq]; exact hk.2)
      show jm_wr .iastore (js_v ρ v) j (.inl (0, n, .inl (js_fi ρ us))) = some (.inl (0, n, .inl (upd (js_fi ρ us) j.toNatClampNeg (js_int (js_v ρ v)))))
      generalize js_v ρ v = w at e
      rw [← e]
      exact if_pos hk.1
    · cases h
  · rename_i z n us
    split at h
    · rename_i hk
      cases h
      show (if jm_in j n = true then some _ else none) = _
      rw [if_pos hk]
      rfl
    · cases h
  · rename_i z n us
    split at h
    · rename_i hk
      cases h
      show (if jm_in j n = true then some _ else none) = _
      rw [if_pos hk]
      rfl
    · cases h
  · rename_i k n us
    split at h
    · rename_i hk
      split at h
      · rename_i w hw
        cases h
        have h1 := js_r1_ok hA (by decide) hw
        rw [js_vi hk.2] at h1
        have h2 : js_v ρ w = .int (ρ.1 k).toInt8.toInt32 := (Option.some.inj h1).symm
        rw [js_vi hk.2]
        show (if jm_in j n = true then some ((Sum.inl (3, n, Sum.inl (upd (js_fi ρ us) j.toNatClampNeg (ρ.1 k).toInt8.toInt32))) : jm_c) else none) = some ((Sum.inl (3, n, Sum.inl (upd (js_fi ρ us) j.toNatClampNeg (js_int (js_v ρ w))))) : jm_c)
        rw [if_pos hk.1, h2]
        rfl
      · cases h
    · cases h
  · rename_i n us
    split at h
    · rename_i hk
      cases h
      have e := js_lng_eq (v := js_v ρ v) (by rw [js_isk_eq]; exact hk.2)
      show jm_wr .lastore (js_v ρ v) j (.inl (1, n, .inr (.inl (js_fl ρ us)))) = some (.inl (1, n, .inr (.inl (vp_updL (js_fl ρ us) j.toNatClampNeg (js_lng (js_v ρ v))))))
      generalize js_v ρ v = w at e
      rw [← e]
      exact if_pos hk.1
    · cases h
  · cases h
def js_ise (i : Instr) : Nat := match i with
  | .iaload => 1
  | .baload => 1
  | .laload => 1
  | .iastore => 2
  | .bastore => 2
  | .lastore => 2
  | _ => 0
def js_isia (i : Instr) : Bool := match i with
  | .iaload => true
  | _ => false
/-- the script, where it is known: an int, or a symbol, for each place -/
abbrev js_sc : Type := Option (List js_V)
/-- elements: read, written -/
def js_elem (L : js_sc) (A : js_A) (i : Instr) (st : List js_V) (D : js_S) : Option (List js_V × js_S) := match js_ise i, st with
  | 1, .inl (.int j) :: .inl (.ref a) :: r => (match D[a]? with
    | some (.inl x) => (match js_rd i j x with
      | some v => some (v :: r, D)
      | none => none)
    | some (.inr _) => none
    | none => (match L with
      | some l => if a = 1000000 ∧ js_isia i = true ∧ jm_in j l.length = true then (match l[j.toNatClampNeg]? with
        | some v => some (v :: r, D)
        | none => none) else none
      | none => none))
  | 2, v :: .inl (.int j) :: .inl (.ref a) :: r => (match D[a]? with
    | some (.inl x) => (match js_wr A i v j x with
      | some x' => some (r, D.set a (.inl x'))
      | none => none)
    | _ => none)
  | _, _ => none
def js_cell (L : js_sc) (A : js_A) (M : jm_M) (i : Instr) (len : Nat) (st : List js_V) (D : js_S) : Option (List js_V × js_S × Nat × Nat) := match i, len, st with
  | .getfield idx, 3, .inl (.ref a) :: r => (match jp_F (jm_q M) idx with
    | some f => (match D[a]? with
      | some (.inr o) => if o.1 = f.1 then (match o.2[f.2.1]? with
        | some v => some (v :: r, D, 0, 0)
        | none => none) else none
      | _ => none)
    | none => none)
  | .putfield idx, 3, v :: .inl (.ref a) :: r => (match jp_F (jm_q M) idx with
    | some f => if (f.2.2 = 0 ∨ (M.2.2.2.2.2.2 = 1 ∧ jm_q M = f.1)) ∧ js_fit (jp_ty f.1 f.2.1) v = true then (match D[a]? with
      | some (.inr o) => if o.1 = f.1 ∧ f.2.1 < o.2.length then some (r, D.set a (.inr (o.1, o.2.set f.2.1 v)), 0, 0) else none
      | _ => none) else none
    | none => none)
  | .arraylength, 1, .inl (.ref a) :: r => (match D[a]? with
    | some (.inl x) => if x.1 < 4 then some (.inl (.int (Int32.ofNat x.2.1)) :: r, D, 0, 0) else none
    | some (.inr _) => none
    | none => (match L with
      | some l => if a = 1000000 then some (.inl (.int (Int32.ofNat l.length)) :: r, D, 0, 0) else none
      | none => none))
  | .new idx, 3, r => (match jp_W (jm_q M) idx with
    | some ci => if D.length < jm_lim then some (.inl (.ref D.length) :: r, D ++ [.inr (ci, (jm_new (jp_N ci) (jp_ty ci)).map .inl)], 1, jp_N ci) else none
    | none => none)
  | .newarray a, 2, .inl (.int n) :: r => (match jm_nt a with
    | some t => if D.length < jm_lim ∧ ¬ n < 0 ∧ n.toNatClampNeg ≤ 1000000 then some (.inl (.ref D.length) :: r, D ++ [.inl (t, n.toNatClampNeg, [])], 1, n.toNatClampNeg) else none
    | none => none)
  | i, 1, st => (match js_elem L A i st D with
    | some q => some (q.1, q.2, 0, 0)
    | none => none)
  | _, _, _ => none
theorem js_ise1 {i : Instr} (h : js_ise i = 1) (X : jm_X) (M : jm_M) (j : Int32) (a : Nat) (r : List Value) (S : jm_S) : jm_cell X M i 1 (.int j :: .ref a :: r) S = (if a < S.1 then (match jm_rd i j (S.2 a) with
    | some v => some (v :: r, S, 0, 0)
    | none => none) else (match jm_sa X a with
    | some x => (match jm_rs i j x with
      | some v => some (v :: r, S, 0, 0)
      | none => none)
    | none => none)) := by
  cases i <;> first | rfl | cases h
theorem js_ise2 {i : Instr} (h : js_ise i = 2) (X : jm_X) (M : jm_M) (v : Value) (j : Int32) (a : Nat) (r : List Value) (S : jm_S) : jm_cell X M i 1 (v :: .int j :: .ref a :: r) S = (if a < S.1 then (match jm_wr i v j (S.2 a) with
    | some x => some (r, jm_up S a x, 0, 0)
    | none => none) else none) := by
  cases i <;> first | (cases v <;> rfl) | cases h
/-- the script, by symbols -/
def js_scr (ρ : js_R) (X : jm_X) (L : js_sc) : Prop := ∀ l, L = some l → X.1 = l.length ∧ ∀ j v, l[j]? = some v → js_v ρ v = .int (X.2 j)
theorem js_elem_eq {ρ : js_R} {X : jm_X} {L : js_sc} {A : js_A} (hA : js_true ρ A) (hX : js_scr ρ X L) (M : jm_M) {i : Instr} {st st' : List js_V} {D D' : js_S} (h : js_elem L A i st D = some (st', D')) : jm_cell X M i 1 (st.map (js_v ρ)) (js_abs ρ D) = some (st'.map (js_v ρ), js_abs ρ D', 0, 0) := by
  unfold js_elem at h
  split at h
  · rename_i j a r he
    show jm_cell X M i 1 (.int j :: .ref a :: r.map (js_v ρ)) (js_abs ρ D) = _
    rw [js_ise1 he]
    split at h
    · rename_i x hx
      obtain ⟨h1, h2⟩ := js_at ρ hx
      rw [if_pos h1, h2]
      split at h
      · rename_i v hv
        cases h
        rw [js_rd_eq ρ hv]
        rfl
      · cases h
    · cases h
    · rename_i hn
      split at h
      · rename_i l
        split at h
        · rename_i hk
          split at h
          · rename_i v hv
            cases h
            obtain ⟨rfl, h1, h2⟩ := hk
            have hnl : ¬ 1000000 < (js_abs ρ D).1 := by
              intro hlt
              have := List.getElem?_eq_none_iff.mp hn
              have h9 : (js_abs ρ D).1 = D.length := rfl
              omega
            rw [if_neg hnl]
            have hi : i = .iaload := by cases i <;> first | rfl | cases h1
            subst hi
            obtain ⟨x1, x2⟩ := hX l rfl
            show (match (if jm_in j X.1 = true then some (Value.int (X.2 j.toNatClampNeg)) else none) with | some v => some (v :: r.map (js_v ρ), js_abs ρ D, 0, 0) | none => none) = _
            rw [x1, if_pos h2, List.map_cons, x2 _ _ hv]
          · cases h
        · cases h
      · cases h
  · rename_i v j a r he
    show jm_cell X M i 1 (js_v ρ v :: .int j :: .ref a :: r.map (js_v ρ)) (js_abs ρ D) = _
    rw [js_ise2 he]
    split at h
    · rename_i x hx
      obtain ⟨h1, h2⟩ := js_at ρ hx
      rw [if_pos h1, h2]
      split at h
      · rename_i x' hw
        cases h
        rw [js_wr_eq hA hw, js_abs_set ρ _ h1]
      · cases h
    · cases h
  · cases h
theorem js_new_eq (ρ : js_R) (N : Nat) (ty : Nat → FieldType) : ((jm_new N ty).map (Sum.inl : Value → js_V)).map (js_v ρ) = jm_new N ty := by
  rw [List.map_map]
  exact List.map_id _
theorem js_cell_eq {ρ : js_R} {X : jm_X} {L : js_sc} {A : js_A} (hA : js_true ρ A) (hX : js_scr ρ X L) {M : jm_M} {i : Instr} {len : Nat} {st st' : List js_V} {D D' : js_S} {k n : Nat} (h : js_cell L A M i len st D = some (st', D', k, n)) : jm_cell X M i len (st.map (js_v ρ)) (js_abs ρ D) = some (st'.map (js_v ρ), js_abs ρ D', k, n) := by
  unfold js_cell at h
  split at h
  · rename_i idx a r
    split at h
    · rename_i f hf
      split at h
      · rename_i o ho
        obtain ⟨h1, h2⟩ := js_at ρ ho
        split at h
        · rename_i hc
          split at h
          · rename_i v hv
            cases h
            show (match jp_F (jm_q M) idx with
              | some f => if a < (js_abs ρ D).1 then (match (js_abs ρ D).2 a with
                | .inr o => if o.1 = f.1 then (match o.2[f.2.1]? with
                  | some v => some (v :: r.map (js_v ρ), js_abs ρ D, 0, 0)
                  | none => none) else none
                | .inl _ => none) else none
              | none => none) = _
            rw [hf]
            dsimp only
            rw [if_pos h1, h2]
            show (if o.1 = f.1 then (match (o.2.map (js_v ρ))[f.2.1]? with
                  | some v => some (v :: r.map (js_v ρ), js_abs ρ D, 0, 0)
                  | none => none) else none) = _
            rw [if_pos hc, List.getElem?_map, hv]
            rfl
          · cases h
        · cases h
      · cases h
    · cases h
  · rename_i idx v a r
    split at h
    · rename_i f hf
      split at h
      · rename_i hcnd
        split at h
        · rename_i o ho
          obtain ⟨h1, h2⟩ := js_at ρ ho
          split at h
          · rename_i hc
            cases h
            have e0 : jm_cell X M (.putfield idx) 3 (js_v ρ v :: .ref a :: st'.map (js_v ρ)) (js_abs ρ D) = (match jp_F (jm_q M) idx with
              | some f => if a < (js_abs ρ D).1 ∧ (f.2.2 = 0 ∨ (M.2.2.2.2.2.2 = 1 ∧ jm_q M = f.1)) ∧ jm_fit (jp_ty f.1 f.2.1) (js_v ρ v) = true then (match (js_abs ρ D).2 a with
                | .inr o => if o.1 = f.1 ∧ f.2.1 < o.2.length then some (st'.map (js_v ρ), jm_up (js_abs ρ D) a (.inr (o.1, o.2.set f.2.1 (js_v ρ v))), 0, 0) else none
                | .inl _ => none) else none
              | none => none) := rfl
            show jm_cell X M (.putfield idx) 3 (js_v ρ v :: .ref a :: st'.map (js_v ρ)) (js_abs ρ D) = _
            rw [e0, hf]
            dsimp only
            rw [if_pos ⟨h1, hcnd.1, js_fit_eq ρ hcnd.2⟩, h2]
            show (if o.1 = f.1 ∧ f.2.1 < (o.2.map (js_v ρ)).length then some (st'.map (js_v ρ), jm_up (js_abs ρ D) a (.inr (o.1, (o.2.map (js_v ρ)).set f.2.1 (js_v ρ v))), 0, 0) else none) = _
            rw [if_pos (by rw [List.length_map]; exact hc), js_abs_set ρ _ h1]
            show _ = some (st'.map (js_v ρ), jm_up (js_abs ρ D) a (.inr (o.1, (o.2.set f.2.1 v).map (js_v ρ))), 0, 0)
            rw [List.map_set]
          · cases h
        · cases h
      · cases h
    · cases h
  · rename_i a r
    have e0 : jm_cell X M .arraylength 1 (.ref a :: r.map (js_v ρ)) (js_abs ρ D) = (if a < (js_abs ρ D).1 then (match jm_ln ((js_abs ρ D).2 a) with
      | some z => some (.int z :: r.map (js_v ρ), js_abs ρ D, 0, 0)
      | none => none) else (match jm_sa X a with
      | some x => some (.int (Int32.ofNat x.2.1) :: r.map (js_v ρ), js_abs ρ D, 0, 0)
      | none => none)) := rfl
    show jm_cell X M .arraylength 1 (.ref a :: r.map (js_v ρ)) (js_abs ρ D) = _
    rw [e0]
    split at h
    · rename_i x hx
      obtain ⟨h1, h2⟩ := js_at ρ hx
      split at h
      · rename_i hc
        cases h
        rw [if_pos h1, h2]
        obtain ⟨t, m, us⟩ := x
        dsimp only at hc
        have e1 : jm_ln (js_c ρ (.inl (t, m, us))) = some (Int32.ofNat m) := by
          unfold js_c
          dsimp only
          split
          · rfl
          · exact if_pos hc
        rw [e1]
        rfl
      · cases h
    · cases h
    · rename_i hn
      split at h
      · rename_i l
        split at h
        · rename_i hk
          cases h
          subst hk
          have hnl : ¬ 1000000 < (js_abs ρ D).1 := by
            intro hlt
            have := List.getElem?_eq_none_iff.mp hn
            have h9 : (js_abs ρ D).1 = D.length := rfl
            omega
          rw [if_neg hnl, ← (hX l rfl).1]
          rfl
        · cases h
      · cases h
  · rename_i idx
    have e0 : jm_cell X M (.new idx) 3 (st.map (js_v ρ)) (js_abs ρ D) = (match jp_W (jm_q M) idx with
      | some ci => if (js_abs ρ D).1 < jm_lim then some (.ref (js_abs ρ D).1 :: st.map (js_v ρ), jm_add (js_abs ρ D) (.inr (ci, jm_new (jp_N ci) (jp_ty ci))), 1, jp_N ci) else none
      | none => none) := rfl
    rw [e0]
    split at h
    · rename_i ci hci
      split at h
      · rename_i hlt
        cases h
        rw [if_pos (show (js_abs ρ D).1 < jm_lim from hlt), js_abs_add]
        show _ = some (.ref D.length :: st.map (js_v ρ), jm_add (js_abs ρ D) (.inr (ci, ((jm_new (jp_N ci) (jp_ty ci)).map Sum.inl).map (js_v ρ))), 1, jp_N ci)
        rw [js_new_eq]
        rfl
      · cases h
    · cases h
  · rename_i a m r
    have e0 : jm_cell X M (.newarray a) 2 (.int m :: r.map (js_v ρ)) (js_abs ρ D) = (match jm_nt a with
      | some t => if (js_abs ρ D).1 < jm_lim ∧ ¬ m < 0 ∧ m.toNatClampNeg ≤ 1000000 then some (.ref (js_abs ρ D).1 :: r.map (js_v ρ), jm_add (js_abs ρ D) (jm_blank t m.toNatClampNeg), 1, m.toNatClampNeg) else none
      | none => none) := rfl
    show jm_cell X M (.newarray a) 2 (.int m :: r.map (js_v ρ)) (js_abs ρ D) = _
    rw [e0]
    split at h
    · rename_i t ht
      split at h
      · rename_i hlt
        cases h
        rw [if_pos (show (js_abs ρ D).1 < jm_lim ∧ ¬ m < 0 ∧ m.toNatClampNeg ≤ 1000000 from hlt), js_abs_add]
        have e1 : js_c ρ (.inl (t, m.toNatClampNeg, [])) = jm_blank t m.toNatClampNeg := rfl
        rw [e1]
        rfl
      · cases h
    · cases h
  · split at h
    · rename_i q hq
      cases h
      exact js_elem_eq hA hX M hq
    · cases h
  · cases h
def js_step (L : js_sc) (A : js_A) (M : jm_M) (i : Instr) (len pc : Nat) (lv : js_L) (st : List js_V) (D : js_S) : Option (Nat × js_L × List js_V × js_S × Nat × Nat) :=
  match jm_k i len with
  | some v => some (pc + len, lv, .inl v :: st, D, 0, 0)
  | none => match jm_ld i len with
  | some q => (match js_get lv q.1 with
    | some v => if js_isk q.2 v = true then some (pc + len, lv, v :: st, D, 0, 0) else none
    | none => none)
  | none => match jm_sr i len with
  | some q => (match st with
    | v :: r => if js_isk q.2 v = true ∧ q.1 + js_cat v ≤ M.2.2.1 then some (pc + len, if q.2 = 1 then js_set2 lv q.1 v else js_set1 lv q.1 v, r, D, 0, 0) else none
    | [] => none)
  | none => match js_isb i with
  | true => (match js_br A i len pc st with
    | some q => some (q.1, lv, q.2, D, 0, 0)
    | none => none)
  | false => match js_isc i with
  | true => (match js_cell L A M i len st D with
    | some q => some (pc + len, lv, q.1, q.2.1, q.2.2.1, q.2.2.2)
    | none => none)
  | false => match js_mis A M i len pc lv st with
  | some q => some (q.1, q.2.1, q.2.2, D, 0, 0)
  | none => none
theorem js_step_eq {ρ : js_R} {X : jm_X} {L : js_sc} {A : js_A} (hA : js_true ρ A) (hX : js_scr ρ X L) {M : jm_M} {i : Instr} {len pc pc' : Nat} {lv lv' : js_L} {st st' : List js_V} {D D' : js_S} {k n : Nat} (h : js_step L A M i len pc lv st D = some (pc', lv', st', D', k, n)) : jm_step X M i len pc (js_lv ρ lv) (st.map (js_v ρ)) (js_abs ρ D) = some (pc', js_lv ρ lv', st'.map (js_v ρ), js_abs ρ D', k, n) := by
  unfold js_step at h
  unfold jm_step
  split at h
  · rename_i v hv
    cases h
    rw [hv]
    rfl
  · rename_i hk
    rw [hk]
    dsimp only
    split at h
    · rename_i q hq
      rw [hq]
      dsimp only
      split at h
      · rename_i v hv
        rw [js_get_eq ρ hv]
        dsimp only
        split at h
        · rename_i hi
          cases h
          rw [js_isk_eq, if_pos hi]
          rfl
        · cases h
      · cases h
    · rename_i hld
      rw [hld]
      dsimp only
      split at h
      · rename_i q hq
        rw [hq]
        dsimp only
        split at h
        · rename_i v r
          split at h
          · rename_i hi
            cases h
            rw [List.map_cons]
            dsimp only
            rw [js_isk_eq, js_cat_eq, if_pos hi]
            by_cases hq1 : q.2 = 1
            · rw [if_pos hq1, if_pos hq1, js_set2_eq]
            · rw [if_neg hq1, if_neg hq1, js_set1_eq]
          · cases h
        · cases h
      · rename_i hsr
        rw [hsr]
        dsimp only
        split at h
        · split at h
          · rename_i q hq
            cases h
            rw [js_br_eq hA hq]
          · cases h
        · rename_i hb
          rw [js_isb_no hb]
          dsimp only
          split at h
          · split at h
            · rename_i q hq
              cases h
              rw [js_cell_eq hA hX hq]
            · cases h
          · rename_i hc
            rw [js_isc_no hc]
            dsimp only
            split at h
            · rename_i q hq
              cases h
              rw [js_mis_eq hA hq]
            · cases h
