/-! THE SYMBOLIC MACHINE, part 2: a step. What is known of symbols stands in two lists: comparisons of a symbol with a constant, and operations on symbols -/
abbrev js_A : Type := List (Nat × Nat × Int × Bool) × List (Nat × Nat × Int × js_V)
def js_qn (q : ClassFile.Cond) : Nat := match q with
  | .eq => 0
  | .ne => 1
  | .lt => 2
  | .ge => 3
  | .gt => 4
  | .le => 5
def js_oc (i : Instr) : Nat := match i with
  | .i2l => 1
  | .l2i => 2
  | .i2b => 3
  | .iand => 4
  | .land => 5
  | .lshl => 6
  | .lshr => 7
  | .lushr => 8
  | .lor => 9
  | _ => 0
def js_op (o : Nat) : Instr := match o with
  | 1 => .i2l
  | 2 => .l2i
  | 3 => .i2b
  | 4 => .iand
  | 5 => .land
  | 6 => .lshl
  | 7 => .lshr
  | 8 => .lushr
  | _ => .lor
theorem js_oc_op {i : Instr} (h : js_oc i ≠ 0) : js_op (js_oc i) = i := by
  cases i <;> first | rfl | exact absurd rfl h
/-- two values to one -/
def js_bin (i : Instr) (x y : Value) : Option Value := match x, y with
  | .int x, .int y => (match jm_ib i x y with
    | some z => some (.int z)
    | none => none)
  | .long x, .long y => (match i with
    | .lcmp => some (.int (lg_cmp x y))
    | _ => match jm_lb i x y with
      | some z => some (.long z)
      | none => none)
  | .long x, .int y => (match jm_ls i x y with
    | some z => some (.long z)
    | none => none)
  | _, _ => none
theorem js_bin_al {i : Instr} {x y z : Value} (h : js_bin i x y = some z) (r : List Value) : jm_al i (y :: x :: r) = some (z :: r) := by
  unfold js_bin at h
  split at h
  · rename_i x y
    split at h
    · rename_i z' hz
      cases h
      show (match jm_ib i x y with | some z => some (Value.int z :: r) | none => _) = _
      rw [hz]
    · cases h
  · rename_i x y
    split at h
    · cases h; rfl
    · rename_i hne
      split at h
      · rename_i z' hz
        cases h
        have : jm_al i (.long y :: .long x :: r) = (match jm_lb i x y with | some z => some (.long z :: r) | none => match jm_un i (.long y) with | some z => some (z :: .long x :: r) | none => none) := by
          cases i <;> first | rfl | exact absurd rfl hne
        rw [this, hz]
      · cases h
  · rename_i x y
    split at h
    · rename_i z' hz
      cases h
      show (match jm_ls i x y with | some z => some (Value.long z :: r) | none => _) = _
      rw [hz]
    · cases h
  · cases h
def js_isu (i : Instr) : Bool := match i with
  | .i2l => true
  | .l2i => true
  | .i2b => true
  | .ineg => true
  | .lneg => true
  | .i2s => true
  | .i2c => true
  | _ => false
theorem js_un_al {i : Instr} {y z : Value} (hu : js_isu i = true) (h : jm_un i y = some z) (r : List Value) : jm_al i (y :: r) = some (z :: r) := by
  have hb : ∀ a b : Int32, jm_ib i a b = none := by intro a b; cases i <;> first | rfl | cases hu
  have hl : ∀ a b : Int64, jm_lb i a b = none := by intro a b; cases i <;> first | rfl | cases hu
  have hs : ∀ (a : Int64) (b : Int32), jm_ls i a b = none := by intro a b; cases i <;> first | rfl | cases hu
  have hc : i ≠ .lcmp := by intro e; subst e; cases hu
  unfold jm_al
  split
  · rename_i e; cases e; rw [hb]; dsimp only; rw [h]
  · rename_i e; cases e
    split
    · exact absurd rfl hc
    · rw [hl]; dsimp only; rw [h]
  · rename_i e; cases e; rw [hs]; dsimp only; rw [h]
  · rename_i e; cases e; rw [h]
  · rename_i e; cases e
def js_iss (i : Instr) : Bool := match i with
  | .dup => true
  | .pop => true
  | .dup_x1 => true
  | .dup_x2 => true
  | .dup2 => true
  | .pop2 => true
  | _ => false
theorem js_iss_al {i : Instr} (hu : js_iss i = true) (st : List Value) : jm_al i st = none := by
  have hb : ∀ a b : Int32, jm_ib i a b = none := by intro a b; cases i <;> first | rfl | cases hu
  have hl : ∀ a b : Int64, jm_lb i a b = none := by intro a b; cases i <;> first | rfl | cases hu
  have hs : ∀ (a : Int64) (b : Int32), jm_ls i a b = none := by intro a b; cases i <;> first | rfl | cases hu
  have hn : ∀ a : Value, jm_un i a = none := by intro a; cases i <;> first | rfl | cases hu
  have hc : i ≠ .lcmp := by intro e; subst e; cases hu
  unfold jm_al
  split
  · rw [hb]; dsimp only; rw [hn]
  · split
    · exact absurd rfl hc
    · rw [hl]; dsimp only; rw [hn]
  · rw [hs]; dsimp only; rw [hn]
  · rw [hn]
  · rfl
/-- the constant of a rule -/
def js_yv (ρ : js_R) (o : Nat) (c : Int) : Value := if o = 5 then .long (Int64.ofInt c) else if o = 9 then js_v ρ (.inr c.toNat) else .int (Int32.ofInt c)
def js_fact (ρ : js_R) (r : Nat × Nat × Int × js_V) : Prop :=
  if r.1 ≤ 3 then jm_un (js_op r.1) (js_v ρ (.inr r.2.1)) = some (js_v ρ r.2.2.2) else js_bin (js_op r.1) (js_v ρ (.inr r.2.1)) (js_yv ρ r.1 r.2.2.1) = some (js_v ρ r.2.2.2)
def js_true (ρ : js_R) (A : js_A) : Prop :=
  (∀ r ∈ A.1, ∀ q, js_qn q = r.1 → jm_cc q (ρ.1 r.2.1) (Int32.ofInt r.2.2.1) = r.2.2.2) ∧ ∀ r ∈ A.2, js_fact ρ r
def js_cmp (A : js_A) (q : ClassFile.Cond) (k : Nat) (c : Int32) : Option Bool := match A.1.find? (fun r => Nat.beq r.1 (js_qn q) && (Nat.beq r.2.1 k && decide (Int32.ofInt r.2.2.1 = c))) with
  | some r => some r.2.2.2
  | none => none
def js_r1 (A : js_A) (o k : Nat) : Option js_V := match A.2.find? (fun r => Nat.beq r.1 o && Nat.beq r.2.1 k) with
  | some r => some r.2.2.2
  | none => none
def js_r2 (A : js_A) (o k : Nat) (y : Value) : Option js_V := match A.2.find? (fun r => Nat.beq r.1 o && (Nat.beq r.2.1 k && decide (js_yv js_0 o r.2.2.1 = y))) with
  | some r => some r.2.2.2
  | none => none
def js_r3 (A : js_A) (k1 k2 : Nat) : Option js_V := match A.2.find? (fun r => Nat.beq r.1 9 && (Nat.beq r.2.1 k1 && decide (r.2.2.1 = (k2 : Int)))) with
  | some r => some r.2.2.2
  | none => none
theorem js_cmp_ok {ρ : js_R} {A : js_A} (hA : js_true ρ A) {q : ClassFile.Cond} {k : Nat} {c : Int32} {b : Bool} (h : js_cmp A q k c = some b) : jm_cc q (ρ.1 k) c = b := by
  unfold js_cmp at h
  split at h
  · rename_i r hr
    cases h
    have h1 := List.find?_some hr
    have h2 := hA.1 r (List.mem_of_find?_eq_some hr)
    simp only [Bool.and_eq_true, decide_eq_true_eq] at h1
    have e1 := Nat.eq_of_beq_eq_true h1.1
    have e2 := Nat.eq_of_beq_eq_true h1.2.1
    have e3 := h1.2.2
    have h3 := h2 q e1.symm
    rw [e2, e3] at h3
    exact h3
  · cases h
theorem js_cz_cc (q : ClassFile.Cond) (x : Int32) : jm_cz q x = jm_cc q x 0 := by cases q <;> rfl
theorem js_r1_ok {ρ : js_R} {A : js_A} (hA : js_true ρ A) {o k : Nat} {z : js_V} (ho : o ≤ 3) (h : js_r1 A o k = some z) : jm_un (js_op o) (js_v ρ (.inr k)) = some (js_v ρ z) := by
  unfold js_r1 at h
  split at h
  · rename_i r hr
    cases h
    have h1 := List.find?_some hr
    have h2 := hA.2 r (List.mem_of_find?_eq_some hr)
    simp only [Bool.and_eq_true] at h1
    have e1 := Nat.eq_of_beq_eq_true h1.1
    have e2 := Nat.eq_of_beq_eq_true h1.2
    unfold js_fact at h2
    rw [e1, e2, if_pos ho] at h2
    exact h2
  · cases h
theorem js_r2_ok {ρ : js_R} {A : js_A} (hA : js_true ρ A) {o k : Nat} {y : Value} {z : js_V} (ho : ¬ o ≤ 3) (h9 : o ≠ 9) (h : js_r2 A o k y = some z) : js_bin (js_op o) (js_v ρ (.inr k)) y = some (js_v ρ z) := by
  unfold js_r2 at h
  split at h
  · rename_i r hr
    cases h
    have h1 := List.find?_some hr
    have h2 := hA.2 r (List.mem_of_find?_eq_some hr)
    simp only [Bool.and_eq_true, decide_eq_true_eq] at h1
    have e1 := Nat.eq_of_beq_eq_true h1.1
    have e2 := Nat.eq_of_beq_eq_true h1.2.1
    have e3 := h1.2.2
    unfold js_fact at h2
    rw [e1, e2, if_neg ho] at h2
    have e4 : js_yv ρ o r.2.2.1 = js_yv js_0 o r.2.2.1 := by
      unfold js_yv
      rw [if_neg h9, if_neg h9]
    rw [e4, e3] at h2
    exact h2
  · cases h
theorem js_r3_ok {ρ : js_R} {A : js_A} (hA : js_true ρ A) {k1 k2 : Nat} {z : js_V} (h : js_r3 A k1 k2 = some z) : js_bin .lor (js_v ρ (.inr k1)) (js_v ρ (.inr k2)) = some (js_v ρ z) := by
  unfold js_r3 at h
  split at h
  · rename_i r hr
    cases h
    have h1 := List.find?_some hr
    have h2 := hA.2 r (List.mem_of_find?_eq_some hr)
    simp only [Bool.and_eq_true, decide_eq_true_eq] at h1
    have e1 := Nat.eq_of_beq_eq_true h1.1
    have e2 := Nat.eq_of_beq_eq_true h1.2.1
    have e3 := h1.2.2
    unfold js_fact at h2
    rw [e1, e2, e3, if_neg (by decide)] at h2
    exact h2
  · cases h
def js_al (A : js_A) (i : Instr) (st : List js_V) : Option (List js_V) :=
  if js_isu i = true then (match st with
    | .inl y :: r => (match jm_un i y with
      | some z => some (.inl z :: r)
      | none => none)
    | .inr k :: r => if js_oc i ≠ 0 ∧ js_oc i ≤ 3 then (match js_r1 A (js_oc i) k with
      | some z => some (z :: r)
      | none => none) else none
    | [] => none)
  else (match st with
    | .inl y :: .inl x :: r => (match js_bin i x y with
      | some z => some (.inl z :: r)
      | none => none)
    | .inl y :: .inr k :: r => if ¬ js_oc i ≤ 3 ∧ js_oc i ≠ 9 then (match js_r2 A (js_oc i) k y with
      | some z => some (z :: r)
      | none => none) else none
    | .inr y :: .inr x :: r => if js_oc i = 9 then (match js_r3 A x y with
      | some z => some (z :: r)
      | none => none) else none
    | _ => none)
theorem js_al_eq {ρ : js_R} {A : js_A} (hA : js_true ρ A) {i : Instr} {st st' : List js_V} (h : js_al A i st = some st') : jm_al i (st.map (js_v ρ)) = some (st'.map (js_v ρ)) := by
  unfold js_al at h
  split at h
  · rename_i hu
    split at h
    · rename_i y r
      split at h
      · rename_i z hz
        cases h
        exact js_un_al hu hz _
      · cases h
    · rename_i k r
      split at h
      · rename_i ho
        split at h
        · rename_i z hz
          cases h
          have h1 := js_r1_ok hA ho.2 hz
          rw [js_oc_op ho.1] at h1
          exact js_un_al hu h1 _
        · cases h
      · cases h
    · cases h
  · split at h
    · rename_i y x r
      split at h
      · rename_i z hz
        cases h
        exact js_bin_al hz _
      · cases h
    · rename_i y k r
      split at h
      · rename_i ho
        split at h
        · rename_i z hz
          cases h
          have h1 := js_r2_ok hA ho.1 ho.2 hz
          rw [js_oc_op (fun e => ho.1 (by rw [e]; decide))] at h1
          exact js_bin_al h1 _
        · cases h
      · cases h
    · rename_i y x r
      split at h
      · rename_i ho
        split at h
        · rename_i z hz
          cases h
          have h1 := js_r3_ok hA hz
          have h2 : i = .lor := by
            rw [← js_oc_op (i := i) (by rw [ho]; decide), ho]
            rfl
          rw [h2]
          exact js_bin_al h1 _
        · cases h
      · cases h
    · cases h
def js_sk (i : Instr) (st : List js_V) : Option (List js_V) := match i, st with
  | .dup, a :: r => if js_cat a = 1 then some (a :: a :: r) else none
  | .pop, a :: r => if js_cat a = 1 then some r else none
  | .dup_x1, a :: b :: r => if js_cat a = 1 ∧ js_cat b = 1 then some (a :: b :: a :: r) else none
  | .dup_x2, a :: b :: d :: r => if js_cat a = 1 ∧ js_cat b = 1 ∧ js_cat d = 1 then some (a :: b :: d :: a :: r) else none
  | .dup2, a :: b :: r => if js_cat a = 1 ∧ js_cat b = 1 then some (a :: b :: a :: b :: r) else none
  | .pop2, a :: r => if js_cat a = 2 then some r else none
  | _, _ => none
theorem js_sk_eq (ρ : js_R) {i : Instr} {st st' : List js_V} (h : js_sk i st = some st') : js_iss i = true ∧ jm_sk i (st.map (js_v ρ)) = some (st'.map (js_v ρ)) := by
  unfold js_sk at h
  split at h
  · rename_i a r
    split at h
    · rename_i hc
      cases h
      refine ⟨rfl, ?_⟩
      show (if (js_v ρ a).category = 1 then _ else _) = _
      rw [js_cat_eq, if_pos hc]
      rfl
    · cases h
  · rename_i a r
    split at h
    · rename_i hc
      cases h
      refine ⟨rfl, ?_⟩
      show (if (js_v ρ a).category = 1 then _ else _) = _
      rw [js_cat_eq, if_pos hc]
    · cases h
  · rename_i a b r
    split at h
    · rename_i hc
      cases h
      refine ⟨rfl, ?_⟩
      show (if (js_v ρ a).category = 1 ∧ (js_v ρ b).category = 1 then _ else _) = _
      rw [js_cat_eq, js_cat_eq, if_pos hc]
      rfl
    · cases h
  · rename_i a b d r
    split at h
    · rename_i hc
      cases h
      refine ⟨rfl, ?_⟩
      show (if (js_v ρ a).category = 1 ∧ (js_v ρ b).category = 1 ∧ (js_v ρ d).category = 1 then _ else _) = _
      rw [js_cat_eq, js_cat_eq, js_cat_eq, if_pos hc]
      rfl
    · cases h
  · rename_i a b r
    split at h
    · rename_i hc
      cases h
      refine ⟨rfl, ?_⟩
      show (if (js_v ρ a).category = 2 then _ else (if (js_v ρ a).category = 1 ∧ (js_v ρ b).category = 1 then _ else _)) = _
      rw [js_cat_eq, js_cat_eq, if_neg (by omega), if_pos hc]
      rfl
    · cases h
  · rename_i a r
    split at h
    · rename_i hc
      cases h
      refine ⟨rfl, ?_⟩
      show (if (js_v ρ a).category = 2 then _ else _) = _
      rw [js_cat_eq, if_pos hc]
    · cases h
  · cases h
def js_mis (A : js_A) (M : jm_M) (i : Instr) (len pc : Nat) (lv : js_L) (st : List js_V) : Option (Nat × js_L × List js_V) := match i, len with
  | .iinc n z, 3 => (match js_get lv n with
    | some (.inl (.int x)) => if n < M.2.2.1 then some (pc + 3, js_set1 lv n (.inl (.int (x + Int32.ofInt z))), st) else none
    | _ => none)
  | .ldc idx, 2 => (match jp_K (jm_q M) idx with
    | some (.int x) => some (pc + 2, lv, .inl (.int x) :: st)
    | _ => none)
  | .ldc_w idx, 3 => (match jp_K (jm_q M) idx with
    | some (.int x) => some (pc + 3, lv, .inl (.int x) :: st)
    | _ => none)
  | .ldc2_w idx, 3 => (match jp_K (jm_q M) idx with
    | some (.long x) => some (pc + 3, lv, .inl (.long x) :: st)
    | _ => none)
  | i, 1 => if js_iss i = true then (match js_sk i st with
    | some st' => some (pc + 1, lv, st')
    | none => none) else (match js_al A i st with
    | some st' => some (pc + 1, lv, st')
    | none => none)
  | _, _ => none
theorem js_mis1 (M : jm_M) (i : Instr) (pc : Nat) (lv : jm_L) (st : List Value) : jm_mis M i 1 pc lv st = (match jm_al i st with
    | some st' => some (pc + 1, lv, st')
    | none => match jm_sk i st with
      | some st' => some (pc + 1, lv, st')
      | none => none) := by cases i <;> rfl
theorem js_mis_eq {ρ : js_R} {A : js_A} (hA : js_true ρ A) {M : jm_M} {i : Instr} {len pc pc' : Nat} {lv lv' : js_L} {st st' : List js_V} (h : js_mis A M i len pc lv st = some (pc', lv', st')) : jm_mis M i len pc (js_lv ρ lv) (st.map (js_v ρ)) = some (pc', js_lv ρ lv', st'.map (js_v ρ)) := by
  unfold js_mis at h
  split at h
  · rename_i n z
    split at h
    · rename_i x hx
      split at h
      · rename_i hn
        cases h
        show (match jm_get (js_lv ρ lv) n with | some (.int x) => if n < M.2.2.1 then some (pc + 3, jm_set1 (js_lv ρ lv) n (.int (x + Int32.ofInt z)), st.map (js_v ρ)) else none | _ => none) = _
        rw [js_get_eq ρ hx]
        show (if n < M.2.2.1 then some (pc + 3, jm_set1 (js_lv ρ lv) n (.int (x + Int32.ofInt z)), st.map (js_v ρ)) else none) = _
        rw [if_pos hn, ← js_set1_eq]
        rfl
      · cases h
    · cases h
  · rename_i idx
    split at h
    · rename_i x hx
      cases h
      show (match jp_K (jm_q M) idx with | some (.int x) => some (pc + 2, js_lv ρ lv, Value.int x :: st.map (js_v ρ)) | _ => none) = _
      rw [hx]
      rfl
    · cases h
  · rename_i idx
    split at h
    · rename_i x hx
      cases h
      show (match jp_K (jm_q M) idx with | some (.int x) => some (pc + 3, js_lv ρ lv, Value.int x :: st.map (js_v ρ)) | _ => none) = _
      rw [hx]
      rfl
    · cases h
  · rename_i idx
    split at h
    · rename_i x hx
      cases h
      show (match jp_K (jm_q M) idx with | some (.long x) => some (pc + 3, js_lv ρ lv, Value.long x :: st.map (js_v ρ)) | _ => none) = _
      rw [hx]
      rfl
    · cases h
  · split at h
    · rename_i hi
      split at h
      · rename_i st1 hs
        cases h
        obtain ⟨-, h2⟩ := js_sk_eq ρ hs
        have h1 := js_iss_al hi (st.map (js_v ρ))
        rw [js_mis1, h1]
        dsimp only
        rw [h2]
      · cases h
    · split at h
      · rename_i st1 hs
        cases h
        have h2 := js_al_eq hA hs
        rw [js_mis1, h2]
      · cases h
  · cases h
