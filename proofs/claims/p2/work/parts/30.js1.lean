/-! THE SYMBOLIC MACHINE, part 1: values (themselves, or a symbol: below 100 an int, else a long), locals, stores -/
abbrev js_R : Type := (Nat → Int32) × (Nat → Int64)
abbrev js_V : Type := Value ⊕ Nat
abbrev js_L : Type := List (Nat × js_V)
/-- a cell: an array (number of its type, length, what was written, the newest first) or an object (number of its class, fields) -/
abbrev js_C : Type := (Nat × Nat × List (Nat × js_V)) ⊕ (Nat × List js_V)
abbrev js_S : Type := List js_C
def js_v (ρ : js_R) (v : js_V) : Value := match v with
  | .inl x => x
  | .inr k => bif Nat.blt k 100 then .int (ρ.1 k) else .long (ρ.2 k)
def js_0 : js_R := (fun _ => 0, fun _ => 0)
def js_cat (v : js_V) : Nat := (js_v js_0 v).category
theorem js_cat_eq (ρ : js_R) (v : js_V) : (js_v ρ v).category = js_cat v := by
  cases v with
  | inl x => rfl
  | inr k =>
    unfold js_cat js_v
    dsimp only
    cases Nat.blt k 100 <;> rfl
def js_isk (q : Nat) (v : js_V) : Bool := jm_isk q (js_v js_0 v)
theorem js_isk_eq (ρ : js_R) (q : Nat) (v : js_V) : jm_isk q (js_v ρ v) = js_isk q v := by
  cases v with
  | inl x => rfl
  | inr k =>
    unfold js_isk js_v
    dsimp only
    cases Nat.blt k 100
    · cases q with
      | zero => rfl
      | succ q => cases q with
        | zero => rfl
        | succ q => cases q <;> rfl
    · cases q with
      | zero => rfl
      | succ q => cases q with
        | zero => rfl
        | succ q => cases q <;> rfl
theorem js_sum_eq (ρ : js_R) (st : List js_V) : ((st.map (js_v ρ)).map fun v => v.category).sum = (st.map js_cat).sum := by
  rw [List.map_map]
  congr 1
  apply List.map_congr_left
  intro v _
  exact js_cat_eq ρ v
def js_lv (ρ : js_R) (lv : js_L) : jm_L := lv.map fun q => (q.1, js_v ρ q.2)
def js_get (lv : js_L) (i : Nat) : Option js_V := match lv.find? (fun q => q.1 == i) with
  | some q => some q.2
  | none => none
theorem js_get_eq (ρ : js_R) {lv : js_L} {i : Nat} {v : js_V} (h : js_get lv i = some v) : jm_get (js_lv ρ lv) i = some (js_v ρ v) := by
  unfold js_get at h
  unfold jm_get js_lv
  rw [List.find?_map]
  cases hf : lv.find? (fun q => q.1 == i) with
  | none => rw [hf] at h; cases h
  | some q =>
    rw [hf] at h
    cases h
    have h2 : List.find? ((fun q : Nat × Value => q.1 == i) ∘ fun q : Nat × js_V => (q.1, js_v ρ q.2)) lv = some q := hf
    rw [h2]
    rfl
def js_set1 (lv : js_L) (i : Nat) (v : js_V) : js_L := (i, v) :: lv.filter (fun q => !(q.1 == i) && !(q.1 + 1 == i && js_cat q.2 == 2))
def js_set2 (lv : js_L) (i : Nat) (v : js_V) : js_L := (i, v) :: lv.filter (fun q => !(q.1 == i) && (!(q.1 == i + 1) && !(q.1 + 1 == i && js_cat q.2 == 2)))
theorem js_set1_eq (ρ : js_R) (lv : js_L) (i : Nat) (v : js_V) : jm_set1 (js_lv ρ lv) i (js_v ρ v) = js_lv ρ (js_set1 lv i v) := by
  unfold jm_set1 js_set1 js_lv
  rw [List.map_cons, List.filter_map]
  congr 2
  apply List.filter_congr
  intro q _
  simp [js_cat_eq]
theorem js_set2_eq (ρ : js_R) (lv : js_L) (i : Nat) (v : js_V) : jm_set2 (js_lv ρ lv) i (js_v ρ v) = js_lv ρ (js_set2 lv i v) := by
  unfold jm_set2 js_set2 js_lv
  rw [List.map_cons, List.filter_map]
  congr 2
  apply List.filter_congr
  intro q _
  simp [js_cat_eq]
def js_args : Nat → List js_V → js_L
  | _, [] => []
  | i, v :: vs => (i, v) :: js_args (if js_cat v = 2 then i + 2 else i + 1) vs
theorem js_args_eq (ρ : js_R) : ∀ (vs : List js_V) (i : Nat), lv_args i (vs.map (js_v ρ)) = js_lv ρ (js_args i vs) := by
  intro vs
  induction vs with
  | nil => intro i; rfl
  | cons v vs ih =>
    intro i
    show (i, js_v ρ v) :: lv_args (if (js_v ρ v).category = 2 then i + 2 else i + 1) (vs.map (js_v ρ)) = (i, js_v ρ v) :: js_lv ρ (js_args (if js_cat v = 2 then i + 2 else i + 1) vs)
    rw [js_cat_eq, ih]
theorem js_sl_len (ρ : js_R) (vs : List js_V) : (lg_sl (vs.map (js_v ρ))).length = (lg_sl (vs.map (js_v js_0))).length := by
  unfold lg_sl
  induction vs with
  | nil => rfl
  | cons v vs ih =>
    simp only [List.map_cons, List.flatMap_cons, List.length_append, js_cat_eq]
    rw [ih]
    congr 1
    split <;> rfl
/-! cells -/
def js_int (v : Value) : Int32 := match v with
  | .int x => x
  | _ => 0
def js_lng (v : Value) : Int64 := match v with
  | .long x => x
  | _ => 0
theorem js_int_eq {v : Value} (h : jm_isk 0 v = true) : .int (js_int v) = v := by
  cases v <;> first | rfl | cases h
theorem js_lng_eq {v : Value} (h : jm_isk 1 v = true) : .long (js_lng v) = v := by
  cases v <;> first | rfl | cases h
def js_fi (ρ : js_R) : List (Nat × js_V) → Nat → Int32
  | [] => fun _ => 0
  | q :: us => upd (js_fi ρ us) q.1 (js_int (js_v ρ q.2))
def js_fl (ρ : js_R) : List (Nat × js_V) → Nat → Int64
  | [] => fun _ => 0
  | q :: us => vp_updL (js_fl ρ us) q.1 (js_lng (js_v ρ q.2))
/-- what stands at a place -/
def js_lk : List (Nat × js_V) → Value → Nat → js_V
  | [], z, _ => .inl z
  | q :: us, z, j => bif Nat.beq j q.1 then q.2 else js_lk us z j
theorem js_fi_lk (ρ : js_R) : ∀ (us : List (Nat × js_V)) (j : Nat), js_fi ρ us j = js_int (js_v ρ (js_lk us (.int 0) j)) := by
  intro us
  induction us with
  | nil => intro j; rfl
  | cons q us ih =>
    intro j
    show (if j = q.1 then js_int (js_v ρ q.2) else js_fi ρ us j) = js_int (js_v ρ (bif Nat.beq j q.1 then q.2 else js_lk us (.int 0) j))
    by_cases h : j = q.1
    · rw [if_pos h, h, Nat.beq_refl]; rfl
    · rw [if_neg h, jm_bne h, ih]; rfl
theorem js_fl_lk (ρ : js_R) : ∀ (us : List (Nat × js_V)) (j : Nat), js_fl ρ us j = js_lng (js_v ρ (js_lk us (.long 0) j)) := by
  intro us
  induction us with
  | nil => intro j; rfl
  | cons q us ih =>
    intro j
    show (if j = q.1 then js_lng (js_v ρ q.2) else js_fl ρ us j) = js_lng (js_v ρ (bif Nat.beq j q.1 then q.2 else js_lk us (.long 0) j))
    by_cases h : j = q.1
    · rw [if_pos h, h, Nat.beq_refl]; rfl
    · rw [if_neg h, jm_bne h, ih]; rfl
def js_c (ρ : js_R) (x : js_C) : jm_c := match x with
  | .inl (t, n, us) => if t = 1 then .inl (1, n, .inr (.inl (js_fl ρ us))) else .inl (t, n, .inl (js_fi ρ us))
  | .inr (ci, fs) => .inr (ci, fs.map (js_v ρ))
def js_abs (ρ : js_R) (D : js_S) : jm_S := (D.length, fun k => match D[k]? with
  | some x => js_c ρ x
  | none => .inr (0, []))
theorem js_abs_set (ρ : js_R) {D : js_S} {a : Nat} (x : js_C) (h : a < D.length) : js_abs ρ (D.set a x) = jm_up (js_abs ρ D) a (js_c ρ x) := by
  unfold js_abs jm_up
  refine Prod.ext (by simp) ?_
  funext k
  show (match (D.set a x)[k]? with | some x => js_c ρ x | none => .inr (0, [])) = if k = a then js_c ρ x else (match D[k]? with | some x => js_c ρ x | none => .inr (0, []))
  by_cases hk : k = a
  · subst hk
    rw [if_pos rfl, List.getElem?_set_self h]
  · rw [if_neg hk, List.getElem?_set_ne (fun e => hk e.symm)]
theorem js_abs_add (ρ : js_R) (D : js_S) (x : js_C) : js_abs ρ (D ++ [x]) = jm_add (js_abs ρ D) (js_c ρ x) := by
  unfold js_abs jm_add
  refine Prod.ext (by simp) ?_
  funext k
  show (match (D ++ [x])[k]? with | some x => js_c ρ x | none => .inr (0, [])) = if k = D.length then js_c ρ x else (match D[k]? with | some x => js_c ρ x | none => .inr (0, []))
  by_cases hk : k = D.length
  · subst hk
    rw [if_pos rfl, List.getElem?_concat_length]
  · rw [if_neg hk]
    by_cases h2 : k < D.length
    · rw [List.getElem?_append_left h2]
    · have h3 : D.length < k := by omega
      rw [List.getElem?_eq_none (by simp; omega), List.getElem?_eq_none (by omega)]
theorem js_at (ρ : js_R) {D : js_S} {a : Nat} {x : js_C} (h : D[a]? = some x) : a < (js_abs ρ D).1 ∧ (js_abs ρ D).2 a = js_c ρ x := by
  refine ⟨(List.getElem?_eq_some_iff.mp h).1, ?_⟩
  show (match D[a]? with | some x => js_c ρ x | none => .inr (0, [])) = js_c ρ x
  rw [h]
