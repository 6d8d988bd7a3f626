/-! THE SYMBOLIC MACHINE, part 4: runs -/
def js_cellr (M : jm_M) (i : Instr) (len : Nat) (st : List js_V) (D : js_S) : Option (List js_V) := match i, len, st with
  | .getfield idx, 3, .inl (.ref a) :: r => (match jp_F (jm_q M) idx with
    | some f => (match D[a]? with
      | some (.inr o) => if o.1 = f.1 then (match o.2[f.2.1]? with
        | some v => some (v :: r)
        | none => none) else none
      | _ => none)
    | none => none)
  | i, 1, .inl (.int j) :: .inl (.ref a) :: r => if js_ise i = 1 then (match D[a]? with
    | some (.inl x) => (match js_rd i j x with
      | some v => some (v :: r)
      | none => none)
    | _ => none) else none
  | _, _, _ => none
theorem js_isr1 {i : Instr} (h : js_ise i = 1) (X : jm_X) (M : jm_M) (j : Int32) (a : Nat) (r : List Value) (S : jm_S) : jm_cellr X M i 1 (.int j :: .ref a :: r) S = (if a < S.1 then (match jm_rd i j (S.2 a) with
    | some v => some (v :: r)
    | none => none) else none) := by
  cases i <;> first | rfl | cases h
theorem js_isr_no {i : Instr} (h : js_isc i = false) (X : jm_X) (M : jm_M) (len : Nat) (st : List Value) (S : jm_S) : jm_cellr X M i len st S = none := by
  unfold jm_cellr
  split
  · cases h
  · rw [js_isc_rd h]
    dsimp only
    split <;> rfl
  · rfl
theorem js_cellr_eq (ρ : js_R) (X : jm_X) {M : jm_M} {i : Instr} {len : Nat} {st st' : List js_V} {D : js_S} (h : js_cellr M i len st D = some st') : jm_cellr X M i len (st.map (js_v ρ)) (js_abs ρ D) = some (st'.map (js_v ρ)) := by
  unfold js_cellr at h
  split at h
  · rename_i idx a r
    split at h
    · rename_i f hf
      split at h
      · rename_i o ho
        obtain ⟨h1, h2⟩ := js_at ρ ho
        split at h
        · rename_i hc
          split at h
          · rename_i v hv
            cases h
            show (match jp_F (jm_q M) idx with
              | some f => if a < (js_abs ρ D).1 then (match (js_abs ρ D).2 a with
                | .inr o => if o.1 = f.1 then (match o.2[f.2.1]? with
                  | some v => some (v :: r.map (js_v ρ))
                  | none => none) else none
                | .inl _ => none) else none
              | none => none) = _
            rw [hf]
            dsimp only
            rw [if_pos h1, h2]
            show (if o.1 = f.1 then (match (o.2.map (js_v ρ))[f.2.1]? with
                  | some v => some (v :: r.map (js_v ρ))
                  | none => none) else none) = _
            rw [if_pos hc, List.getElem?_map, hv]
            rfl
          · cases h
        · cases h
      · cases h
    · cases h
  · rename_i j a r
    split at h
    · rename_i he
      split at h
      · rename_i x hx
        obtain ⟨h1, h2⟩ := js_at ρ hx
        split at h
        · rename_i v hv
          cases h
          show jm_cellr X M i 1 (.int j :: .ref a :: r.map (js_v ρ)) (js_abs ρ D) = _
          rw [js_isr1 he, if_pos h1, h2, js_rd_eq ρ hv]
          rfl
        · cases h
      · cases h
    · cases h
  · cases h
def js_rst (A : js_A) (M : jm_M) (i : Instr) (len pc : Nat) (lv : js_L) (st : List js_V) (D : js_S) : Option (Nat × js_L × List js_V) :=
  match jm_k i len with
  | some v => some (pc + len, lv, .inl v :: st)
  | none => match jm_ld i len with
  | some q => (match js_get lv q.1 with
    | some v => if js_isk q.2 v = true then some (pc + len, lv, v :: st) else none
    | none => none)
  | none => match jm_sr i len with
  | some q => (match st with
    | v :: r => if js_isk q.2 v = true ∧ q.1 + js_cat v ≤ M.2.2.1 then some (pc + len, if q.2 = 1 then js_set2 lv q.1 v else js_set1 lv q.1 v, r) else none
    | [] => none)
  | none => match js_isb i with
  | true => (match js_br A i len pc st with
    | some q => some (q.1, lv, q.2)
    | none => none)
  | false => match js_isc i with
  | true => (match js_cellr M i len st D with
    | some q => some (pc + len, lv, q)
    | none => none)
  | false => js_mis A M i len pc lv st
theorem js_rst_eq {ρ : js_R} (X : jm_X) {A : js_A} (hA : js_true ρ A) {M : jm_M} {i : Instr} {len pc pc' : Nat} {lv lv' : js_L} {st st' : List js_V} {D : js_S} (h : js_rst A M i len pc lv st D = some (pc', lv', st')) : jm_rst X M i len pc (js_lv ρ lv) (st.map (js_v ρ)) (js_abs ρ D) = some (pc', js_lv ρ lv', st'.map (js_v ρ)) := by
  unfold js_rst at h
  unfold jm_rst
  split at h
  · rename_i v hv
    cases h
    rw [hv]
    rfl
  · rename_i hk
    rw [hk]
    dsimp only
    split at h
    · rename_i q hq
      rw [hq]
      dsimp only
      split at h
      · rename_i v hv
        rw [js_get_eq ρ hv]
        dsimp only
        split at h
        · rename_i hi
          cases h
          rw [js_isk_eq, if_pos hi]
          rfl
        · cases h
      · cases h
    · rename_i hld
      rw [hld]
      dsimp only
      split at h
      · rename_i q hq
        rw [hq]
        dsimp only
        split at h
        · rename_i v r
          split at h
          · rename_i hi
            cases h
            rw [List.map_cons]
            dsimp only
            rw [js_isk_eq, js_cat_eq, if_pos hi]
            by_cases hq1 : q.2 = 1
            · rw [if_pos hq1, if_pos hq1, js_set2_eq]
            · rw [if_neg hq1, if_neg hq1, js_set1_eq]
          · cases h
        · cases h
      · rename_i hsr
        rw [hsr]
        dsimp only
        split at h
        · split at h
          · rename_i q hq
            cases h
            rw [js_br_eq hA hq]
          · cases h
        · rename_i hb
          rw [js_isb_no hb]
          dsimp only
          split at h
          · split at h
            · rename_i q hq
              cases h
              rw [js_cellr_eq ρ X hq]
            · cases h
          · rename_i hc
            rw [js_isr_no hc]
            dsimp only
            rw [js_mis_eq hA h]
def js_ret (i : Instr) (len : Nat) (r : Option FieldType) (st : List js_V) : Option (Option js_V) := match st with
  | [] => (match jm_ret i len r [] with
    | some none => some none
    | _ => none)
  | [.inl v] => (match jm_ret i len r [v] with
    | some (some w) => some (some (.inl w))
    | _ => none)
  | _ => none
theorem js_ret_eq (ρ : js_R) {i : Instr} {len : Nat} {r : Option FieldType} {st : List js_V} {v : Option js_V} (h : js_ret i len r st = some v) : jm_ret i len r (st.map (js_v ρ)) = some (v.map (js_v ρ)) := by
  unfold js_ret at h
  split at h
  · split at h
    · rename_i he
      cases h
      exact he
    · cases h
  · split at h
    · rename_i w he
      cases h
      exact he
    · cases h
  · cases h
def js_obj (M : jm_M) (i : Instr) (len d : Nat) (st : List js_V) : Option (List js_V) := match i, len, st with
  | .invokespecial idx, 3, .inl (.ref _) :: r => (match jp_B (jm_q M) idx with
    | some _ => if 1 ≤ d ∧ (r.map js_cat).sum ≤ 8 then some r else none
    | none => none)
  | .invokestatic idx, 3, .inl (.int y) :: .inl (.int x) :: r => if 1 ≤ d ∧ (r.map js_cat).sum ≤ 8 then (match jp_max (jm_q M) idx with
    | some _ => some (.inl (.int (if x < y then y else x)) :: r)
    | none => match jp_min (jm_q M) idx with
      | some _ => some (.inl (.int (if y < x then y else x)) :: r)
      | none => none) else none
  | _, _, _ => none
theorem js_obj_eq (ρ : js_R) {M : jm_M} {i : Instr} {len d : Nat} {st st' : List js_V} (h : js_obj M i len d st = some st') : jm_obj M i len d (st.map (js_v ρ)) = some (st'.map (js_v ρ)) := by
  unfold js_obj at h
  split at h
  · rename_i idx a r
    split at h
    · rename_i u hu
      split at h
      · rename_i hc
        cases h
        show (match jp_B (jm_q M) idx with
          | some _ => if 1 ≤ d ∧ ((st'.map (js_v ρ)).map fun v : Value => v.category).sum ≤ 8 then some (st'.map (js_v ρ)) else none
          | none => none) = _
        rw [hu]
        dsimp only
        rw [js_sum_eq, if_pos hc]
      · cases h
    · cases h
  · rename_i idx y x r
    split at h
    · rename_i hc
      show (if 1 ≤ d ∧ ((r.map (js_v ρ)).map fun v : Value => v.category).sum ≤ 8 then (match jp_max (jm_q M) idx with
        | some _ => some (Value.int (if x < y then y else x) :: r.map (js_v ρ))
        | none => match jp_min (jm_q M) idx with
          | some _ => some (Value.int (if y < x then y else x) :: r.map (js_v ρ))
          | none => none) else none) = _
      rw [js_sum_eq, if_pos hc]
      split at h
      · cases h
        rfl
      · split at h
        · cases h
          rfl
        · cases h
    · cases h
  · cases h
def js_inv (M : jm_M) (i : Instr) (len : Nat) (st : List js_V) (D : js_S) : Option (jm_M × Nat × List js_V × List js_V) := match i, len with
  | .invokevirtual idx, 3 => (match jp_M (jm_q M) idx with
    | some (N, 0) => (match st.drop (jm_n N) with
      | .inl (.ref a) :: r => if jm_q N < jp_nobj ∧ (r.map js_cat).sum ≤ 8 ∧ (lg_sl ((.inl (.ref a) :: (st.take (jm_n N)).reverse).map (js_v js_0))).length ≤ N.2.2.1 then (match D[a]? with
        | some (.inr o) => if o.1 = jm_q N then some (N, 0, .inl (.ref a) :: (st.take (jm_n N)).reverse, r) else none
        | _ => none) else none
      | _ => none)
    | _ => none)
  | .invokestatic idx, 3 => (match jp_M (jm_q M) idx with
    | some (N, k) => if (k = 1 ∨ k = 3) ∧ jm_n N ≤ st.length ∧ ((st.drop (jm_n N)).map js_cat).sum ≤ 8 ∧ (lg_sl ((st.take (jm_n N)).reverse.map (js_v js_0))).length ≤ N.2.2.1 then some (N, k, (st.take (jm_n N)).reverse, st.drop (jm_n N)) else none
    | none => none)
  | .invokespecial idx, 3 => (match jp_M (jm_q M) idx with
    | some (N, k) => (match st.drop (jm_n N) with
      | .inl (.ref a) :: r => if (k = 2 ∨ k = 4) ∧ (r.map js_cat).sum ≤ 8 ∧ (lg_sl ((.inl (.ref a) :: (st.take (jm_n N)).reverse).map (js_v js_0))).length ≤ N.2.2.1 then some (N, k, .inl (.ref a) :: (st.take (jm_n N)).reverse, r) else none
      | _ => none)
    | none => none)
  | _, _ => none
theorem js_drop (ρ : js_R) (st : List js_V) (n : Nat) : (st.map (js_v ρ)).drop n = (st.drop n).map (js_v ρ) := by rw [List.map_drop]
theorem js_take (ρ : js_R) (st : List js_V) (n : Nat) : ((st.map (js_v ρ)).take n).reverse = ((st.take n).reverse).map (js_v ρ) := by rw [← List.map_take, List.map_reverse]
theorem js_inv_eq (ρ : js_R) {M N : jm_M} {i : Instr} {len f : Nat} {st as r : List js_V} {D : js_S} (h : js_inv M i len st D = some (N, f, as, r)) : jm_inv M i len (st.map (js_v ρ)) (js_abs ρ D) = some (N, f, as.map (js_v ρ), r.map (js_v ρ)) := by
  unfold js_inv at h
  split at h
  · rename_i idx
    split at h
    · rename_i N1 hN
      split at h
      · rename_i a r1 hd
        split at h
        · rename_i hc
          split at h
          · rename_i o ho
            obtain ⟨h1, h2⟩ := js_at ρ ho
            split at h
            · rename_i hcl
              cases h
              show (match jp_M (jm_q M) idx with
                | some (N, 0) => (match (st.map (js_v ρ)).drop (jm_n N) with
                  | .ref a :: r => if a < (js_abs ρ D).1 ∧ jm_q N < jp_nobj ∧ (r.map fun v : Value => v.category).sum ≤ 8 ∧ (lg_sl (.ref a :: ((st.map (js_v ρ)).take (jm_n N)).reverse)).length ≤ N.2.2.1 then (match (js_abs ρ D).2 a with
                    | .inr o => if o.1 = jm_q N then some (N, 0, Value.ref a :: ((st.map (js_v ρ)).take (jm_n N)).reverse, r) else none
                    | .inl _ => none) else none
                  | _ => none)
                | _ => none) = _
              rw [hN]
              show (match (st.map (js_v ρ)).drop (jm_n N) with
                  | .ref a :: r => if a < (js_abs ρ D).1 ∧ jm_q N < jp_nobj ∧ (r.map fun v : Value => v.category).sum ≤ 8 ∧ (lg_sl (.ref a :: ((st.map (js_v ρ)).take (jm_n N)).reverse)).length ≤ N.2.2.1 then (match (js_abs ρ D).2 a with
                    | .inr o => if o.1 = jm_q N then some (N, 0, Value.ref a :: ((st.map (js_v ρ)).take (jm_n N)).reverse, r) else none
                    | .inl _ => none) else none
                  | _ => none) = _
              rw [js_drop, hd, List.map_cons]
              have e3 : js_v ρ (.inl (.ref a)) = .ref a := rfl
              rw [e3]
              dsimp only
              have e4 := js_sl_len ρ (.inl (.ref a) :: (st.take (jm_n N)).reverse)
              rw [List.map_cons, e3, ← js_take] at e4
              rw [js_sum_eq, e4, if_pos ⟨h1, hc⟩, h2]
              show (if o.1 = jm_q N then some (N, 0, Value.ref a :: ((st.map (js_v ρ)).take (jm_n N)).reverse, r.map (js_v ρ)) else none) = _
              rw [if_pos hcl, js_take]
              rfl
            · cases h
          · cases h
        · cases h
      · cases h
    · cases h
  · rename_i idx
    split at h
    · rename_i N1 k1 hN
      split at h
      · rename_i hc
        cases h
        show (match jp_M (jm_q M) idx with
          | some (N, k) => if (k = 1 ∨ k = 3) ∧ jm_n N ≤ (st.map (js_v ρ)).length ∧ (((st.map (js_v ρ)).drop (jm_n N)).map fun v : Value => v.category).sum ≤ 8 ∧ (lg_sl ((st.map (js_v ρ)).take (jm_n N)).reverse).length ≤ N.2.2.1 then some (N, k, ((st.map (js_v ρ)).take (jm_n N)).reverse, (st.map (js_v ρ)).drop (jm_n N)) else none
          | none => none) = _
        rw [hN]
        dsimp only
        have e4 := js_sl_len ρ ((st.take (jm_n N)).reverse)
        rw [← js_take] at e4
        rw [List.length_map, js_drop, js_sum_eq, e4, if_pos hc, js_take]
      · cases h
    · cases h
  · rename_i idx
    split at h
    · rename_i N1 k1 hN
      split at h
      · rename_i a r1 hd
        split at h
        · rename_i hc
          cases h
          show (match jp_M (jm_q M) idx with
            | some (N, k) => (match (st.map (js_v ρ)).drop (jm_n N) with
              | .ref a :: r => if (k = 2 ∨ k = 4) ∧ (r.map fun v : Value => v.category).sum ≤ 8 ∧ (lg_sl (.ref a :: ((st.map (js_v ρ)).take (jm_n N)).reverse)).length ≤ N.2.2.1 then some (N, k, Value.ref a :: ((st.map (js_v ρ)).take (jm_n N)).reverse, r) else none
              | _ => none)
            | none => none) = _
          rw [hN]
          dsimp only
          rw [js_drop, hd, List.map_cons]
          have e3 : js_v ρ (.inl (.ref a)) = .ref a := rfl
          rw [e3]
          dsimp only
          have e4 := js_sl_len ρ (.inl (.ref a) :: (st.take (jm_n N)).reverse)
          rw [List.map_cons, e3, ← js_take] at e4
          rw [js_sum_eq, e4, if_pos hc, js_take]
          rfl
        · cases h
      · cases h
    · cases h
  · cases h
def js_winv (M : jm_M) (i : Instr) (len : Nat) (st : List js_V) : Option ((jm_M × jm_Hh) × List js_V × List js_V) := match i, len with
  | .invokestatic idx, 3 => if jm_q M = 13 then (match jp_V idx with
    | some N => if jm_n N.1 ≤ st.length ∧ ((st.drop (jm_n N.1)).map js_cat).sum ≤ 8 ∧ (lg_sl ((st.take (jm_n N.1)).reverse.map (js_v js_0))).length ≤ N.1.2.2.1 then some (N, (st.take (jm_n N.1)).reverse, st.drop (jm_n N.1)) else none
    | none => none) else none
  | _, _ => none
theorem js_winv_eq (ρ : js_R) {M : jm_M} {N : jm_M × jm_Hh} {i : Instr} {len : Nat} {st as r : List js_V} (h : js_winv M i len st = some (N, as, r)) : jm_winv M i len (st.map (js_v ρ)) = some (N, as.map (js_v ρ), r.map (js_v ρ)) := by
  unfold js_winv at h
  split at h
  · rename_i idx
    split at h
    · rename_i hq
      split at h
      · rename_i N1 hN
        split at h
        · rename_i hc
          cases h
          show (if jm_q M = 13 then (match jp_V idx with
            | some N => if jm_n N.1 ≤ (st.map (js_v ρ)).length ∧ (((st.map (js_v ρ)).drop (jm_n N.1)).map fun v : Value => v.category).sum ≤ 8 ∧ (lg_sl ((st.map (js_v ρ)).take (jm_n N.1)).reverse).length ≤ N.1.2.2.1 then some (N, ((st.map (js_v ρ)).take (jm_n N.1)).reverse, (st.map (js_v ρ)).drop (jm_n N.1)) else none
            | none => none) else none) = _
          rw [if_pos hq, hN]
          dsimp only
          have e4 := js_sl_len ρ ((st.take (jm_n N.1)).reverse)
          rw [← js_take] at e4
          rw [List.length_map, js_drop, js_sum_eq, e4, if_pos hc, js_take]
        · cases h
      · cases h
    · cases h
  · cases h
