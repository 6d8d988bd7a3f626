/-! THE PURE MACHINE, part 7: a run -/
/-- how a method ends: 0 it returned (what), or 1 + the number of an exception's class; the store; cells and slots that came -/
abbrev jm_O : Type := Nat × Option Value × jm_S × Nat × Nat
def jm_ret (i : Instr) (len : Nat) (r : Option FieldType) (st : List Value) : Option (Option Value) := match i, len, r, st with
  | .ireturn, 1, some .int, [.int x] => some (some (.int x))
  | .ireturn, 1, some .boolean, [.int x] => if x = 0 ∨ x = 1 then some (some (.int x)) else none
  | .lreturn, 1, some .long, [.long x] => some (some (.long x))
  | .return_, 1, none, [] => some none
  | _, _, _, _ => none
theorem jm_ret_st {i : Instr} {len : Nat} {r : Option FieldType} {st : List Value} {v : Option Value} (h : jm_ret i len r st = some v) : st = v.toList := by
  unfold jm_ret at h
  split at h
  · cases h; rfl
  · split at h
    · cases h; rfl
    · cases h
  · cases h; rfl
  · cases h; rfl
  · cases h
/-- a call: the method, the form of the call, the arguments (this among them), what is left on the stack -/
def jm_inv (M : jm_M) (i : Instr) (len : Nat) (st : List Value) (S : jm_S) : Option (jm_M × Nat × List Value × List Value) := match i, len with
  | .invokevirtual idx, 3 => (match jp_M (jm_q M) idx with
    | some (N, 0) => (match st.drop (jm_n N) with
      | .ref a :: r => if a < S.1 ∧ jm_q N < jp_nobj ∧ (r.map fun v => v.category).sum ≤ 8 ∧ (lg_sl (.ref a :: (st.take (jm_n N)).reverse)).length ≤ N.2.2.1 then (match S.2 a with
        | .inr o => if o.1 = jm_q N then some (N, 0, .ref a :: (st.take (jm_n N)).reverse, r) else none
        | .inl _ => none) else none
      | _ => none)
    | _ => none)
  | .invokestatic idx, 3 => (match jp_M (jm_q M) idx with
    | some (N, k) => if (k = 1 ∨ k = 3) ∧ jm_n N ≤ st.length ∧ ((st.drop (jm_n N)).map fun v => v.category).sum ≤ 8 ∧ (lg_sl (st.take (jm_n N)).reverse).length ≤ N.2.2.1 then some (N, k, (st.take (jm_n N)).reverse, st.drop (jm_n N)) else none
    | none => none)
  | .invokespecial idx, 3 => (match jp_M (jm_q M) idx with
    | some (N, k) => (match st.drop (jm_n N) with
      | .ref a :: r => if (k = 2 ∨ k = 4) ∧ (r.map fun v => v.category).sum ≤ 8 ∧ (lg_sl (.ref a :: (st.take (jm_n N)).reverse)).length ≤ N.2.2.1 then some (N, k, .ref a :: (st.take (jm_n N)).reverse, r) else none
      | _ => none)
    | none => none)
  | _, _ => none
/-- Object.<init>, Math.max, Math.min -/
def jm_obj (M : jm_M) (i : Instr) (len d : Nat) (st : List Value) : Option (List Value) := match i, len, st with
  | .invokespecial idx, 3, .ref _ :: r => (match jp_B (jm_q M) idx with
    | some _ => if 1 ≤ d ∧ (r.map fun v => v.category).sum ≤ 8 then some r else none
    | none => none)
  | .invokestatic idx, 3, .int y :: .int x :: r => if 1 ≤ d ∧ (r.map fun v => v.category).sum ≤ 8 then (match jp_max (jm_q M) idx with
    | some _ => some (.int (if x < y then y else x) :: r)
    | none => match jp_min (jm_q M) idx with
      | some _ => some (.int (if y < x then y else x) :: r)
      | none => none) else none
  | _, _, _ => none
/-- System.arraycopy, of arrays of ints or of longs -/
def jm_cp (M : jm_M) (i : Instr) (len d : Nat) (st : List Value) (S : jm_S) : Option (List Value × jm_S) := match i, len, st with
  | .invokestatic idx, 3, .int n :: .int dp :: .ref b :: .int sp :: .ref a :: r => (match jp_A (jm_q M) idx with
    | some _ => if a < S.1 ∧ b < S.1 ∧ 1 ≤ d ∧ (r.map fun v => v.category).sum ≤ 8 ∧ ¬ sp < 0 ∧ ¬ dp < 0 ∧ ¬ n < 0 then (match S.2 a, S.2 b with
      | .inl (0, n0, .inl f), .inl (0, n1, .inl g) => if sp.toNatClampNeg + n.toNatClampNeg ≤ n0 ∧ dp.toNatClampNeg + n.toNatClampNeg ≤ n1 then some (r, jm_up S b (.inl (0, n1, .inl (va_cpy f g sp.toNatClampNeg dp.toNatClampNeg n.toNatClampNeg)))) else none
      | .inl (1, n0, .inr (.inl f)), .inl (1, n1, .inr (.inl g)) => if sp.toNatClampNeg + n.toNatClampNeg ≤ n0 ∧ dp.toNatClampNeg + n.toNatClampNeg ≤ n1 then some (r, jm_up S b (.inl (1, n1, .inr (.inl (va_cpy f g sp.toNatClampNeg dp.toNatClampNeg n.toNatClampNeg))))) else none
      | _, _ => none) else none
    | none => none)
  | _, _, _ => none
/-- throw new E("text"): the five instructions from here on; the number of E -/
def jm_thr (M : jm_M) (i : Instr) (len pc : Nat) : Option Nat := match i, len with
  | .new idx, 3 => (match jp_X (jm_q M) idx with
    | some ex => (match decode M.2.1 (pc + 3), decode M.2.1 (pc + 4), decode M.2.1 (pc + 6), decode M.2.1 (pc + 9) with
      | .ok (.dup, 1), .ok (.ldc k, 2), .ok (.invokespecial j, 3), .ok (.athrow, 1) => if jp_XS (jm_q M) k = true ∧ jp_XI (jm_q M) j = some ex then some ex else none
      | _, _, _, _ => none)
    | none => none)
  | _, _ => none
def jm_more (c k : Nat) (o : Option jm_O) : Option jm_O := match o with
  | some r => some (r.1, r.2.1, r.2.2.1, c + r.2.2.2.1, k + r.2.2.2.2)
  | none => none
def jm_run (X : jm_X) : Nat → Nat → jm_M → Nat → jm_L → List Value → jm_S → Option jm_O
  | 0, _, _, _, _, _, _ => none
  | n + 1, d, M, pc, lv, st, S => match decode M.2.1 pc with
    | .error _ => none
    | .ok (i, len) => match jm_step X M i len pc lv st S with
      | some q => jm_more q.2.2.2.2.1 q.2.2.2.2.2 (jm_run X n d M q.1 q.2.1 q.2.2.1 q.2.2.2.1)
      | none => match jm_ret i len M.2.2.2.1 st with
        | some v => some (0, v, S, 0, 0)
        | none => match jm_obj M i len d st with
          | some r => jm_run X n d M (pc + 3) lv r S
          | none => match jm_cp M i len d st S with
            | some q => jm_run X n d M (pc + 3) lv q.1 q.2
            | none => match jm_thr M i len pc with
              | some ex => if S.1 < jm_lim then some (ex + 1, some (.ref S.1), jm_add S (.inr (jp_nobj + ex, [])), 1, 6) else none
              | none => match jm_inv M i len st S with
                | some q => (match d with
                  | 0 => none
                  | d' + 1 => match jm_run X n d' q.1 0 (lv_args 0 q.2.2.1) [] S with
                    | some r => (match r.1 with
                      | 0 => jm_more r.2.2.2.1 r.2.2.2.2 (jm_run X n (d' + 1) M (pc + 3) lv (r.2.1.toList ++ q.2.2.2) r.2.2.1)
                      | _ => some r)
                    | none => none)
                | none => none
