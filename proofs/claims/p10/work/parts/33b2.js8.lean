/-! Arrays.fill of longs -/
def jk_lv (a n i : Nat) (v : Int64) : jm_L := [(3, .int (Int32.ofNat i)), (4, .int (Int32.ofNat n)), (0, .ref a), (1, .long v)]
def jk_f (n i : Nat) (v : Int64) (f : Nat → Int64) : Nat → Int64 := fun j => if i ≤ j ∧ j < n then v else f j
section JKI
variable {X : jm_X} {d a n : Nat} {v : Int64} {S : jm_S}
theorem jk_test {i : Nat} {lv : jm_L} {S1 S' : jm_S} {w : Option Value} (h2 : jm_get lv 3 = some (.int (Int32.ofNat i))) (h3 : jm_get lv 4 = some (.int (Int32.ofNat n))) (hi : i ≤ 2147483647) (hn : n ≤ 2147483647)
    (h : jm_goes X mArr_fill2 d (if n ≤ i then 22 else 12) lv [] S1 w S' 0 0) : jm_goes X mArr_fill2 d 6 lv [] S1 w S' 0 0 := by
  refine jh_step (i := .iload_n 3) (len := 1) (pc1 := 7) (lv1 := lv) (st1 := [.int (Int32.ofNat i)]) (S1 := S1) (by decide +kernel) ?_ ?_
  · show (match jm_get lv 3 with
      | some v => if jm_isk 0 v = true then some (6 + 1, lv, [v], S1, 0, 0) else none
      | none => none) = _
    rw [h2]
    rfl
  refine jh_step (i := .iload 4) (len := 2) (pc1 := 9) (lv1 := lv) (st1 := [.int (Int32.ofNat n), .int (Int32.ofNat i)]) (S1 := S1) (by decide +kernel) ?_ ?_
  · show (match jm_get lv 4 with
      | some v => if jm_isk 0 v = true then some (7 + 2, lv, [v, .int (Int32.ofNat i)], S1, 0, 0) else none
      | none => none) = _
    rw [h3]
    rfl
  refine jh_step (i := .if_icmp .ge 13) (len := 3) (pc1 := if n ≤ i then 22 else 12) (lv1 := lv) (st1 := []) (S1 := S1) (by decide +kernel) ?_ h
  show some ((if jm_cc .ge (Int32.ofNat i) (Int32.ofNat n) = true then jm_at 9 13 else 9 + 3), lv, ([] : List Value), S1, 0, 0) = _
  rw [jh_ge hi hn]
  by_cases hh : n ≤ i
  · rw [if_pos (decide_eq_true hh), if_pos hh]
    rfl
  · rw [if_neg (fun e => hh (of_decide_eq_true e)), if_neg hh]
theorem jk_body {i : Nat} {lv : jm_L} {f : Nat → Int64} {S' : jm_S} {w : Option Value} (h0 : jm_get lv 0 = some (.ref a)) (h1 : jm_get lv 1 = some (.long v)) (h2 : jm_get lv 3 = some (.int (Int32.ofNat i))) (ha : a < S.1) (hi : i < n) (hn : n ≤ 2147483647)
    (h : jm_goes X mArr_fill2 d 6 (jm_set1 lv 3 (.int (Int32.ofNat (i + 1)))) [] (jm_up S a (.inl (1, n, .inr (.inl (vp_updL f i v))))) w S' 0 0) : jm_goes X mArr_fill2 d 12 lv [] (jm_up S a (.inl (1, n, .inr (.inl f)))) w S' 0 0 := by
  refine jh_step (i := .aload_n 0) (len := 1) (pc1 := 13) (lv1 := lv) (st1 := [.ref a]) (S1 := jm_up S a (.inl (1, n, .inr (.inl f)))) (by decide +kernel) ?_ ?_
  · show (match jm_get lv 0 with
      | some v => if jm_isk 2 v = true then some (12 + 1, lv, [v], jm_up S a (.inl (1, n, .inr (.inl f))), 0, 0) else none
      | none => none) = _
    rw [h0]
    rfl
  refine jh_step (i := .iload_n 3) (len := 1) (pc1 := 14) (lv1 := lv) (st1 := [.int (Int32.ofNat i), .ref a]) (S1 := jm_up S a (.inl (1, n, .inr (.inl f)))) (by decide +kernel) ?_ ?_
  · show (match jm_get lv 3 with
      | some v => if jm_isk 0 v = true then some (13 + 1, lv, [v, .ref a], jm_up S a (.inl (1, n, .inr (.inl f))), 0, 0) else none
      | none => none) = _
    rw [h2]
    rfl
  refine jh_step (i := .lload_n 1) (len := 1) (pc1 := 15) (lv1 := lv) (st1 := [.long v, .int (Int32.ofNat i), .ref a]) (S1 := jm_up S a (.inl (1, n, .inr (.inl f)))) (by decide +kernel) ?_ ?_
  · show (match jm_get lv 1 with
      | some v => if jm_isk 1 v = true then some (14 + 1, lv, [v, .int (Int32.ofNat i), .ref a], jm_up S a (.inl (1, n, .inr (.inl f))), 0, 0) else none
      | none => none) = _
    rw [h1]
    rfl
  refine jh_step (i := .lastore) (len := 1) (pc1 := 16) (lv1 := lv) (st1 := []) (S1 := jm_up S a (.inl (1, n, .inr (.inl (vp_updL f i v))))) (by decide +kernel) ?_ ?_
  · show (match (if a < S.1 then (match jm_wr .lastore (.long v) (Int32.ofNat i) ((jm_up S a (.inl (1, n, .inr (.inl f)))).2 a) with
        | some x => some (([] : List Value), jm_up (jm_up S a (.inl (1, n, .inr (.inl f)))) a x, 0, 0)
        | none => none) else none) with
      | some q => some (15 + 1, lv, q.1, q.2.1, q.2.2.1, q.2.2.2)
      | none => _) = _
    rw [if_pos ha, jh_up_at]
    show (match (match (if jm_in (Int32.ofNat i) n = true then some ((.inl (1, n, .inr (.inl (vp_updL f (Int32.ofNat i).toNatClampNeg v)))) : jm_c) else none) with
        | some x => some (([] : List Value), jm_up (jm_up S a (.inl (1, n, .inr (.inl f)))) a x, 0, 0)
        | none => none) with
      | some q => some (15 + 1, lv, q.1, q.2.1, q.2.2.1, q.2.2.2)
      | none => _) = _
    rw [if_pos (jh_in hi hn), jh_nat (by omega)]
    show some (16, lv, ([] : List Value), jm_up (jm_up S a (.inl (1, n, .inr (.inl f)))) a (.inl (1, n, .inr (.inl (vp_updL f i v)))), 0, 0) = _
    rw [jh_up]
  refine jh_step (i := .iinc 3 1) (len := 3) (pc1 := 19) (lv1 := jm_set1 lv 3 (.int (Int32.ofNat (i + 1)))) (st1 := []) (S1 := jm_up S a (.inl (1, n, .inr (.inl (vp_updL f i v))))) (by decide +kernel) ?_ ?_
  · show (match (match jm_get lv 3 with
        | some (.int x) => if 3 < 5 then some (16 + 3, jm_set1 lv 3 (.int (x + Int32.ofInt 1)), ([] : List Value)) else none
        | _ => none) with
      | some q => some (q.1, q.2.1, q.2.2, jm_up S a (.inl (1, n, .inr (.inl (vp_updL f i v)))), 0, 0)
      | none => none) = _
    rw [h2]
    show some (19, jm_set1 lv 3 (.int (Int32.ofNat i + Int32.ofInt 1)), ([] : List Value), jm_up S a (.inl (1, n, .inr (.inl (vp_updL f i v)))), 0, 0) = _
    rw [jh_inc]
  exact jh_step (i := .goto (-13)) (len := 3) (pc1 := 6) (lv1 := jm_set1 lv 3 (.int (Int32.ofNat (i + 1)))) (st1 := []) (S1 := jm_up S a (.inl (1, n, .inr (.inl (vp_updL f i v))))) (by decide +kernel) rfl h
theorem jk_end {lv : jm_L} {S1 : jm_S} : jm_goes X mArr_fill2 d 22 lv [] S1 none S1 0 0 := jg_ret (i := .return_) (len := 1) (by decide +kernel) rfl
theorem jk_f_nil {i : Nat} {f : Nat → Int64} (h : n ≤ i) : jk_f n i v f = f := by
  funext j
  unfold jk_f
  rw [if_neg (by omega)]
theorem jk_f_up {i : Nat} {f : Nat → Int64} (h : i < n) : jk_f n (i + 1) v (vp_updL f i v) = jk_f n i v f := by
  funext j
  unfold jk_f vp_updL
  by_cases h1 : i + 1 ≤ j ∧ j < n
  · rw [if_pos h1, if_pos (by omega)]
  · rw [if_neg h1]
    by_cases h2 : j = i
    · rw [if_pos h2, if_pos (by omega)]
    · rw [if_neg h2, if_neg (by omega)]
theorem jk_loop (ha : a < S.1) (hn : n ≤ 2147483647) : ∀ (r i : Nat) (f : Nat → Int64), i + r = n → jm_goes X mArr_fill2 d 6 (jk_lv a n i v) [] (jm_up S a (.inl (1, n, .inr (.inl f)))) none (jm_up S a (.inl (1, n, .inr (.inl (jk_f n i v f))))) 0 0 := by
  intro r
  induction r with
  | zero =>
    intro i f h
    refine jk_test rfl rfl (by omega) hn ?_
    rw [if_pos (by omega), jk_f_nil (by omega)]
    exact jk_end
  | succ r ih =>
    intro i f h
    refine jk_test rfl rfl (by omega) hn ?_
    rw [if_neg (by omega)]
    refine jk_body rfl rfl rfl ha (by omega) hn ?_
    have := ih (i + 1) (vp_updL f i v) (by omega)
    rw [jk_f_up (by omega)] at this
    exact this
/-- Arrays.fill of ints -/
theorem jk_fill {f : Nat → Int64} (ha : a < S.1) (hn : n ≤ 2147483647) (hS : S.2 a = .inl (1, n, .inr (.inl f))) : jm_goes X mArr_fill2 d 0 [(0, .ref a), (1, .long v)] [] S none (jm_up S a (.inl (1, n, .inr (.inl (jk_f n 0 v f))))) 0 0 := by
  have e : S = jm_up S a (.inl (1, n, .inr (.inl f))) := by rw [← hS, jh_up_self]
  refine jh_step (i := .iconst 0) (len := 1) (pc1 := 1) (lv1 := [(0, .ref a), (1, .long v)]) (st1 := [.int 0]) (S1 := S) (by decide +kernel) rfl ?_
  refine jh_step (i := .istore_n 3) (len := 1) (pc1 := 2) (lv1 := [(3, .int 0), (0, .ref a), (1, .long v)]) (st1 := []) (S1 := S) (by decide +kernel) rfl ?_
  refine jh_step (i := .aload_n 0) (len := 1) (pc1 := 3) (lv1 := [(3, .int 0), (0, .ref a), (1, .long v)]) (st1 := [.ref a]) (S1 := S) (by decide +kernel) rfl ?_
  refine jh_step (i := .arraylength) (len := 1) (pc1 := 4) (lv1 := [(3, .int 0), (0, .ref a), (1, .long v)]) (st1 := [.int (Int32.ofNat n)]) (S1 := S) (by decide +kernel) ?_ ?_
  · show (match (if a < S.1 then (match jm_ln (S.2 a) with
        | some z => some ([Value.int z], S, 0, 0)
        | none => none) else (match jm_sa X a with
        | some x => some ([Value.int (Int32.ofNat x.2.1)], S, 0, 0)
        | none => none)) with
      | some q => some (3 + 1, ([(3, .int 0), (0, .ref a), (1, .long v)] : jm_L), q.1, q.2.1, q.2.2.1, q.2.2.2)
      | none => _) = _
    rw [if_pos ha, hS]
    rfl
  refine jh_step (i := .istore 4) (len := 2) (pc1 := 6) (lv1 := [(4, .int (Int32.ofNat n)), (3, .int 0), (0, .ref a), (1, .long v)]) (st1 := []) (S1 := S) (by decide +kernel) rfl ?_
  refine jk_test (i := 0) rfl rfl (by omega) hn ?_
  by_cases h0 : n ≤ 0
  · rw [if_pos h0, jk_f_nil h0, ← e]
    exact jk_end
  · rw [if_neg h0]
    have hb := jk_body (X := X) (d := d) (a := a) (n := n) (v := v) (S := S) (i := 0) (lv := [(4, .int (Int32.ofNat n)), (3, .int 0), (0, .ref a), (1, .long v)]) (f := f) (S' := jm_up S a (.inl (1, n, .inr (.inl (jk_f n 0 v f))))) (w := none) rfl rfl rfl ha (by omega) hn ?_
    · rw [← e] at hb
      exact hb
    · have := jk_loop (X := X) (d := d) (S := S) (v := v) ha hn (n - 1) 1 (vp_updL f 0 v) (by omega)
      rw [jk_f_up (by omega)] at this
      exact this
end JKI
