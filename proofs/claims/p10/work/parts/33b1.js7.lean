/-! THE SYMBOLIC MACHINE, part 4b: Arrays.fill of ints and of longs, System.arraycopy, at once -/
theorem jh_up (S : jm_S) (a : Nat) (x y : jm_c) : jm_up (jm_up S a x) a y = jm_up S a y := by
  unfold jm_up va_up
  refine Prod.ext rfl ?_
  funext k
  dsimp only
  split <;> rfl
theorem jh_up_at (S : jm_S) (a : Nat) (x : jm_c) : (jm_up S a x).2 a = x := by
  unfold jm_up va_up
  exact if_pos rfl
theorem jh_up_self (S : jm_S) (a : Nat) : jm_up S a (S.2 a) = S := by
  unfold jm_up va_up
  refine Prod.ext rfl ?_
  funext k
  dsimp only
  split
  · rename_i h; rw [h]
  · rfl
theorem jh_nat {i : Nat} (h : i < 2147483648) : (Int32.ofNat i).toNatClampNeg = i := by
  rw [Int32.toNatClampNeg, Int32.toInt_ofNat_of_lt h]
  rfl
theorem jh_not0 {i : Nat} (h : i < 2147483648) : ¬ Int32.ofNat i < 0 := by
  intro hl
  have := Int32.lt_iff_toInt_lt.mp hl
  rw [Int32.toInt_ofNat_of_lt h] at this
  have h0 : (0 : Int32).toInt = 0 := rfl
  omega
theorem jh_in {i n : Nat} (h : i < n) (hn : n ≤ 2147483647) : jm_in (Int32.ofNat i) n = true := by
  unfold jm_in
  refine decide_eq_true ?_
  rw [jh_nat (by omega)]
  intro hh
  rcases hh with hh | hh
  · exact jh_not0 (by omega) hh
  · omega
theorem jh_ge {i n : Nat} (hi : i ≤ 2147483647) (hn : n ≤ 2147483647) : jm_cc .ge (Int32.ofNat i) (Int32.ofNat n) = decide (n ≤ i) := by
  show decide _ = _
  refine decide_eq_decide.mpr ?_
  rw [Int32.le_iff_toInt_le, Int32.toInt_ofNat_of_lt (by omega), Int32.toInt_ofNat_of_lt (by omega)]
  omega
theorem jh_inc (i : Nat) : Int32.ofNat i + Int32.ofInt 1 = Int32.ofNat (i + 1) := by
  rw [Int32.ofNat_add]
  rfl
section JH
variable {X : jm_X} {M : jm_M} {d pc len pc1 : Nat} {lv lv1 : jm_L} {st st1 : List Value} {S S1 S' : jm_S} {v : Option Value} {i : Instr} {k j : Nat}
theorem jh_step (hd : decode M.2.1 pc = .ok (i, len)) (hq : jm_step X M i len pc lv st S = some (pc1, lv1, st1, S1, 0, 0)) (h : jm_goes X M d pc1 lv1 st1 S1 v S' 0 0) : jm_goes X M d pc lv st S v S' 0 0 := by
  have := jg_step hd hq h
  exact this
end JH
def jh_lv (a n i : Nat) (v : Int32) : jm_L := [(2, .int (Int32.ofNat i)), (3, .int (Int32.ofNat n)), (0, .ref a), (1, .int v)]
def jh_f (n i : Nat) (v : Int32) (f : Nat → Int32) : Nat → Int32 := fun j => if i ≤ j ∧ j < n then v else f j
section JHI
variable {X : jm_X} {d a n : Nat} {v : Int32} {S : jm_S}
theorem jh_test {i : Nat} {lv : jm_L} {S1 S' : jm_S} {w : Option Value} (h2 : jm_get lv 2 = some (.int (Int32.ofNat i))) (h3 : jm_get lv 3 = some (.int (Int32.ofNat n))) (hi : i ≤ 2147483647) (hn : n ≤ 2147483647)
    (h : jm_goes X mArr_fill d (if n ≤ i then 20 else 10) lv [] S1 w S' 0 0) : jm_goes X mArr_fill d 5 lv [] S1 w S' 0 0 := by
  refine jh_step (i := .iload_n 2) (len := 1) (pc1 := 6) (lv1 := lv) (st1 := [.int (Int32.ofNat i)]) (S1 := S1) (by decide +kernel) ?_ ?_
  · show (match jm_get lv 2 with
      | some v => if jm_isk 0 v = true then some (5 + 1, lv, [v], S1, 0, 0) else none
      | none => none) = _
    rw [h2]
    rfl
  refine jh_step (i := .iload_n 3) (len := 1) (pc1 := 7) (lv1 := lv) (st1 := [.int (Int32.ofNat n), .int (Int32.ofNat i)]) (S1 := S1) (by decide +kernel) ?_ ?_
  · show (match jm_get lv 3 with
      | some v => if jm_isk 0 v = true then some (6 + 1, lv, [v, .int (Int32.ofNat i)], S1, 0, 0) else none
      | none => none) = _
    rw [h3]
    rfl
  refine jh_step (i := .if_icmp .ge 13) (len := 3) (pc1 := if n ≤ i then 20 else 10) (lv1 := lv) (st1 := []) (S1 := S1) (by decide +kernel) ?_ h
  show some ((if jm_cc .ge (Int32.ofNat i) (Int32.ofNat n) = true then jm_at 7 13 else 7 + 3), lv, ([] : List Value), S1, 0, 0) = _
  rw [jh_ge hi hn]
  by_cases hh : n ≤ i
  · rw [if_pos (decide_eq_true hh), if_pos hh]
    rfl
  · rw [if_neg (fun e => hh (of_decide_eq_true e)), if_neg hh]
theorem jh_body {i : Nat} {lv : jm_L} {f : Nat → Int32} {S' : jm_S} {w : Option Value} (h0 : jm_get lv 0 = some (.ref a)) (h1 : jm_get lv 1 = some (.int v)) (h2 : jm_get lv 2 = some (.int (Int32.ofNat i))) (ha : a < S.1) (hi : i < n) (hn : n ≤ 2147483647)
    (h : jm_goes X mArr_fill d 5 (jm_set1 lv 2 (.int (Int32.ofNat (i + 1)))) [] (jm_up S a (.inl (0, n, .inl (upd f i v)))) w S' 0 0) : jm_goes X mArr_fill d 10 lv [] (jm_up S a (.inl (0, n, .inl f))) w S' 0 0 := by
  refine jh_step (i := .aload_n 0) (len := 1) (pc1 := 11) (lv1 := lv) (st1 := [.ref a]) (S1 := jm_up S a (.inl (0, n, .inl f))) (by decide +kernel) ?_ ?_
  · show (match jm_get lv 0 with
      | some v => if jm_isk 2 v = true then some (10 + 1, lv, [v], jm_up S a (.inl (0, n, .inl f)), 0, 0) else none
      | none => none) = _
    rw [h0]
    rfl
  refine jh_step (i := .iload_n 2) (len := 1) (pc1 := 12) (lv1 := lv) (st1 := [.int (Int32.ofNat i), .ref a]) (S1 := jm_up S a (.inl (0, n, .inl f))) (by decide +kernel) ?_ ?_
  · show (match jm_get lv 2 with
      | some v => if jm_isk 0 v = true then some (11 + 1, lv, [v, .ref a], jm_up S a (.inl (0, n, .inl f)), 0, 0) else none
      | none => none) = _
    rw [h2]
    rfl
  refine jh_step (i := .iload_n 1) (len := 1) (pc1 := 13) (lv1 := lv) (st1 := [.int v, .int (Int32.ofNat i), .ref a]) (S1 := jm_up S a (.inl (0, n, .inl f))) (by decide +kernel) ?_ ?_
  · show (match jm_get lv 1 with
      | some v => if jm_isk 0 v = true then some (12 + 1, lv, [v, .int (Int32.ofNat i), .ref a], jm_up S a (.inl (0, n, .inl f)), 0, 0) else none
      | none => none) = _
    rw [h1]
    rfl
  refine jh_step (i := .iastore) (len := 1) (pc1 := 14) (lv1 := lv) (st1 := []) (S1 := jm_up S a (.inl (0, n, .inl (upd f i v)))) (by decide +kernel) ?_ ?_
  · show (match (if a < S.1 then (match jm_wr .iastore (.int v) (Int32.ofNat i) ((jm_up S a (.inl (0, n, .inl f))).2 a) with
        | some x => some (([] : List Value), jm_up (jm_up S a (.inl (0, n, .inl f))) a x, 0, 0)
        | none => none) else none) with
      | some q => some (13 + 1, lv, q.1, q.2.1, q.2.2.1, q.2.2.2)
      | none => _) = _
    rw [if_pos ha, jh_up_at]
    show (match (match (if jm_in (Int32.ofNat i) n = true then some ((.inl (0, n, .inl (upd f (Int32.ofNat i).toNatClampNeg v))) : jm_c) else none) with
        | some x => some (([] : List Value), jm_up (jm_up S a (.inl (0, n, .inl f))) a x, 0, 0)
        | none => none) with
      | some q => some (13 + 1, lv, q.1, q.2.1, q.2.2.1, q.2.2.2)
      | none => _) = _
    rw [if_pos (jh_in hi hn), jh_nat (by omega)]
    show some (14, lv, ([] : List Value), jm_up (jm_up S a (.inl (0, n, .inl f))) a (.inl (0, n, .inl (upd f i v))), 0, 0) = _
    rw [jh_up]
  refine jh_step (i := .iinc 2 1) (len := 3) (pc1 := 17) (lv1 := jm_set1 lv 2 (.int (Int32.ofNat (i + 1)))) (st1 := []) (S1 := jm_up S a (.inl (0, n, .inl (upd f i v)))) (by decide +kernel) ?_ ?_
  · show (match (match jm_get lv 2 with
        | some (.int x) => if 2 < 4 then some (14 + 3, jm_set1 lv 2 (.int (x + Int32.ofInt 1)), ([] : List Value)) else none
        | _ => none) with
      | some q => some (q.1, q.2.1, q.2.2, jm_up S a (.inl (0, n, .inl (upd f i v))), 0, 0)
      | none => none) = _
    rw [h2]
    show some (17, jm_set1 lv 2 (.int (Int32.ofNat i + Int32.ofInt 1)), ([] : List Value), jm_up S a (.inl (0, n, .inl (upd f i v))), 0, 0) = _
    rw [jh_inc]
  exact jh_step (i := .goto (-12)) (len := 3) (pc1 := 5) (lv1 := jm_set1 lv 2 (.int (Int32.ofNat (i + 1)))) (st1 := []) (S1 := jm_up S a (.inl (0, n, .inl (upd f i v)))) (by decide +kernel) rfl h
theorem jh_end {lv : jm_L} {S1 : jm_S} : jm_goes X mArr_fill d 20 lv [] S1 none S1 0 0 := jg_ret (i := .return_) (len := 1) (by decide +kernel) rfl
theorem jh_f_nil {i : Nat} {f : Nat → Int32} (h : n ≤ i) : jh_f n i v f = f := by
  funext j
  unfold jh_f
  rw [if_neg (by omega)]
theorem jh_f_up {i : Nat} {f : Nat → Int32} (h : i < n) : jh_f n (i + 1) v (upd f i v) = jh_f n i v f := by
  funext j
  unfold jh_f upd
  by_cases h1 : i + 1 ≤ j ∧ j < n
  · rw [if_pos h1, if_pos (by omega)]
  · rw [if_neg h1]
    by_cases h2 : j = i
    · rw [if_pos h2, if_pos (by omega)]
    · rw [if_neg h2, if_neg (by omega)]
theorem jh_loop (ha : a < S.1) (hn : n ≤ 2147483647) : ∀ (r i : Nat) (f : Nat → Int32), i + r = n → jm_goes X mArr_fill d 5 (jh_lv a n i v) [] (jm_up S a (.inl (0, n, .inl f))) none (jm_up S a (.inl (0, n, .inl (jh_f n i v f)))) 0 0 := by
  intro r
  induction r with
  | zero =>
    intro i f h
    refine jh_test rfl rfl (by omega) hn ?_
    rw [if_pos (by omega), jh_f_nil (by omega)]
    exact jh_end
  | succ r ih =>
    intro i f h
    refine jh_test rfl rfl (by omega) hn ?_
    rw [if_neg (by omega)]
    refine jh_body rfl rfl rfl ha (by omega) hn ?_
    have := ih (i + 1) (upd f i v) (by omega)
    rw [jh_f_up (by omega)] at this
    exact this
/-- Arrays.fill of ints -/
theorem jh_fill {f : Nat → Int32} (ha : a < S.1) (hn : n ≤ 2147483647) (hS : S.2 a = .inl (0, n, .inl f)) : jm_goes X mArr_fill d 0 [(0, .ref a), (1, .int v)] [] S none (jm_up S a (.inl (0, n, .inl (jh_f n 0 v f)))) 0 0 := by
  have e : S = jm_up S a (.inl (0, n, .inl f)) := by rw [← hS, jh_up_self]
  refine jh_step (i := .iconst 0) (len := 1) (pc1 := 1) (lv1 := [(0, .ref a), (1, .int v)]) (st1 := [.int 0]) (S1 := S) (by decide +kernel) rfl ?_
  refine jh_step (i := .istore_n 2) (len := 1) (pc1 := 2) (lv1 := [(2, .int 0), (0, .ref a), (1, .int v)]) (st1 := []) (S1 := S) (by decide +kernel) rfl ?_
  refine jh_step (i := .aload_n 0) (len := 1) (pc1 := 3) (lv1 := [(2, .int 0), (0, .ref a), (1, .int v)]) (st1 := [.ref a]) (S1 := S) (by decide +kernel) rfl ?_
  refine jh_step (i := .arraylength) (len := 1) (pc1 := 4) (lv1 := [(2, .int 0), (0, .ref a), (1, .int v)]) (st1 := [.int (Int32.ofNat n)]) (S1 := S) (by decide +kernel) ?_ ?_
  · show (match (if a < S.1 then (match jm_ln (S.2 a) with
        | some z => some ([Value.int z], S, 0, 0)
        | none => none) else (match jm_sa X a with
        | some x => some ([Value.int (Int32.ofNat x.2.1)], S, 0, 0)
        | none => none)) with
      | some q => some (3 + 1, ([(2, .int 0), (0, .ref a), (1, .int v)] : jm_L), q.1, q.2.1, q.2.2.1, q.2.2.2)
      | none => _) = _
    rw [if_pos ha, hS]
    rfl
  refine jh_step (i := .istore_n 3) (len := 1) (pc1 := 5) (lv1 := [(3, .int (Int32.ofNat n)), (2, .int 0), (0, .ref a), (1, .int v)]) (st1 := []) (S1 := S) (by decide +kernel) rfl ?_
  refine jh_test (i := 0) rfl rfl (by omega) hn ?_
  by_cases h0 : n ≤ 0
  · rw [if_pos h0, jh_f_nil h0, ← e]
    exact jh_end
  · rw [if_neg h0]
    have hb := jh_body (X := X) (d := d) (a := a) (n := n) (v := v) (S := S) (i := 0) (lv := [(3, .int (Int32.ofNat n)), (2, .int 0), (0, .ref a), (1, .int v)]) (f := f) (S' := jm_up S a (.inl (0, n, .inl (jh_f n 0 v f)))) (w := none) rfl rfl rfl ha (by omega) hn ?_
    · rw [← e] at hb
      exact hb
    · have := jh_loop (X := X) (d := d) (S := S) (v := v) ha hn (n - 1) 1 (upd f 0 v) (by omega)
      rw [jh_f_up (by omega)] at this
      exact this
end JHI
