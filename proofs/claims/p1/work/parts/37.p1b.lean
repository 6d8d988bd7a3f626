/-! PROMISE 1's ROW, part 2: the cases of one call -/
def q1_s (a b c d : js_V) : List js_V := [a, b, c, d]
def q1_k (c : Nat) : Nat × Nat × Int × js_V := (4, 0, 15, .inl (.int (Int32.ofNat c)))
def q1_row : List (Nat × Nat × Int × js_V) := [(1, 1, 0, .inr 100), (6, 100, 32, .inr 101), (1, 2, 0, .inr 102), (5, 102, 4294967295, .inr 103), (9, 101, 103, .inr 104)]
def q1_byte (k : Nat) : List (Nat × Nat × Int × js_V) := [(8, 104, 8 * k, .inr (110 + k)), (2, 110 + k, 0, .inr (10 + k)), (4, 10 + k, 255, .inr (20 + k)), (7, 104, 8 * k, .inr (120 + k)), (5, 120 + k, 255, .inr (130 + k)), (2, 130 + k, 0, .inr (20 + k)), (2, 120 + k, 0, .inr (30 + k)), (3, 30 + k, 0, .inr (40 + k)), (3, 40 + k, 0, .inr (50 + k))]
/-- x (symbol k) < c -/
def q1_lt (k : Nat) (c : Int) : List (Nat × Nat × Int × Bool) := [(2, k, c, true), (3, k, c, false)]
/-- not x < c -/
def q1_ge (k : Nat) (c : Int) : List (Nat × Nat × Int × Bool) := [(2, k, c, false), (3, k, c, true)]
/-- x > c -/
def q1_gt (k : Nat) (c : Int) : List (Nat × Nat × Int × Bool) := [(4, k, c, true), (5, k, c, false)]
/-- not x > c -/
def q1_le (k : Nat) (c : Int) : List (Nat × Nat × Int × Bool) := [(4, k, c, false), (5, k, c, true)]
def q1_eq (k : Nat) (c : Int) (b : Bool) : List (Nat × Nat × Int × Bool) := [(0, k, c, b), (1, k, c, !b)]
abbrev q1_C : Type := List js_V × js_A × List (Nat × Bool)
def q1_sym : List js_V := q1_s (.inr 0) (.inr 1) (.inr 2) (.inr 3)
def q1_plain (c : Nat) (f : List (Nat × Nat × Int × Bool)) : q1_C := (q1_sym, (f, [q1_k c]), [])
def q1_lit1 (c : Nat) (x : Nat) (f : List (Nat × Nat × Int × Bool)) : q1_C := (q1_s (.inr 0) (.inl (.int (Int32.ofNat x))) (.inr 2) (.inr 3), (f, [q1_k c]), [])
/-- feed of n bytes, the first m of them fine; fine tells of the one behind them -/
def q1_feed (n m : Nat) : q1_C := (q1_s (.inr 0) (.inr 1) (.inr 2) (.inl (.int (Int32.ofNat n))), ([], q1_k 0 :: (q1_row ++ (List.range n).flatMap q1_byte)), (List.range (min (m + 1) n)).map fun k => (20 + k, Nat.blt k m))
def q1_out (l h : List (Nat × Nat × Int × Bool)) : q1_C := (q1_sym, (l ++ h, q1_k 0 :: q1_row), [])
def q1_feeds : List q1_C := (List.range 8).flatMap fun n => (List.range (n + 2)).map fun m => q1_feed (n + 1) m
def q1_rest : List q1_C :=
  [q1_out (q1_lt 3 1) (q1_le 3 0), q1_out (q1_ge 3 1) (q1_gt 3 8 ++ q1_gt 3 0)] ++ [1, 2, 3, 4, 6, 7, 9, 10, 11, 15].map (fun c => q1_plain c []) ++
  [q1_plain 5 (q1_eq 1 0 true), q1_plain 5 (q1_eq 1 0 false), q1_plain 8 (q1_eq 1 0 true), q1_plain 8 (q1_eq 1 0 false)] ++
  [q1_plain 12 (q1_lt 1 0), q1_plain 12 (q1_ge 1 0 ++ q1_gt 1 3)] ++ (List.range 4).flatMap (fun w => [q1_lit1 12 w (q1_lt 2 0), q1_lit1 12 w (q1_ge 2 0 ++ q1_gt 2 100000), q1_lit1 12 w (q1_ge 2 0 ++ q1_le 2 100000)]) ++
  [q1_plain 13 (q1_lt 1 0), q1_plain 13 (q1_ge 1 0)] ++
  [q1_plain 14 (q1_lt 1 0), q1_plain 14 (q1_ge 1 0 ++ q1_gt 1 7)] ++ (List.range 8).map (fun w => q1_lit1 14 w [])
def p1_chk (c : q1_C) : Bool := match js_law (some c.1) c.2.1 (jf_mac c.2.2) 5000 10000 20 1 mL_law 23 p1_lv1 [] p1_D1 180 964079 with
  | some (none, some (.inl (.int x)), _, c', k') => decide (x = 1) && (Nat.ble c' 600002 && Nat.ble k' 7302232)
  | _ => false
theorem p1_rest : ∀ c ∈ q1_rest, p1_chk c = true := by decide +kernel
def p1_short (n : Nat) : q1_C := ((List.range n).map .inr, ([], []), [])
theorem p1_len : ∀ n, n < 4 → p1_chk (p1_short n) = true := by decide +kernel
