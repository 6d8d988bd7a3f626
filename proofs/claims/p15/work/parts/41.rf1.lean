/-! P15 IS FALSE, part 1: a script at which its law answers 0 (wip/refute/scripts.json) -/
def rf_xs : List Int32 := [0, 2071690107, 2071690107, 8, 0, 2071690107, 2071690107, 8, 0, 1685814139, 2071690107, 8, 0, 544501353, 1919950959, 8, 0, 677735529, 1752644407, 8, 0, 2105376125, 2101029168, 8, 0, 2105376125, 2105376125, 8, 0, 2105376125, 2105376125, 8, 0, 0, 32125, 2, 1, 0, 0, 0, 12, 0, 9, 0, 13, 0, 0, 0]
def rf_l : List js_V := rf_xs.map fun x => .inl (.int x)
theorem rf_pre0 : p1_peq (js_law none ([], []) js_mno 23 10000 200 1 mL_law 0 p1_lv0 [] [] 0 0) p1_lv1 p1_D1 180 964079 = true := by decide +kernel
theorem rf_pre : js_law none ([], []) js_mno 23 10000 200 1 mL_law 0 p1_lv0 [] [] 0 0 = some (some (p1_lv1, []), none, p1_D1, 180, 964079) := p1_peq_ok rf_pre0
