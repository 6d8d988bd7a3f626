/-! P6 IS FALSE, part 1: a script at which its law answers 0 (wip/refute/scripts.json) -/
def rf_xs : List Int32 := [0, 2071690107, 2071690107, 8, 0, 2071690107, 2071690107, 8, 0, 1685814139, 2071690107, 8, 0, 996893029, 1919033455, 8, 0, 691021925, 1818847351, 8, 0, 2105376125, 2105376059, 8, 0, 2105376125, 2105376125, 8, 0, 2105376125, 2105376125, 8, 1, 0, 0, 0, 3, 0, 0, 0, 4, 0, 0, 0]
def rf_l : List js_V := rf_xs.map fun x => .inl (.int x)
theorem rf_pre0 : p1_peq (js_law none ([], []) js_mno 23 10000 200 1 mL_law 0 p1_lv0 [] [] 0 0) p1_lv1 p1_D1 180 964079 = true := by decide +kernel
theorem rf_pre : js_law none ([], []) js_mno 23 10000 200 1 mL_law 0 p1_lv0 [] [] 0 0 = some (some (p1_lv1, []), none, p1_D1, 180, 964079) := p1_peq_ok rf_pre0
