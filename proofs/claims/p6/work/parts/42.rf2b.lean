/-! THE RUN, piece 1 -/
theorem rf_s10 : rf_peq (js_law (some rf_l) ([], []) js_mno 185 100000 200 1 mL_law 23 p1_lv1 [] p1_D1 180 964079) rf1_lv rf1_st rf1_D 180 964079 = true := by decide +kernel
theorem rf_s1 : js_law (some rf_l) ([], []) js_mno 185 100000 200 1 mL_law 23 p1_lv1 [] p1_D1 180 964079 = some (some (rf1_lv, rf1_st), none, rf1_D, 180, 964079) := rf_peq_ok rf_s10
