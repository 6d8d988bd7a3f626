/-! THE RUN, piece 2 -/
theorem rf_s20 : rf_peq (js_law (some rf_l) ([], []) js_mno 190 100000 200 1 mL_law 185 rf1_lv rf1_st rf1_D 180 964079) rf2_lv rf2_st rf2_D 180 964079 = true := by decide +kernel
theorem rf_s2 : js_law (some rf_l) ([], []) js_mno 190 100000 200 1 mL_law 185 rf1_lv rf1_st rf1_D 180 964079 = some (some (rf2_lv, rf2_st), none, rf2_D, 180, 964079) := rf_peq_ok rf_s20
