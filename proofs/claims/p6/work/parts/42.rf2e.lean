/-! THE RUN, piece 4 -/
theorem rf_s40 : rf_peq (js_law (some rf_l) ([], []) js_mno 228 100000 200 1 mL_law 212 rf3_lv rf3_st rf3_D 180 964079) rf4_lv rf4_st rf4_D 180 964079 = true := by decide +kernel
theorem rf_s4 : js_law (some rf_l) ([], []) js_mno 228 100000 200 1 mL_law 212 rf3_lv rf3_st rf3_D 180 964079 = some (some (rf4_lv, rf4_st), none, rf4_D, 180, 964079) := rf_peq_ok rf_s40
