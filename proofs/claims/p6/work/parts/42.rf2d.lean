/-! THE RUN, piece 3 -/
theorem rf_s30 : rf_peq (js_law (some rf_l) ([], []) js_mno 212 100000 200 1 mL_law 190 rf2_lv rf2_st rf2_D 180 964079) rf3_lv rf3_st rf3_D 180 964079 = true := by decide +kernel
theorem rf_s3 : js_law (some rf_l) ([], []) js_mno 212 100000 200 1 mL_law 190 rf2_lv rf2_st rf2_D 180 964079 = some (some (rf3_lv, rf3_st), none, rf3_D, 180, 964079) := rf_peq_ok rf_s30
