/-! THE RUN, its last piece: the law answers 0 -/
def rf_chk : Bool := match js_law (some rf_l) ([], []) js_mno 5000 100000 200 1 mL_law 228 rf4_lv rf4_st rf4_D 180 964079 with
  | some (none, some (.inl (.int x)), _, c', k') => decide (x = 0) && (Nat.ble c' 601024 && Nat.ble k' 7293034)
  | _ => false
theorem rf_run : rf_chk = true := by decide +kernel
