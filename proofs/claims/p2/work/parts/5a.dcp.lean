def dc_P (M : jm_M) (pc : Nat) (r : Instr × Nat) : Prop := decode M.2.1 pc = .ok r
