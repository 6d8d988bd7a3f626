/-! SEGMENTS: what a walk does, out of what what follows does -/
section JG
variable {X : jm_X} {M N : jm_M} {d pc len pc1 c1 k1 j1 k j : Nat} {lv lv1 : jm_L} {st st1 as r : List Value} {S S1 S' : jm_S} {v v1 : Option Value} {i : Instr}
theorem jg_step (hd : decode M.2.1 pc = .ok (i, len)) (hq : jm_step X M i len pc lv st S = some (pc1, lv1, st1, S1, c1, k1)) (h : jm_goes X M d pc1 lv1 st1 S1 v S' k j) : jm_goes X M d pc lv st S v S' (c1 + k) (k1 + j) := by
  intro p l e R s m args below meth c D dA base sa H locs cells slots ls Q C hH hS hl hlim hfr hlo hc hs hret
  refine jm_step_ok C hd hq hH hS hl hlim (by omega) (by omega) (fun H1 locs1 ls1 w1 w2 w3 w4 => ?_)
  refine h p l e R s m args below meth c D dA base sa H1 locs1 _ _ ls1 Q C w1 w2 w3 w4 hfr hlo (by omega) (by omega) ?_
  rw [Nat.add_assoc, Nat.add_assoc]
  exact hret
theorem jg_ret (hd : decode M.2.1 pc = .ok (i, len)) (hv : jm_ret i len M.2.2.2.1 st = some v) : jm_goes X M d pc lv st S v S 0 0 := by
  intro p l e R s m args below meth c D dA base sa H locs cells slots ls Q C hH hS hl hlim hfr hlo hc hs hret
  have e1 := jm_ret_st hv
  subst e1
  exact hret H locs ls pc i len hH hS hlim hd hv
theorem jg_obj (hd : decode M.2.1 pc = .ok (i, len)) (hr : jm_obj M i len d st = some r) (h : jm_goes X M d (pc + 3) lv r S v S' k j) : jm_goes X M d pc lv st S v S' k j := by
  intro p l e R s m args below meth c D dA base sa H locs cells slots ls Q C hH hS hl hlim hfr hlo hc hs hret
  exact jm_obj_ok C hd hr hl hfr hlo (by omega) (by omega) (h p l e R s m args below meth c D dA base sa H locs cells slots ls Q C hH hS hl hlim hfr hlo hc hs hret)
theorem jg_inv {f : Nat} (hd : decode M.2.1 pc = .ok (i, len)) (hq : jm_inv M i len st S = some (N, f, as, r)) (hb : jm_goes X N d 0 (lv_args 0 as) [] S v1 S1 k1 j1) (h : jm_goes X M (d + 1) (pc + 3) lv (v1.toList ++ r) S1 v S' k j) : jm_goes X M (d + 1) pc lv st S v S' (k1 + k) (j1 + j) := by
  intro p l e R s m args below meth c D dA base sa H locs cells slots ls Q C hH hS hl hlim hfr hlo hc hs hret
  refine jm_inv_ok C hd hq hH hS hl hlim hfr hlo (k := k1) (n := j1) (by omega) (by omega) hb (fun H1 locs1 w1 w2 w3 => ?_)
  refine h p l e R s m args below meth c D dA base sa H1 locs1 _ _ ls Q C w2 w3 hl w1 hfr hlo (by omega) (by omega) ?_
  rw [Nat.add_assoc, Nat.add_assoc]
  exact hret
theorem jgL_step (hd : decode M.2.1 pc = .ok (i, len)) (hq : jm_step X M i len pc lv st S = some (pc1, lv1, st1, S1, c1, k1)) (h : jm_goesL X M d pc1 lv1 st1 S1 v S' k j) : jm_goesL X M d pc lv st S v S' (c1 + k) (k1 + j) := by
  intro p l e R s m args below meth c D dA base sa H locs cells slots ls Q hfl C hH hS hl hlim hfr hlo hc hs hret
  refine jm_step_ok C hd hq hH hS hl hlim (by omega) (by omega) (fun H1 locs1 ls1 w1 w2 w3 w4 => ?_)
  refine h p l e R s m args below meth c D dA base sa H1 locs1 _ _ ls1 Q hfl C w1 w2 w3 w4 hfr hlo (by omega) (by omega) ?_
  rw [Nat.add_assoc, Nat.add_assoc]
  exact hret
theorem jgL_ret (hd : decode M.2.1 pc = .ok (i, len)) (hv : jm_ret i len M.2.2.2.1 st = some v) : jm_goesL X M d pc lv st S v S 0 0 := by
  intro p l e R s m args below meth c D dA base sa H locs cells slots ls Q hfl C hH hS hl hlim hfr hlo hc hs hret
  have e1 := jm_ret_st hv
  subst e1
  exact hret H locs ls pc i len hH hS hlim hd hv
theorem jgL_inv {f : Nat} (hd : decode M.2.1 pc = .ok (i, len)) (hq : jm_inv M i len st S = some (N, f, as, r)) (hb : jm_goes X N d 0 (lv_args 0 as) [] S v1 S1 k1 j1) (h : jm_goesL X M (d + 1) (pc + 3) lv (v1.toList ++ r) S1 v S' k j) : jm_goesL X M (d + 1) pc lv st S v S' (k1 + k) (j1 + j) := by
  intro p l e R s m args below meth c D dA base sa H locs cells slots ls Q hfl C hH hS hl hlim hfr hlo hc hs hret
  refine jm_inv_ok C hd hq hH hS hl hlim hfr hlo (k := k1) (n := j1) (by omega) (by omega) hb (fun H1 locs1 w1 w2 w3 => ?_)
  refine h p l e R s m args below meth c D dA base sa H1 locs1 _ _ ls Q hfl C w2 w3 hl w1 hfr hlo (by omega) (by omega) ?_
  rw [Nat.add_assoc, Nat.add_assoc]
  exact hret
theorem jgL_winv {P : jm_M × jm_Hh} (hd : decode M.2.1 pc = .ok (i, len)) (hq : jm_winv M i len st = some (P, as, r)) (hb : jm_goesW X P.1 P.2 d 0 (lv_args 0 as) [] S v1 S1 k1 j1) (h : jm_goesL X M (d + 1) (pc + 3) lv (v1.toList ++ r) S1 v S' k j) : jm_goesL X M (d + 1) pc lv st S v S' (k1 + k) (j1 + j) := by
  intro p l e R s m args below meth c D dA base sa H locs cells slots ls Q hfl C hH hS hl hlim hfr hlo hc hs hret
  refine jm_winv_ok hfl C hd hq hH hS hl hlim hfr hlo (k := k1) (n := j1) (by omega) (by omega) hb (fun H1 locs1 w1 w2 w3 => ?_)
  refine h p l e R s m args below meth c D dA base sa H1 locs1 _ _ ls Q hfl C w2 w3 hl w1 hfr hlo (by omega) (by omega) ?_
  rw [Nat.add_assoc, Nat.add_assoc]
  exact hret
theorem jgW_step {hh : List (Nat × Nat × Nat × Nat)} (hd : decode M.2.1 pc = .ok (i, len)) (hq : jm_rst X M i len pc lv st S = some (pc1, lv1, st1)) (h : jm_goesW X M hh d pc1 lv1 st1 S v S' k j) : jm_goesW X M hh d pc lv st S v S' k j := by
  intro p l e R s m args below meth c D dA base sa H locs cells slots ls Q hfl hhh C hH hS hl hlim hfr hlo hc hs hret
  exact jm_rst_ok C hd hq hH hl hlim (fun ls1 h1 => h p l e R s m args below meth c D dA base sa H locs cells slots ls1 Q hfl hhh C hH hS h1 hlim hfr hlo hc hs hret)
theorem jgT_step {ex : Nat} (hd : decode M.2.1 pc = .ok (i, len)) (hq : jm_rst X M i len pc lv st S = some (pc1, lv1, st1)) (h : jm_goesT X M d pc1 lv1 st1 S ex) : jm_goesT X M d pc lv st S ex := by
  intro p l e R s m args below meth c D dA base sa ls hfl C hno hH hl hlim hfr hlo hc hs
  exact jm_rst_ok C hd hq hH hl hlim (fun ls1 h1 => h p l e R s m args below meth c D dA base sa ls1 hfl C hno hH h1 hlim hfr hlo hc hs)
theorem jgT_thr {ex : Nat} (hd : decode M.2.1 pc = .ok (i, len)) (hex : jm_thr M i len pc = some ex) (h6 : 6 ≤ d) (hst : (st.map fun v => v.category).sum ≤ 4) : jm_goesT X M d pc lv st S ex := by
  intro p l e R s m args below meth c D dA base sa ls hfl C hno hH hl hlim hfr hlo hc hs
  exact jm_thr_ok C hfl hno hd hex hl (by omega) (by omega) hst hc hs
theorem jgT_inv {ex : Nat} (hd : decode M.2.1 pc = .ok (i, len)) (hq : jm_inv M i len st S = some (N, 0, as, r)) (hb : jm_goesT X N d 0 (lv_args 0 as) [] S ex) : jm_goesT X M (d + 1) pc lv st S ex := by
  intro p l e R s m args below meth c D dA base sa ls hfl C hno hH hl hlim hfr hlo hc hs
  intro T hT Z
  have hout : ∀ x ∈ c.exceptionTable.toList, covers x pc = false := by
    intro x hxx
    have : c.exceptionTable = #[] := by simpa using hno
    rw [this] at hxx
    simp at hxx
  obtain ⟨T', X2, -, ⟨ce, c1, c2, c3⟩, hst⟩ := jm_thrown (T := T) hfl C hd hq (by rw [hT]; exact hH) (by rw [hT]; exact va_S.rf) hl hlim hfr hlo (by omega) (by omega) hb Z
  rw [hT] at c1 hst
  obtain ⟨l1, l2, l3, l4, l5⟩ := X2.leaveThrown s.heap.size (g := F0 m pc ls (r.map (jm_v base sa))) rfl rfl rfl hout C.2.2.2.2.2.2.2.2.2
  refine ⟨_, hst _ l1, l2, l3, l4, by simpa using l5, ce, c1, c2, c3⟩
end JG
