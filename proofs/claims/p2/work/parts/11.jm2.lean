/-! THE PURE MACHINE, part 2: each of part 1's instructions, over the machine itself -/
section JM2
variable {p : Program} {l : Launch} {e : Env} {R : Room} {s : State} {m : MethodId} {args : Array Value} {below : List Frame} {meth : Method} {c : Code} {H : Heap} {locs : List Loc} {cells slots : Nat} {Q : State → Prop}
variable {cc : ByteArray} {pc len nL base : Nat} {sa : Nat → Nat} {ls : Array Slot} {lv : jm_L} {st st' : List Value} {rest : List Value} {i : Instr}
theorem jm_k_ok {v : Value} (hx : p.tables.exec = Jvm.exec) (hb : c.code = cc) (hd : decode cc pc = .ok (i, len)) (h : jm_k i len = some v)
    (k : W p l e R s m args below meth c H locs cells slots Q (F0 m (pc + len) ls (jm_v base sa v :: rest))) : W p l e R s m args below meth c H locs cells slots Q (F0 m pc ls rest) := by
  unfold jm_k at h
  split at h
  · cases h; exact lv_iconst hx hb hd rfl k
  · cases h; exact lv_bipush hx hb hd rfl k
  · cases h; exact lv_sipush hx hb hd rfl k
  · cases h; exact lv_lconst hx hb hd rfl k
  · cases h; exact lv_null hx hb hd k
  · cases h
theorem jm_ld_ok {v : Value} {n q : Nat} (hx : p.tables.exec = Jvm.exec) (hb : c.code = cc) (hd : decode cc pc = .ok (i, len)) (h : jm_ld i len = some (n, q)) (hl : lv_has ls nL (jm_lv base sa lv)) (hg : jm_get lv n = some v) (hq : jm_isk q v = true)
    (k : W p l e R s m args below meth c H locs cells slots Q (F0 m (pc + len) ls (jm_v base sa v :: rest))) : W p l e R s m args below meth c H locs cells slots Q (F0 m pc ls rest) := by
  have ha := jm_get_has hl hg
  unfold jm_isk at hq
  unfold jm_ld at h
  split at h
  all_goals first | cases h | skip
  all_goals (split at hq)
  all_goals first | (cases hq; done) | skip
  all_goals first | omega | skip
  all_goals first | exact lv_iload hx hb hd ha k | exact lv_iload_n hx hb hd rfl ha k | exact lv_lload hx hb hd ha k | exact lv_lload_n hx hb hd rfl ha k | exact lv_aload hx hb hd ha k | exact lv_aload_n hx hb hd rfl ha k
theorem jm_sr_ok {v : Value} {n q : Nat} (hx : p.tables.exec = Jvm.exec) (hb : c.code = cc) (hd : decode cc pc = .ok (i, len)) (h : jm_sr i len = some (n, q)) (hl : lv_has ls nL (jm_lv base sa lv)) (hq : jm_isk q v = true) (hn : n + 1 < nL ∨ (n < nL ∧ v.category = 1))
    (kk : ∀ ls' : Array Slot, lv_has ls' nL (jm_lv base sa (if q = 1 then jm_set2 lv n v else jm_set1 lv n v)) → W p l e R s m args below meth c H locs cells slots Q (F0 m (pc + len) ls' rest)) : W p l e R s m args below meth c H locs cells slots Q (F0 m pc ls (jm_v base sa v :: rest)) := by
  have e1 := jm_set1_eq base sa lv n v
  have e2 := jm_set2_eq base sa lv n v
  have h1 : n < nL := by omega
  unfold jm_isk at hq
  unfold jm_sr at h
  split at h
  all_goals first | cases h | skip
  all_goals (split at hq)
  all_goals first | (cases hq; done) | skip
  all_goals first | omega | skip
  all_goals first
    | exact lv_istore hx hb hd hl h1 e1 kk
    | exact lv_istore_n hx hb hd rfl hl h1 e1 kk
    | exact lv_astore hx hb hd hl h1 e1 kk
    | exact lv_astore_n hx hb hd rfl hl h1 e1 kk
    | exact lv_lstore hx hb hd hl (by simp [Value.category] at hn; omega) e2 kk
    | exact lv_lstore_n hx hb hd rfl hl (by simp [Value.category] at hn; omega) e2 kk
theorem jm_inc_ok {n : Nat} {q : Int} {x : Int32} (hx : p.tables.exec = Jvm.exec) (hb : c.code = cc) (hd : decode cc pc = .ok (.iinc n q, 3)) (hl : lv_has ls nL (jm_lv base sa lv)) (hg : jm_get lv n = some (.int x)) (hn : n < nL)
    (kk : ∀ ls' : Array Slot, lv_has ls' nL (jm_lv base sa (jm_set1 lv n (.int (x + Int32.ofInt q)))) → W p l e R s m args below meth c H locs cells slots Q (F0 m (pc + 3) ls' rest)) : W p l e R s m args below meth c H locs cells slots Q (F0 m pc ls rest) := by
  have hm : (n, Value.int x) ∈ jm_lv base sa lv := List.mem_map.mpr ⟨(n, .int x), jm_get_mem hg, rfl⟩
  obtain ⟨j, hj⟩ := List.getElem?_of_mem hm
  exact lv_iinc hx hb hd hl hj rfl hn (jm_set1_eq base sa lv n (.int (x + Int32.ofInt q))) kk
theorem jm_ib_ok {x y z : Int32} (hx : p.tables.exec = Jvm.exec) (hb : c.code = cc) (hd : decode cc pc = .ok (i, 1)) (h : jm_ib i x y = some z)
    (k : W p l e R s m args below meth c H locs cells slots Q (F0 m (pc + 1) ls (.int z :: rest))) : W p l e R s m args below meth c H locs cells slots Q (F0 m pc ls (.int y :: .int x :: rest)) := by
  unfold jm_ib at h
  split at h
  · cases h; exact lv_iadd hx hb hd k
  · cases h; exact lv_isub hx hb hd k
  · cases h; exact lv_imul hx hb hd k
  · cases h; exact lv_iand hx hb hd k
  · cases h; exact lv_ior hx hb hd k
  · cases h; exact lv_ixor hx hb hd k
  · cases h; exact lv_ishl hx hb hd k
  · cases h; exact lv_ishr hx hb hd k
  · cases h; exact lv_iushr hx hb hd rfl k
  · split at h
    · cases h
    · rename_i hy; cases h; exact lv_idiv hx hb hd hy k
  · split at h
    · cases h
    · rename_i hy; cases h; exact lv_irem hx hb hd hy k
  · cases h
theorem jm_lb_ok {x y z : Int64} (hx : p.tables.exec = Jvm.exec) (hb : c.code = cc) (hd : decode cc pc = .ok (i, 1)) (h : jm_lb i x y = some z)
    (k : W p l e R s m args below meth c H locs cells slots Q (F0 m (pc + 1) ls (.long z :: rest))) : W p l e R s m args below meth c H locs cells slots Q (F0 m pc ls (.long y :: .long x :: rest)) := by
  unfold jm_lb at h
  split at h
  · cases h; exact lv_ladd hx hb hd k
  · cases h; exact lv_lsub hx hb hd k
  · cases h; exact lv_lmul hx hb hd k
  · cases h; exact lv_land hx hb hd k
  · cases h; exact lv_lor hx hb hd k
  · cases h; exact lv_lxor hx hb hd k
  · split at h
    · cases h
    · rename_i hy; cases h; exact lv_ldiv hx hb hd hy k
  · split at h
    · cases h
    · rename_i hy; cases h; exact lv_lrem hx hb hd hy k
  · cases h
theorem jm_ls_ok {x z : Int64} {y : Int32} (hx : p.tables.exec = Jvm.exec) (hb : c.code = cc) (hd : decode cc pc = .ok (i, 1)) (h : jm_ls i x y = some z)
    (k : W p l e R s m args below meth c H locs cells slots Q (F0 m (pc + 1) ls (.long z :: rest))) : W p l e R s m args below meth c H locs cells slots Q (F0 m pc ls (.int y :: .long x :: rest)) := by
  unfold jm_ls at h
  split at h
  · cases h; exact lv_lshl hx hb hd rfl k
  · cases h; exact lv_lshr hx hb hd rfl k
  · cases h; exact lv_lushr hx hb hd rfl k
  · cases h
theorem jm_un_ok {v z : Value} (hx : p.tables.exec = Jvm.exec) (hb : c.code = cc) (hd : decode cc pc = .ok (i, 1)) (h : jm_un i v = some z)
    (k : W p l e R s m args below meth c H locs cells slots Q (F0 m (pc + 1) ls (jm_v base sa z :: rest))) : W p l e R s m args below meth c H locs cells slots Q (F0 m pc ls (jm_v base sa v :: rest)) := by
  unfold jm_un at h
  split at h
  · cases h; exact lv_ineg hx hb hd k
  · cases h; exact lv_lneg hx hb hd k
  · cases h; exact lv_i2l hx hb hd rfl k
  · cases h; exact lv_l2i hx hb hd rfl k
  · cases h; exact lv_i2b hx hb hd rfl k
  · cases h; exact lv_i2s hx hb hd rfl k
  · cases h; exact lv_i2c hx hb hd rfl k
  · cases h
theorem jm_al_ok (hx : p.tables.exec = Jvm.exec) (hb : c.code = cc) (hd : decode cc pc = .ok (i, 1)) (h : jm_al i st = some st')
    (k : W p l e R s m args below meth c H locs cells slots Q (F0 m (pc + 1) ls (st'.map (jm_v base sa)))) : W p l e R s m args below meth c H locs cells slots Q (F0 m pc ls (st.map (jm_v base sa))) := by
  unfold jm_al at h
  split at h
  · split at h
    · rename_i y x r z hz; cases h; exact jm_ib_ok hx hb hd hz k
    · split at h
      · rename_i z hz; cases h; exact jm_un_ok (base := base) (sa := sa) hx hb hd hz k
      · cases h
  · split at h
    · cases h; exact W.lcmp hx hb hd k
    · split at h
      · rename_i z hz; cases h; exact jm_lb_ok hx hb hd hz k
      · split at h
        · rename_i z hz; cases h; exact jm_un_ok (base := base) (sa := sa) hx hb hd hz k
        · cases h
  · split at h
    · rename_i y x r z hz; cases h; exact jm_ls_ok hx hb hd hz k
    · split at h
      · rename_i z hz; cases h; exact jm_un_ok (base := base) (sa := sa) hx hb hd hz k
      · cases h
  · split at h
    · rename_i z hz; cases h; exact jm_un_ok (base := base) (sa := sa) hx hb hd hz k
    · cases h
  · cases h
theorem jm_sk_ok (hx : p.tables.exec = Jvm.exec) (hb : c.code = cc) (hd : decode cc pc = .ok (i, 1)) (h : jm_sk i st = some st')
    (k : W p l e R s m args below meth c H locs cells slots Q (F0 m (pc + 1) ls (st'.map (jm_v base sa)))) : W p l e R s m args below meth c H locs cells slots Q (F0 m pc ls (st.map (jm_v base sa))) := by
  unfold jm_sk at h
  split at h
  · split at h
    · rename_i q; cases h; exact lv_dup hx hb hd (by rw [jm_v_cat]; exact q) k
    · cases h
  · split at h
    · rename_i q; cases h; exact lv_pop hx hb hd (by rw [jm_v_cat]; exact q) k
    · cases h
  · split at h
    · rename_i q; cases h; exact lv_dup_x1 hx hb hd (by rw [jm_v_cat]; exact q.1) (by rw [jm_v_cat]; exact q.2) k
    · cases h
  · split at h
    · rename_i q; cases h; exact lv_dup_x2 hx hb hd (by rw [jm_v_cat]; exact q.1) (by rw [jm_v_cat]; exact q.2.1) (by rw [jm_v_cat]; exact q.2.2) k
    · cases h
  · split at h
    · rename_i q; cases h; exact lv_dup2_2 hx hb hd (by rw [jm_v_cat]; exact q) k
    · split at h
      · split at h
        · rename_i q; cases h; exact lv_dup2_11 hx hb hd (by rw [jm_v_cat]; exact q.1) (by rw [jm_v_cat]; exact q.2) k
        · cases h
      · cases h
  · split at h
    · rename_i q; cases h; exact lv_pop2_2 hx hb hd (by rw [jm_v_cat]; exact q) k
    · cases h
  · cases h
theorem jm_cz_ok {q : ClassFile.Cond} {off : Int} {x : Int32} (hx : p.tables.exec = Jvm.exec) (hb : c.code = cc) (hd : decode cc pc = .ok (.ifCond q off, 3)) (ho : jm_ok pc off = true)
    (k : W p l e R s m args below meth c H locs cells slots Q (F0 m (if jm_cz q x = true then jm_at pc off else pc + 3) ls rest)) : W p l e R s m args below meth c H locs cells slots Q (F0 m pc ls (.int x :: rest)) := by
  have ht := jm_at_eq ho
  cases q
  · exact lv_if_eq hx hb hd ht (fun z => by rw [if_pos (by simp [jm_cz, z])] at k; exact k) (fun z => by rw [if_neg (by simp [jm_cz, z])] at k; exact k)
  · exact lv_if_ne hx hb hd ht (fun z => by rw [if_pos (by simp [jm_cz, z])] at k; exact k) (fun z => by rw [if_neg (by simp [jm_cz, z])] at k; exact k)
  · exact lv_if_lt hx hb hd ht (fun z => by rw [if_pos (by simp [jm_cz, z])] at k; exact k) (fun z => by rw [if_neg (by simp only [jm_cz, decide_eq_true_eq]; exact z)] at k; exact k)
  · exact lv_if_ge hx hb hd ht (fun z => by rw [if_pos (by simp only [jm_cz, decide_eq_true_eq]; exact z)] at k; exact k) (fun z => by rw [if_neg (by simp only [jm_cz, decide_eq_true_eq]; exact z)] at k; exact k)
  · exact lv_if_gt hx hb hd ht (fun z => by rw [if_pos (by simp only [jm_cz, decide_eq_true_eq]; exact z)] at k; exact k) (fun z => by rw [if_neg (by simp only [jm_cz, decide_eq_true_eq]; exact z)] at k; exact k)
  · exact lv_if_le hx hb hd ht (fun z => by rw [if_pos (by simp only [jm_cz, decide_eq_true_eq]; exact z)] at k; exact k) (fun z => by rw [if_neg (by simp only [jm_cz, decide_eq_true_eq]; exact z)] at k; exact k)
theorem jm_cc_ok {q : ClassFile.Cond} {off : Int} {x y : Int32} (hx : p.tables.exec = Jvm.exec) (hb : c.code = cc) (hd : decode cc pc = .ok (.if_icmp q off, 3)) (ho : jm_ok pc off = true)
    (k : W p l e R s m args below meth c H locs cells slots Q (F0 m (if jm_cc q x y = true then jm_at pc off else pc + 3) ls rest)) : W p l e R s m args below meth c H locs cells slots Q (F0 m pc ls (.int y :: .int x :: rest)) := by
  have ht := jm_at_eq ho
  cases q
  · exact lv_icmp_eq hx hb hd ht (fun z => by rw [if_pos (by simp only [jm_cc, decide_eq_true_eq]; exact z)] at k; exact k) (fun z => by rw [if_neg (by simp only [jm_cc, decide_eq_true_eq]; exact z)] at k; exact k)
  · exact lv_icmp_ne hx hb hd ht (fun z => by rw [if_pos (by simp only [jm_cc, decide_eq_true_eq]; exact z)] at k; exact k) (fun z => by rw [if_neg (by simp only [jm_cc, decide_eq_true_eq]; exact fun w => w z)] at k; exact k)
  · exact lv_icmp_lt hx hb hd ht (fun z => by rw [if_pos (by simp only [jm_cc, decide_eq_true_eq]; exact z)] at k; exact k) (fun z => by rw [if_neg (by simp only [jm_cc, decide_eq_true_eq]; exact z)] at k; exact k)
  · exact lv_icmp_ge hx hb hd ht (fun z => by rw [if_pos (by simp only [jm_cc, decide_eq_true_eq]; exact z)] at k; exact k) (fun z => by rw [if_neg (by simp only [jm_cc, decide_eq_true_eq]; exact z)] at k; exact k)
  · exact lv_icmp_gt hx hb hd ht (fun z => by rw [if_pos (by simp only [jm_cc, decide_eq_true_eq]; exact z)] at k; exact k) (fun z => by rw [if_neg (by simp only [jm_cc, decide_eq_true_eq]; exact z)] at k; exact k)
  · exact lv_icmp_le hx hb hd ht (fun z => by rw [if_pos (by simp only [jm_cc, decide_eq_true_eq]; exact z)] at k; exact k) (fun z => by rw [if_neg (by simp only [jm_cc, decide_eq_true_eq]; exact z)] at k; exact k)
theorem jm_br_ok {pc' : Nat} (hx : p.tables.exec = Jvm.exec) (hb : c.code = cc) (hd : decode cc pc = .ok (i, len)) (h : jm_br i len pc st = some (pc', st'))
    (k : W p l e R s m args below meth c H locs cells slots Q (F0 m pc' ls (st'.map (jm_v base sa)))) : W p l e R s m args below meth c H locs cells slots Q (F0 m pc ls (st.map (jm_v base sa))) := by
  unfold jm_br at h
  split at h
  · split at h
    · rename_i q; cases h; exact lv_goto hx hb hd (jm_at_eq q) k
    · cases h
  · split at h
    · rename_i q; cases h; exact jm_cz_ok hx hb hd q k
    · cases h
  · split at h
    · rename_i q; cases h; exact jm_cc_ok hx hb hd q k
    · cases h
  · cases h; exact lv_ifnull hx hb hd k
  · split at h
    · rename_i q; cases h; exact lv_ifnullN hx hb hd (jm_at_eq q) k
    · cases h
  · split at h
    · rename_i q; cases h; exact lv_ifnonnull hx hb hd (jm_at_eq q) k
    · cases h
  · cases h; exact lv_ifnonnullN hx hb hd k
  · split at h
    · rename_i q
      split at h
      · rename_i q2; cases h; exact lv_tableOut hx hb hd q (jm_at_eq q2) k
      · cases h
    · rename_i q
      split at h
      · rename_i off ho
        split at h
        · rename_i q2; cases h; exact lv_tableIn hx hb hd (fun z => q (Or.inl z)) (fun z => q (Or.inr z)) ho (jm_at_eq q2) k
        · cases h
      · cases h
  · split at h
    · rename_i q; cases h; exact lv_lookup hx hb hd q.1 rfl (jm_at_eq q.2) k
    · cases h
  · cases h
end JM2
