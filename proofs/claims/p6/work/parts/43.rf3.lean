/-! P6 IS FALSE, part 3: what the law does at that script, from every start that the Statement admits -/
theorem rf_nil (ρ : js_R) : js_true ρ ([], []) := ⟨fun _ h => (List.not_mem_nil h).elim, fun _ h => (List.not_mem_nil h).elim⟩
theorem rf_scr (ρ : js_R) : js_scr ρ (rf_xs.length, fun j => rf_xs.getD j 0) (some rf_l) := by
  intro l hl
  cases hl
  refine ⟨by simp [rf_l], fun j v hv => ?_⟩
  obtain ⟨x, hx, rfl⟩ := List.getElem?_map.symm.trans hv |> (Option.map_eq_some_iff.mp ·)
  show Value.int x = .int (rf_xs.getD j 0)
  rw [List.getD_eq_getElem?_getD, hx]
  rfl
theorem rf_goes : ∃ (S0 : Nat → jm_c) (S' : jm_S) (k j : Nat), jm_goesL (rf_xs.length, fun j => rf_xs.getD j 0) mL_law 200 0 [(0, .ref 1000000)] [] (0, S0) (some (.int 0)) S' k j ∧ k ≤ 601024 ∧ j ≤ 7293034 := by
  have hc := rf_run
  unfold rf_chk at hc
  split at hc
  · rename_i x D' c' k' hr
    simp only [Bool.and_eq_true, decide_eq_true_eq] at hc
    obtain ⟨hx, h1, h2⟩ := hc
    subst hx
    obtain ⟨a, b, e1, e2, h3⟩ := js_law_ok (rf_nil js_0) (rf_scr js_0) (js_mno_ok js_0 _) 5000 _ _ _ _ _ _ _ _ _ _ _ _ _ _ _ jde_ok_1 hr
    obtain ⟨a4, b4, e4a, e4b, g4⟩ := js_law_ok (rf_nil js_0) (rf_scr js_0) (js_mno_ok js_0 _) 228 _ _ _ _ _ _ _ _ _ _ _ _ _ _ _ jde_ok_1 rf_s4
    have f4 := g4 _ _ _ _ h3
    obtain ⟨a3, b3, e3a, e3b, g3⟩ := js_law_ok (rf_nil js_0) (rf_scr js_0) (js_mno_ok js_0 _) 212 _ _ _ _ _ _ _ _ _ _ _ _ _ _ _ jde_ok_1 rf_s3
    have f3 := g3 _ _ _ _ f4
    obtain ⟨a2, b2, e2a, e2b, g2⟩ := js_law_ok (rf_nil js_0) (rf_scr js_0) (js_mno_ok js_0 _) 190 _ _ _ _ _ _ _ _ _ _ _ _ _ _ _ jde_ok_1 rf_s2
    have f2 := g2 _ _ _ _ f3
    obtain ⟨a1, b1, e1a, e1b, g1⟩ := js_law_ok (rf_nil js_0) (rf_scr js_0) (js_mno_ok js_0 _) 185 _ _ _ _ _ _ _ _ _ _ _ _ _ _ _ jde_ok_1 rf_s1
    have f1 := g1 _ _ _ _ f2
    obtain ⟨a0, b0, e3, e4, h4⟩ := js_law_ok (rf_nil js_0) (L := none) (X := (rf_xs.length, fun j => rf_xs.getD j 0)) (fun l h => by cases h) (js_mno_ok js_0 _) 23 _ _ _ _ _ _ _ _ _ _ _ _ _ _ _ jde_ok_1 rf_pre
    have h5 := h4 _ _ _ _ f1
    have q1 := Nat.le_of_ble_eq_true h1
    have q2 := Nat.le_of_ble_eq_true h2
    exact ⟨(js_abs js_0 []).2, _, _, _, h5, by omega, by omega⟩
  · cases hc
def rf_P (b : Addr) (args : Array Value) (s : State) : Prop := args = #[.ref b] ∧ s.IntsAt b rf_xs ∧ (Jvm.Cond.and given_1 narrow_1).before args s = true
def rf_Q (_ : Array Value) (_ : State) (o : Outcome) (_ : State) : Prop := o = .returned (some (.int 0))
def rf_Z (below : List Frame) (a : Array Value) (s : State) : State → Prop := fun t => ∃ o, t.status = .running ∧ Ended t below o ∧ rf_Q a s o t
/-- the law's own end, with 0 on the stack -/
theorem rf_ret {p : Program} {l : Launch} {e : Env} {s : State} {m : MethodId} {below : List Frame} {meth : Method} {c : Code} {b : Nat} (hx : p.tables.exec = Jvm.exec) (hb : c.code = code) (hr : meth.sig.returnType = ret) (hlocks : meth.locks = false) {pc : Nat} {H : Heap} {ls : Array Slot} (hdg : decode code pc = .ok (.ireturn, 1)) : W p l e room_1 s m #[Value.ref b] below meth c H [] 601024 7293034 (rf_Z below #[Value.ref b] s) (F0 m pc ls [.int 0]) := by
  intro T hT X
  obtain ⟨fs, hret, hrun, hended, hW, hframe⟩ := X.leave (v := some (.int 0)) (hlocks := hlocks) (fun h => by rw [hr] at h; cases h)
  have hmeth' : T.vm.method? m = some meth := X.method'
  refine ⟨T.setFrames fs, ?_, .returned (some (.int 0)), hrun, hended, rfl⟩
  jvm_step X.here [X.here.top, hx, hb, hdg, hmeth', hr, ret, narrow_b0]
  (try refine ⟨rfl, ?_⟩); (try refine ⟨rfl, ?_⟩)
  first | (intro acts; rw [hret _ acts rfl rfl rfl]) | rw [hret _ _ rfl rfl rfl]
  exact Steps.refl _
set_option maxHeartbeats 4000000 in
theorem rf_walk (l : Launch) (hfl : l.flags = pinnedFlags ++ [noTraceFlag]) (b : Addr) : MetFree l x (headSpec (Jvm.Cond.code x code maxLocals ret :: tables_1) room_1) (rf_P b) (fun _ _ _ _ _ => True) rf_Q := by
  refine MetFree.of_bodyS (code := code) (maxLocals := maxLocals) (ret := ret) (by decide) ?_ ?_
  · intro args s m h hn
    obtain ⟨meth, c, h1, h2, h3, h4, h5, h6, -, -⟩ := Cond.code_spec hn (atoms_spec (ws := Jvm.Cond.code x code maxLocals ret :: tables_1) h _ List.mem_cons_self)
    exact ⟨meth, c, h1, h2, h3, h4, h5, h6⟩
  · intro p e s m args below meth c s₁ B hml0 hP _
    obtain ⟨rfl, hx, hgv⟩ := hP
    obtain ⟨scr, harrAt, hlist, hof, hsmall⟩ := hx
    obtain ⟨hcb, hkn, -, -⟩ := State.arrayAt?_spec harrAt
    have hown : s.vm.findClass R_law = some m.cls := findClass_of_methodNamed B.named
    have hts0 : ∀ c ∈ (Jvm.Cond.code x code maxLocals ret :: tables_1), c.before #[Value.ref b] s = true := atoms_spec (ws := Jvm.Cond.code x code maxLocals ret :: tables_1) B.pre
    have hts : ∀ w ∈ lw_tbl, w.before #[Value.ref b] s = true := k2_hts_sels lw_privs (fun w hw => hts0 w (List.mem_cons_of_mem _ hw)) lw_privs_ok
    have hml : c.maxLocals = 7 := B.maxLocals_eq (hts0 _ List.mem_cons_self)
    have X₀ : Stand p l e room_1 s m #[Value.ref b] below meth c s₁ [] 0 0 := Stand.of_body B
    have hh0 : s₁.heap = s.heap := by rw [B.state]; rfl
    have hsz : scr.slots.size = rf_xs.length := by rw [← Array.length_toList, hlist, List.length_map]
    have hval : ∀ j : Nat, j < rf_xs.length → scr.slots[j]? = some (.int (rf_xs.getD j 0)) := fun j hj => by
      rw [← Array.getElem?_toList, hlist, List.getElem?_map, List.getD_eq_getElem?_getD]
      rw [List.getElem?_eq_getElem hj]
      rfl
    have hbl : b < s.heap.size := (Array.getElem?_eq_some_iff.mp hcb).1
    have hX : va_X b rf_xs.length (fun j => rf_xs.getD j 0) s s.heap := ⟨scr, hcb, hof, hkn, hsz, hval⟩
    obtain ⟨S0, S', k, j, h, hk, hj⟩ := rf_goes
    have K : W p l e room_1 s m #[Value.ref b] below meth c s₁.heap [] 0 0 (rf_Z below #[Value.ref b] s) (entryFrame m ([Value.ref b] : List Value).toArray 7) := by
      rw [hh0]
      exact jm_start_of (Z := rf_Z) l hfl ⟨B.exec, B.bytes, B.returns, hml, hown, hts, hX, hbl, B.notSynchronized, hgv⟩ S0 h (by decide) hk hj fun _ _ _ wd => rf_ret B.exec B.bytes B.returns B.notSynchronized wd
    obtain ⟨t, a1, o, b1, b2, b3⟩ := K s₁ rfl X₀
    exact ⟨t, o, a1, b1, b2, b3⟩
/-- from every start that the Statement admits, and that has the script, the law ends, and its answer is not the one that is claimed -/
theorem rf_falls {l : Launch} {p : Program} {e : Env} {s : State} {m : MethodId} {args : Array Value} {below : List Frame} {b : Addr} (hfl : l.flags = flags0)
    (hS : AtStart classFile x code maxLocals ret World_1 tables_1 room_1 Calls_1 rest_1 Pre_1 l p e s m args below) (ha : args = #[.ref b]) (hi : s.IntsAt b rf_xs) :
    ∃ (n : Nat) (o : Outcome), (∀ k, k < n → Within (stepsAlone p.tables e k s) below) ∧ (stepsAlone p.tables e n s).status = Status.running ∧ Ended (stepsAlone p.tables e n s) below o ∧ ¬ Post_1_2 p.tables e args s o (stepsAlone p.tables e n s) := by
  obtain ⟨hL, hW, had, -, hcas, hclk, hfr, hfit, hheap, happ, hcalls, hrest, hpre⟩ := hS
  obtain ⟨k, o, h1, h2, h3, hQ⟩ := rf_walk l hfl b p e had hcas hclk s m args below hfr ((Spec.applies_iff_loose hfr).mp happ).1 ⟨ha, hi, hpre⟩ trivial
  cases hQ
  refine ⟨k, _, h1, h2, h3, ?_⟩
  intro h
  have h0 := h.1
  have hv : Jvm.D.postC limb_1_2 p.tables e args s (.returned (some (.int 0))) (stepsAlone p.tables e k s) = ((some (decide ((0 : Int32) = 1)) == some true) = true) := rfl
  rw [hv] at h0
  exact absurd h0 (by decide)
/-- one such start refutes the claim -/
theorem rf_refutes {l : Launch} {p : Program} {e : Env} {s : State} {m : MethodId} {args : Array Value} {below : List Frame} {b : Addr} (hfl : l.flags = flags0)
    (hS : AtStart classFile x code maxLocals ret World_1 tables_1 room_1 Calls_1 rest_1 Pre_1 l p e s m args below) (ha : args = #[.ref b]) (hi : s.IntsAt b rf_xs) : RefutedClaimed_1_2 :=
  ⟨l, p, e, s, m, args, below, hfl, hS, rf_falls hfl hS ha hi⟩
