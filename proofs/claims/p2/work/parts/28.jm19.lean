/-! THE CLAIM OUT OF ONE WALK OF THE LAW'S BODY. Your part is whole_start (and what it stands on); all else here is the same for every law, but numbers. -/
def R_law : String := "WhilePressLaw"
def lw_P (b : Addr) (xs : List Int32) (args : Array Value) (s : State) : Prop := args = #[.ref b] ∧ s.IntsAt b xs ∧ xs.length ≤ 2048 ∧ (Jvm.Cond.and given_1 narrow_1).before args s = true
def lw_Q (_ : Array Value) (s : State) (o : Outcome) (t : State) : Prop := o = .returned (some (.int 1)) ∧ Framed s o t [] 601024 7293034
def lw_Z (below : List Frame) (a : Array Value) (s : State) : State → Prop := fun t => ∃ o, t.status = .running ∧ Ended t below o ∧ lw_Q a s o t
/-- the law's own end, with 1 on the stack, nothing written that was there before, its room as the claim has it -/
theorem lw_ret {p : Program} {l : Launch} {e : Env} {s : State} {m : MethodId} {below : List Frame} {meth : Method} {c : Code} {b : Nat} (hx : p.tables.exec = Jvm.exec) (hb : c.code = code) (hr : meth.sig.returnType = ret) (hlocks : meth.locks = false) {pc : Nat} {H : Heap} {ls : Array Slot} (hdg : decode code pc = .ok (.ireturn, 1)) : W p l e room_1 s m #[Value.ref b] below meth c H [] 601024 7293034 (lw_Z below #[Value.ref b] s) (F0 m pc ls [.int 1]) := by
  intro T hT X
  obtain ⟨fs, hret, hrun, hended, hW, hframe⟩ := X.leave (v := some (.int 1)) (hlocks := hlocks) (fun h => by rw [hr] at h; cases h)
  have hmeth' : T.vm.method? m = some meth := X.method'
  refine ⟨T.setFrames fs, ?_, .returned (some (.int 1)), hrun, hended, rfl, ⟨_, rfl⟩, hW, hframe⟩
  jvm_step X.here [X.here.top, hx, hb, hdg, hmeth', hr, ret, narrow_b1]
  (try refine ⟨rfl, ?_⟩); (try refine ⟨rfl, ?_⟩)
  first | (intro acts; rw [hret _ acts rfl rfl rfl]) | rw [hret _ _ rfl rfl rfl]
  exact Steps.refl _
/-- what holds at the law's entry: the machine, the code, the tables' words (any of lw_tbl by 'hts w (by decide +kernel)'), the script of L ints xs at the cell b, what the Statement gives of the start (any of its parts by flat_of_before) -/
def lw_At (p : Program) (s : State) (m : MethodId) (meth : Method) (c : Code) (b L : Nat) (xs : Nat → Int32) : Prop :=
  p.tables.exec = Jvm.exec ∧ c.code = code ∧ meth.sig.returnType = ret ∧ c.maxLocals = 7 ∧ s.vm.findClass R_law = some m.cls ∧ (∀ w ∈ lw_tbl, w.before #[Value.ref b] s = true) ∧ va_X b L xs s s.heap ∧ b < s.heap.size ∧ meth.locks = false ∧ (Jvm.Cond.and given_1 narrow_1).before #[Value.ref b] s = true
/-! THE LAW: from its entry to the pure machine -/
theorem jp_inst : ∀ ci, ci < 16 → ∃ n, Cond.instantiable (jp_C ci) n ∈ jw := by
  intro ci h
  match ci, h with
  | 0, _ => exact ⟨_, jC0_new.1⟩
  | 1, _ => exact ⟨_, jC1_new.1⟩
  | 2, _ => exact ⟨_, jC2_new.1⟩
  | 3, _ => exact ⟨_, jC3_new.1⟩
  | 4, _ => exact ⟨_, jC4_new.1⟩
  | 5, _ => exact ⟨_, jC5_new.1⟩
  | 6, _ => exact ⟨_, jC6_new.1⟩
  | 7, _ => exact ⟨_, jC7_new.1⟩
  | 8, _ => exact ⟨_, jC8_new.1⟩
  | 9, _ => exact ⟨_, jC9_new.1⟩
  | 10, _ => exact ⟨_, jC10_new.1⟩
  | 11, _ => exact ⟨_, jC11_new.1⟩
  | 12, _ => exact ⟨_, jC12_new.1⟩
  | 13, _ => exact ⟨_, jz_0.1⟩
  | 14, _ => exact ⟨_, jz_1.1⟩
  | 15, _ => exact ⟨_, jz_2.1⟩
  | k + 16, h => exact absurd h (by omega)
theorem jm_K0 {args : Array Value} {s : State} (hts : ∀ w ∈ jw, w.before args s = true) : ∃ (D : va_G) (dA : Nat → ClassId), va_K D jCl (jm_tys dA) s := by
  have h : ∀ ci : Nat, ∃ q : ClassId × (Nat → Nat), ci < 16 → u_Kn s (jp_C ci) (jp_T ci) (jp_N ci) q.1 q.2 := by
    intro ci
    by_cases hci : ci < 16
    · obtain ⟨n, hn⟩ := jp_inst ci hci
      obtain ⟨c, i, hk⟩ := u_known (C := jp_C ci) (T := jp_T ci) (N := jp_N ci) (n := n) hts (jp_cl ci hci).2.1 (hts _ hn)
      exact ⟨(c, i), fun _ => hk⟩
    · exact ⟨(0, fun _ => 0), fun h => absurd h hci⟩
  obtain ⟨f, hf⟩ := Classical.axiomOfChoice h
  obtain ⟨c0, k0, m0, a1, a2, a3⟩ := Cond.arrayClass_spec (hts _ jp_arr.1)
  obtain ⟨c1, k1, m1, b1, b2, b3⟩ := Cond.arrayClass_spec (hts _ jp_arr.2.1)
  obtain ⟨c2, k2, m2, d1, d2, d3⟩ := Cond.arrayClass_spec (hts _ jp_arr.2.2.1)
  obtain ⟨c3, k3, m3, e1, e2, e3⟩ := Cond.arrayClass_spec (hts _ jp_arr.2.2.2)
  refine ⟨(fun c => (f c).1, fun c => (f c).2), fun t => match t with
    | 0 => c0
    | 1 => c1
    | 2 => c2
    | _ => c3, ?_, ?_⟩
  · intro c q hq
    have hc : c < 16 := (List.getElem?_eq_some_iff.mp hq).1
    have e := (jp_cl c hc).1
    cases Option.some.inj (e.symm.trans hq)
    exact hf c hc
  · intro k q hq
    match k, hq with
    | 0, hq => cases hq; exact ⟨fun n z => ⟨fun k h => (by cases h), k0, a2, m0, a3⟩, a1⟩
    | 1, hq => cases hq; exact ⟨fun n z => ⟨fun k h => (by cases h), k1, b2, m1, b3⟩, b1⟩
    | 2, hq => cases hq; exact ⟨fun n z => ⟨fun k h => (by cases h), k2, d2, m2, d3⟩, d1⟩
    | 3, hq => cases hq; exact ⟨fun n z => ⟨fun k h => (by cases h), k3, e2, m3, e3⟩, e1⟩
    | k + 4, hq => simp [jm_tys] at hq
theorem jm_sf0 {C n d : String} {A : Nat → Prop} {args : Array Value} {s : State} (hl : (Cond.laysStatic C n d).before args s = true) (hr : (Cond.isRef (.static C n d)).before args s = true) (hA : ∀ a : Nat, a < s.heap.size → ¬ A a) : jm_sf C n d A s s.heap := by
  obtain ⟨c, k, i, f, a, cell, h1, h2, h3, h4, h5, h6, h7, h8, h9⟩ := Cond.laysStatic_spec hl
  obtain ⟨v, hv⟩ : ∃ v, cell.slots[f.slot]? = some v := ⟨_, Array.getElem?_eq_getElem h8⟩
  have e1 : (Term.static C n d).eval args s none [] s = some v := by
    simp [Term.eval, State.fieldNamed?, h2, h3, h4, h5, h6, hv]
  simp only [Cond.before, Cond.holds, Cond.value, e1] at hr
  refine ⟨c, k, i, f, a, cell, v, h1, h2, h3, h4, h5, h6, h7, h8, h9, hv, ?_, hA a (Array.getElem?_eq_some_iff.mp h5).1⟩
  cases v with
  | null => exact Or.inl rfl
  | ref t => exact Or.inr ⟨t, rfl⟩
  | _ => simp at hr
theorem jm_KEYS0 : ∀ j, j < 12 → Cond.eq (.elem (.static "WhilePress" "KEYS" "[J") (.int (Int32.ofNat j))) (.long (jp_KEYS.getD j 0)) ∈ flatC (Jvm.Cond.and given_1 narrow_1) := by decide +kernel
theorem jm_STR0 : ∀ j, j < 27 → Cond.eq (.elem (.static "WhilePress" "STRENGTH" "[I") (.int (Int32.ofNat j))) (.int (jp_STR.getD j 0)) ∈ flatC (Jvm.Cond.and given_1 narrow_1) := by decide +kernel
theorem jm_nar0 : Cond.arrayOf (.static "WhilePress" "KEYS" "[J") .long ∈ flatC (Jvm.Cond.and given_1 narrow_1) ∧ Cond.eq (.length (.static "WhilePress" "KEYS" "[J")) (.int 12) ∈ flatC (Jvm.Cond.and given_1 narrow_1) ∧ Cond.arrayOf (.static "WhilePress" "STRENGTH" "[I") .int ∈ flatC (Jvm.Cond.and given_1 narrow_1) ∧ Cond.eq (.length (.static "WhilePress" "STRENGTH" "[I")) (.int 27) ∈ flatC (Jvm.Cond.and given_1 narrow_1) ∧ Cond.isRef (.static Bundle.tN "UNASSIGNED_STACK" Bundle.steD) ∈ flatC (Jvm.Cond.and given_1 narrow_1) ∧ Cond.isRef (.static Bundle.tN "SUPPRESSED_SENTINEL" Bundle.listD) ∈ flatC (Jvm.Cond.and given_1 narrow_1) := by decide +kernel
theorem jm_nc0 : ∀ x ∈ jnc, Cond.not (.castable x.1 x.2) ∈ flatC (Jvm.Cond.and given_1 narrow_1) := by decide +kernel
theorem jm_ls0 : Cond.laysStatic "WhilePress" "KEYS" "[J" ∈ lw_tbl ∧ Cond.laysStatic "WhilePress" "STRENGTH" "[I" ∈ lw_tbl ∧ Cond.laysStatic Bundle.tN "UNASSIGNED_STACK" Bundle.steD ∈ lw_tbl ∧ Cond.laysStatic Bundle.tN "SUPPRESSED_SENTINEL" Bundle.listD ∈ lw_tbl ∧ Cond.initialized "WhilePress" ∈ lw_tbl := by decide +kernel
theorem jm_str0 : ∀ x ∈ jstr, Cond.stringRef "WhilePress" x.1 x.2 ∈ lw_tbl := by decide +kernel
set_option maxHeartbeats 4000000 in
/-- the law, from its entry, by the pure machine, to its own end -/
theorem jm_start_of {p : Program} {e : Env} {s : State} {m : MethodId} {below : List Frame} {meth : Method} {c : Code} (l : Launch) (hfl : l.flags = pinnedFlags ++ [noTraceFlag]) {b L : Nat} {xs : Nat → Int32} (C0 : lw_At p s m meth c b L xs)
    {z : Int32} {Z : List Frame → Array Value → State → State → Prop} {d k j : Nat} {S' : jm_S} (S0 : Nat → jm_c) (hrun : jm_goesL (L, xs) mL_law d 0 [(0, .ref 1000000)] [] (0, S0) (some (.int z)) S' k j) (hd : d ≤ 1300) (hk : k ≤ 601024) (hj : j ≤ 7293034)
    (hend : ∀ (H : Heap) (ls : Array Slot) (pc : Nat), decode code pc = .ok (.ireturn, 1) → W p l e room_1 s m #[Value.ref b] below meth c H [] 601024 7293034 (Z below #[Value.ref b] s) (F0 m pc ls [.int z])) :
    W p l e room_1 s m #[Value.ref b] below meth c s.heap [] 0 0 (Z below #[Value.ref b] s) (entryFrame m ([Value.ref b] : List Value).toArray 7) := by
  obtain ⟨hx, hb, hr, hml, hown, hts, hX, hbl, hlocks, hgv⟩ := C0
  have hjw : ∀ w ∈ jw, w.before #[Value.ref b] s = true := fun w hw => hts w (jw_tbl w hw)
  have hs := flat_of_before _ hgv
  have hA : ∀ a : Nat, a < s.heap.size → ¬ (fun q : Nat => s.heap.size ≤ q) a := fun a h => Nat.not_le.mpr h
  obtain ⟨D, dA, hK⟩ := jm_K0 hjw
  obtain ⟨tk, htk, hTk⟩ := va_Tof (tm := .static "WhilePress" "KEYS" "[J") (ty := .long) (N := jp_KEYS.length) (f := fun j => .long (jp_KEYS.getD j 0)) (A := fun q : Nat => s.heap.size ≤ q) (by decide) (hs _ jm_nar0.1) (va_eqt (hs _ jm_nar0.2.1)) (fun j hj => va_eqtl (hs _ (jm_KEYS0 j hj))) hA
  obtain ⟨tt, htt, hTt⟩ := va_Tof (tm := .static "WhilePress" "STRENGTH" "[I") (ty := .int) (N := jp_STR.length) (f := fun j => .int (jp_STR.getD j 0)) (A := fun q : Nat => s.heap.size ≤ q) (by decide) (hs _ jm_nar0.2.2.1) (va_eqt (hs _ jm_nar0.2.2.2.1)) (fun j hj => va_eqt (hs _ (jm_STR0 j hj))) hA
  have hZk := va_Zof (hts _ jm_ls0.1) (hts _ jm_ls0.2.2.2.2) htk hA
  have hZt := va_Zof (hts _ jm_ls0.2.1) (hts _ jm_ls0.2.2.2.2) htt hA
  have hs1 := jm_sf0 (hts _ jm_ls0.2.2.1) (hs _ jm_nar0.2.2.2.2.1) hA
  have hs2 := jm_sf0 (hts _ jm_ls0.2.2.2.1) (hs _ jm_nar0.2.2.2.2.2) hA
  have hTs : va_T .int b L (fun j => .int (xs j)) (fun q : Nat => s.heap.size ≤ q) s s.heap := by
    obtain ⟨scr, x1, x2, x3, x4, x5⟩ := hX
    exact ⟨scr, x1, x2, x3, Nat.le_of_eq x4.symm, by rw [x4], x5, hA b hbl⟩
  have hnst : jm_nst s := by
    refine ⟨fun w hw => va_Nw.of (jn_on w hw) (hts w (jn_tbl w hw)), fun x hx => ?_, fun x hx => va_Nc.of (hs _ (jm_nc0 x hx))⟩
    have hcur : s.vm.findClass "WhilePress" = some (D.1 0) := (hK.1 0 _ rfl).2.1
    obtain ⟨_, _, _, a, -, -, -, -, -, hev⟩ := Cond.stringRef_spec hcur (hts _ (jm_str0 x hx))
    exact ⟨a, vk_R.of (hts _ (jm_str0 x hx)) hev⟩
  have hl := lv_entry ([Value.ref b] : List Value) (n := 7) (Nat.le_of_ble_eq_true rfl)
  rw [lg_entry_eq]
  have hl2 : lv_has ((lg_sl [Value.ref b] ++ List.replicate (7 - (lg_sl [Value.ref b]).length) Slot.unset).toArray) 7 (jm_lv s.heap.size (fun q => if q = 1000000 then b else if q = 1000001 then tk else tt) [(0, .ref 1000000)]) := hl
  refine hrun p l e room_1 s m #[Value.ref b] below meth c D dA s.heap.size (fun q => if q = 1000000 then b else if q = 1000001 then tk else tt) s.heap [] 0 0 _ (Z below #[Value.ref b] s) hfl ⟨hx, hb, hml, hown, hjw, hnst, hK, ⟨hZk, hZt, hTs, hTk, hTt, hs1, hs2⟩, (fun h => by cases h), hlocks⟩ ⟨rfl, fun k hk => absurd hk (Nat.not_lt_zero k)⟩ va_S.rf hl2 (Nat.zero_le _) (by show d ≤ 2048; omega) (by show d * 64 ≤ 84000; omega) (by show 0 + k ≤ 601024; omega) (by show 0 + j ≤ 7293034; omega) ?_
  intro H1 locs1 ls1 pc1 i1 len1 w1 w2 w3 wd wr
  have hi : i1 = .ireturn ∧ len1 = 1 := by
    unfold jm_ret at wr
    split at wr
    · rename_i e3 _; cases e3
    · exact ⟨rfl, rfl⟩
    · rename_i e3 _; cases e3
    · rename_i e3 _; cases e3
    · cases wr
  obtain ⟨rfl, rfl⟩ := hi
  refine va_forget (fun q hq => w2.2.2 q hq) ?_
  refine W.widen (k := 601024) (n := 7293034) (by omega) (by omega) ?_
  exact hend _ _ _ wd
/-- the law, from its entry, by the pure machine -/
theorem jm_start {p : Program} {e : Env} {s : State} {m : MethodId} {below : List Frame} {meth : Method} {c : Code} (l : Launch) (hfl : l.flags = pinnedFlags ++ [noTraceFlag]) {b L : Nat} {xs : Nat → Int32} (C0 : lw_At p s m meth c b L xs)
    {d k j : Nat} {S' : jm_S} (S0 : Nat → jm_c) (hrun : jm_goesL (L, xs) mL_law d 0 [(0, .ref 1000000)] [] (0, S0) (some (.int 1)) S' k j) (hd : d ≤ 1300) (hk : k ≤ 601024) (hj : j ≤ 7293034) :
    W p l e room_1 s m #[Value.ref b] below meth c s.heap [] 0 0 (lw_Z below #[Value.ref b] s) (entryFrame m ([Value.ref b] : List Value).toArray 7) :=
  jm_start_of (Z := lw_Z) l hfl C0 S0 hrun hd hk hj fun _ _ _ wd => lw_ret C0.1 C0.2.1 C0.2.2.1 C0.2.2.2.2.2.2.2.2.1 wd
