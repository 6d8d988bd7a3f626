/-! THE PURE MACHINE, part 13: a call that throws -/
/-- what holds where a method has thrown -/
def jm_postT (ex : Nat) : Array Value → State → Outcome → State → Prop := fun _ st o t =>
  o = .threw st.heap.size ∧ st.WarmedH t.vm ∧ st.sameButNew ({ t with vm := st.vm } : State) [] 1 6 ∧ ∃ ce : Cell, t.heap[st.heap.size]? = some ce ∧ st.vm.findClass (jp_C (jp_nobj + ex)) = some ce.cls ∧ ce.vm = .none
def jm_MT (l : Launch) (X : jm_X) (N : jm_M) (d : Nat) (as : List Value) (S : jm_S) (ex : Nat) (D : va_G) (dA : Nat → ClassId) (base : Nat) (sa : Nat → Nat) : Prop :=
  MetFree l N.1 (headSpec (jm_ws N) (jm_room d 1 6)) (va_Pc (as.map (jm_v base sa)) (jm_pre D dA base sa X S)) (fun _ _ _ _ _ => True) (jm_postT ex)
/-- a walk from pc on throws -/
def jm_goesT (X : jm_X) (M : jm_M) (d pc : Nat) (lv : jm_L) (st : List Value) (S : jm_S) (ex : Nat) : Prop :=
  ∀ (p : Program) (l : Launch) (e : Env) (R : Room) (s : State) (m : MethodId) (args : Array Value) (below : List Frame) (meth : Method) (c : Code) (D : va_G) (dA : Nat → ClassId) (base : Nat) (sa : Nat → Nat) (ls : Array Slot),
    l.flags = pinnedFlags ++ [noTraceFlag] → jm_ctx p s m args meth c D dA base sa X M → c.exceptionTable.isEmpty = true → jm_H D jCl dA base sa S s.heap → lv_has ls M.2.2.1 (jm_lv base sa lv) → S.1 ≤ jm_lim → d ≤ R.frames → d * 64 ≤ R.locals → 1 ≤ R.cells → 6 ≤ R.slots →
    W p l e R s m args below meth c s.heap [] 0 0 (jm_QT below s ex) (F0 m pc ls (st.map (jm_v base sa)))
theorem jm_metT (l : Launch) (hfl : l.flags = pinnedFlags ++ [noTraceFlag]) (X : jm_X) {N : jm_M} (hok : jm_mok N) (as : List Value) (hlen : (lg_sl as).length ≤ N.2.2.1) {d ex : Nat} {S : jm_S} (hlim : S.1 ≤ jm_lim) (body : jm_goesT X N d 0 (lv_args 0 as) [] S ex) (D : va_G) (dA : Nat → ClassId) (base : Nat) (sa : Nat → Nat) :
    jm_MT l X N d as S ex D dA base sa := by
  refine MetFree.of_bodyS (code := N.2.1) (maxLocals := N.2.2.1) (ret := N.2.2.2.1) hok.2.2.1 ?_ ?_
  · intro args s m h hn
    obtain ⟨meth, c, h1, h2, h3, h4, h5, h6, -, -⟩ := Cond.code_spec hn (atoms_spec (ws := jm_ws N) h _ List.mem_cons_self)
    exact ⟨meth, c, h1, h2, h3, h4, h5, h6⟩
  · intro p e s m args below meth c s₁ B hml hv _
    obtain ⟨rfl, hH, hK, hn, hst⟩ := hv
    have hh0 : s₁.heap = s.heap := by rw [B.state]; rfl
    have hts := atoms_spec (ws := jm_ws N) B.pre
    have hown : s.vm.findClass N.1.cls = some m.cls := findClass_of_methodNamed B.named
    have hlk := B.notSynchronized
    have hno := BodyLoose.noHandlers B (hts _ List.mem_cons_self)
    have hl := lv_entry (as.map (jm_v base sa)) (n := N.2.2.1) (by rw [jm_sl_len]; exact hlen)
    rw [jm_args_eq] at hl
    have w := body p l e (jm_room d 1 6) s m _ below meth c D dA base sa _ hfl ⟨B.exec, B.bytes, hml, by rw [hok.2.2.2.2.2.2.2]; exact hown, fun w hw => hts w (List.mem_cons_of_mem _ hw), hn, hK, hst, fun h1 => by rw [(name_of_methodNamed B.named B.method).1]; exact hok.2.2.2.2.2.2.1 h1, hlk⟩ hno hH hl hlim (Nat.le_refl _) (Nat.le_refl _) (Nat.le_refl _) (Nat.le_refl _)
    rw [lg_entry_eq]
    obtain ⟨t, a1, b1, b2, b3, b4, b5⟩ := w s₁ hh0 (Stand.of_body B)
    exact ⟨t, .threw s.heap.size, a1, b1, b2, rfl, b3, b4, b5⟩
section JM13
variable {p : Program} {l : Launch} {e : Env} {R : Room} {s : State} {m : MethodId} {args : Array Value} {below : List Frame} {meth : Method} {c : Code} {T : State} {locs : List Loc} {cells slots : Nat}
/-- 'invokevirtual' of a method that throws: the note lies over the caller's frame -/
theorem jm_callT (Z : Stand p l e R s m args below meth c T locs cells slots) (hx : p.tables.exec = Jvm.exec) {own C : String} {index : Nat} {y : MethodName} {bytes : ByteArray} {maxL : Nat} {ret : Option FieldType}
    (hown : s.vm.findClass own = some m.cls) (hlink : (Cond.methodLink own index y).before args s = true) (hinst : (Cond.instanceMethod y).before args s = true) (hsel : (Cond.selects C y y).before args s = true) (hcode : (Cond.code y bytes maxL ret).before args s = true) (hini : (Cond.initialized y.cls).before args s = true) (hy : y.cls ≠ "java/lang/invoke/MethodHandle" ∧ y.cls ≠ "java/lang/invoke/VarHandle")
    {ws : List Cond} {rm : Room} {Pc : Array Value → State → Prop} {ex : Nat} (hM : MetFree l y (headSpec ws rm) Pc (fun _ _ _ _ _ => True) (jm_postT ex)) (hblind : FrameBlind Pc) (hws : ∀ w ∈ ws, ∀ (a' : Array Value) (U : State), s.WarmedH U.vm → w.before a' U = true) (hcw : Cond.code y bytes maxL ret ∈ ws)
    (hfr : rm.frames + 1 ≤ R.frames) (hlo : 8 + (maxL + 11) + rm.locals ≤ R.locals) (hcl : cells + rm.cells ≤ R.cells) (hsl : slots + rm.slots ≤ R.slots)
    {b : Addr} {cellB : Cell} (hcell : T.heap[b]? = some cellB) (hobj : cellB.vm.isStatics = false) (hcls : s.vm.findClass C = some cellB.cls)
    {g : JFrame} (hg : g.method = m) (hsize : g.locals.size = c.maxLocals) {argsL rest : List Value} (hlen : ∀ sig, parseMethodDescriptor y.desc = some sig → argsL.length = sig.parameters.length)
    (hstack : g.stack = argsL.reverse ++ .ref b :: rest) (hW : 2 * g.monitorRoom + (rest.map fun v => v.category).sum ≤ 8) (hdg : decode c.code g.pc = .ok (.invokevirtual index, 3))
    (hpre : ∀ vm₁, s.WarmedH vm₁ → Pc (Value.ref b :: argsL).toArray (T.setVm vm₁)) :
    ∃ T' : State, Stand p l e R s m args below meth c T' locs (cells + 1) (slots + 6) ∧ (∃ vm₁ : Vm, (T.setVm vm₁).sameButNew (T'.setVm vm₁) [] 1 6) ∧ (∃ ce : Cell, T'.heap[T.heap.size]? = some ce ∧ s.vm.findClass (jp_C (jp_nobj + ex)) = some ce.cls ∧ ce.vm = .none) ∧
      ∀ target, Steps p.tables e below ((T'.setTop { g with stack := rest }).pushFrame (.throwing T.heap.size)) target → Steps p.tables e below (T.setTop g) target := by
  obtain ⟨mk, methM, hnamed, hmethM, hstM, habM⟩ := Cond.instanceMethod_spec hinst
  obtain ⟨methM', cM, hmethM', hcodeM, -, hlocM, -, -, -, hsigM⟩ := Cond.code_spec hnamed hcode
  cases hmethM.symm.trans hmethM'
  obtain ⟨c2, r2, m2, q1, q2, q3, q4, kP, hkP, hkPi⟩ := Cond.selects_spec hsel
  cases hcls.symm.trans q1
  cases (State.methodFound?_of_named hnamed hy).symm.trans q2
  cases hnamed.symm.trans q3
  have hselP : selectMethod e.platform s.vm cellB.cls mk = .method mk := by rw [Launch.admits_selectMethod Z.admits]; exact q4
  obtain ⟨vm₁, X₁, hstep₁⟩ := Z.invokevirtual hx hown hlink hnamed hmethM hstM hkP hkPi hy (a := b) (cell := cellB) hcell
    (fun z h => by rw [h] at hobj; cases hobj) hselP hmethM habM hkP hkPi (g := g) hg (argsL := argsL) (rest := rest) (hlen _ hsigM) hstack hdg
  have hn1 := X₁.named hnamed
  have hW1 : s.WarmedH (T.setVm vm₁).vm := X₁.warmed
  have h : At (T.setVm vm₁) ({ g with stack := rest } : JFrame).method c below := by
    show At (T.setVm vm₁) g.method c below
    rw [hg]; exact X₁.here
  have hcodeU := hws _ hcw (Value.ref b :: argsL).toArray (T.setVm vm₁) hW1
  obtain ⟨methY, cY, hmY, hcY, -, hlY, -, -, -, -⟩ := Cond.code_spec hn1 hcodeU
  obtain ⟨kY, hkY, -⟩ := className_of_methodNamed hn1
  have hiniU : (Cond.initialized y.cls).before (Value.ref b :: argsL).toArray (T.setVm vm₁) = true := word_at hW1 (Or.inl rfl) hini
  have hinitY : kY.init = .initialized := Cond.initialized_spec (findClass_of_methodNamed hn1) hkY hiniU
  have h1 : (headSpec ws rm).pre.before (Value.ref b :: argsL).toArray (T.setVm vm₁) = true := atoms_intro fun w hw => hws w hw _ _ hW1
  have happ : (headSpec ws rm).appliesLoose y e.platform ((T.setVm vm₁).calling { g with stack := rest } mk (Value.ref b :: argsL).toArray) = true :=
    Spec.appliesLoose_calling (g := { g with stack := rest }) h hdg hn1 hkY hinitY
      (X₁.room_calling (g := { g with stack := rest }) (R' := rm) hsize hmY hcY hfr (by rw [hlY]; dsimp only; omega) hcl hsl) h1
  obtain ⟨mid, hmid⟩ := h.above
  have hfr2 : ((T.setVm vm₁).setTop { g with stack := rest }).frames = (.java { g with stack := rest } :: mid) ++ below := by rw [State.frames_setTop' { g with stack := rest } h.top, hmid]; rfl
  obtain ⟨o, s₂, hsteps, -, hend, hq⟩ := Steps.callFree hM p X₁.admits X₁.cas X₁.clock (acts := []) hfr2 happ (hblind _ _ { g with stack := rest } mk (hpre vm₁ X₁.warmed)) trivial
  rw [State.frames_setTop' { g with stack := rest } h.top] at hend
  obtain ⟨rfl, hW2, hsame, ce, hce1, hce2, hce3⟩ := hq
  obtain ⟨g₀, hgf⟩ := X₁.frames_eq
  have htail : (T.setVm vm₁).frames.tail = below := by rw [hgf]; rfl
  rw [htail] at hend
  obtain ⟨T', X2, hW3, hs3, ht⟩ := X₁.outOfThrown (g := { g with stack := rest }) hg (mk := mk) (a := (Value.ref b :: argsL).toArray) hend hW2 hsame
  have hheap : s₂.heap = T'.heap := by rw [ht]; exact throwing_heap T' { g with stack := rest } _
  refine ⟨T', by simpa using X2, ⟨vm₁, hs3⟩, ⟨ce, by rw [← hheap]; exact hce1, ?_, hce3⟩, fun target htg => hstep₁ _ fun acts => ?_⟩
  · have : (T.setVm vm₁).vm.findClass (jp_C (jp_nobj + ex)) = some ce.cls := hce2
    rw [← X₁.warmed.alike.findClass]
    exact this
  · rw [doInvoke_state]
    refine hsteps.trans ?_
    rw [ht]
    exact htg
end JM13
