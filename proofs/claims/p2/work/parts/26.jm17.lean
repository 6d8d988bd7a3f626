/-! THE PURE MACHINE, part 17: calls of wrappers; the law's own run -/
def jm_wsW (r : jm_M × jm_Hh) : List Cond := Cond.codeWith r.1.1 r.1.2.1 r.1.2.2.1 r.1.2.2.2.1 r.2 :: jw
theorem jm_goodW {r : jm_M × jm_Hh} (h : jm_mokW r) : GoodIn jw (jm_wsW r) := by
  intro w hw
  have hm : w ∈ jw := by
    rcases List.mem_cons.mp hw with rfl | hw
    · exact h.1
    · exact hw
  exact ⟨hm, jw_good w hm⟩
theorem jm_metW (l : Launch) (hfl : l.flags = pinnedFlags ++ [noTraceFlag]) (X : jm_X) {N : jm_M × jm_Hh} (hok : jm_mokW N) (as : List Value) (hlen : (lg_sl as).length ≤ N.1.2.2.1) {d k n : Nat} {v : Option Value} {S S' : jm_S} (hlim : S.1 ≤ jm_lim) (body : jm_goesW X N.1 N.2 d 0 (lv_args 0 as) [] S v S' k n) (D : va_G) (dA : Nat → ClassId) (base : Nat) (sa : Nat → Nat) :
    Met l N.1.1 (jm_wsW N) (jm_room d k n) (va_Pc (as.map (jm_v base sa)) (jm_pre D dA base sa X S)) (jm_post D dA base sa v S') k n (fun q => base ≤ q) := by
  refine va_MetW (cc := N.1.2.1) (maxL := N.1.2.2.1) (ret := N.1.2.2.2.1) (hh := N.2) hok.2.2.1 rfl ?_
  intro p e s m args below meth c s₁ B hml hv
  obtain ⟨rfl, hH, hK, hn, hst⟩ := hv
  have hts := atoms_spec (ws := jm_wsW N) B.pre
  have hown : s.vm.findClass N.1.1.cls = some m.cls := findClass_of_methodNamed B.named
  have hlk := B.notSynchronized
  have hhh : jm_hh c N.2 := by
    obtain ⟨m9, meth9, c9, hn9, h1, h2, h3, h4, h5, -⟩ := Cond.codeWith_spec (hts _ List.mem_cons_self)
    cases B.named.symm.trans hn9
    cases B.method.symm.trans h1
    cases (Stand.of_body B).code.symm.trans h2
    exact h5
  have hl := lv_entry (as.map (jm_v base sa)) (n := N.1.2.2.1) (by rw [jm_sl_len]; exact hlen)
  rw [jm_args_eq] at hl
  rw [lg_entry_eq]
  refine body p l e _ s m _ below meth c D dA base sa s.heap [] 0 0 _ _ hfl hhh ⟨B.exec, B.bytes, hml, by rw [hok.2.2.2.2.2.2.2]; exact hown, fun w hw => hts w (List.mem_cons_of_mem _ hw), hn, hK, hst, fun h1 => ?_, hlk⟩ hH va_S.rf hl hlim (Nat.le_refl _) (Nat.le_refl _) (Nat.le_of_eq (Nat.zero_add _)) (Nat.le_of_eq (Nat.zero_add _)) ?_
  · rw [(name_of_methodNamed B.named B.method).1]
    exact hok.2.2.2.2.2.2.1 h1
  · intro H1 locs1 ls1 pc1 i1 len1 h1 h2 h3 hd hr
    rw [Nat.zero_add, Nat.zero_add]
    have hq : ∀ w : Option Value, w = v.map (jm_v base sa) → ∀ t : State, t.heap = H1 → s.WarmedH t.vm → jm_post D dA base sa v S' (as.map (jm_v base sa)).toArray s (.returned w) t := by
      intro w hw t ht hW
      exact ⟨by rw [hw], h3, by rw [ht]; exact h1, h2.F ht⟩
    have hret := B.returns
    unfold jm_ret at hr
    split at hr
    · rename_i e1 e2 e3 hvl
      cases hr
      exact W.iret B.exec B.bytes (by rw [hret, e3]) (hq _ rfl) h2.2.2 hd
    · rename_i e1 e2 e3 hvl
      split at hr
      · rename_i hx
        cases hr
        refine W.zret B.exec B.bytes (ty := .boolean) (by rw [hret, e3]) ?_ (hq _ rfl) h2.2.2 hd
        rcases hx with rfl | rfl <;> rfl
      · cases hr
    · rename_i e1 e2 e3 hvl
      cases hr
      exact W.lret B.exec B.bytes (by rw [hret, e3]) (hq _ rfl) h2.2.2 hd
    · rename_i e1 e2 e3 hvl
      cases hr
      exact W.vret B.exec B.bytes (by rw [hret, e3]) (hq _ rfl) h2.2.2 hd
    · cases hr
section JM17
variable {p : Program} {l : Launch} {e : Env} {R : Room} {s : State} {m : MethodId} {args : Array Value} {below : List Frame} {meth : Method} {c : Code} {H : Heap} {locs : List Loc} {cells slots : Nat} {Q : State → Prop}
/-- 'invokestatic' of a method with handlers -/
theorem jm_runSW {y : MethodName} {bytes cc : ByteArray} {maxL nL mc ms n index : Nat} {ret : Option FieldType} {hh : List (Nat × Nat × Nat × Nat)} {ws : List Cond} {rm : Room} {Pc : Array Value → State → Prop} {Qc : Array Value → State → Outcome → State → Prop} {free : Addr → Prop} {Ts : List Cond} {own : String} {As rest : List Value} {g : JFrame}
    (F : CallFix p m c cc nL s args Ts own) (hM : Met l y ws rm Pc Qc mc ms free) (hrc : rm.cells = mc) (hrs : rm.slots = ms) (hfr : rm.frames + 1 ≤ R.frames) (hlo : 8 + (maxL + 11) + rm.locals ≤ R.locals) (hws : ∀ w ∈ ws, ∀ (a' : Array Value) (U : State), s.WarmedH U.vm → w.before a' U = true) (hcw : Cond.codeWith y bytes maxL ret hh ∈ ws) (hcode : (Cond.codeWith y bytes maxL ret hh).before args s = true) (hini : (Cond.initialized y.cls).before args s = true) (hy : y.cls ≠ "java/lang/invoke/MethodHandle" ∧ y.cls ≠ "java/lang/invoke/VarHandle") (hlen : ∀ sig, parseMethodDescriptor y.desc = some sig → n = sig.parameters.length) (hl : (Cond.methodLink own index y).before args s = true) (hstt : (Cond.static y).before args s = true) (hp : PreS s H Pc As)
    (hg : g.method = m) (hn : As.length = n) (hsize : g.locals.size = nL) (hstack : g.stack = As.reverse ++ rest) (hW : 2 * g.monitorRoom + (rest.map fun v => v.category).sum ≤ 8) (hdg : decode cc g.pc = .ok (.invokestatic index, 3)) (hf : cells + mc ≤ R.cells ∧ slots + ms ≤ R.slots) :
    va_Run p l e R s m args below meth c H locs cells slots mc ms g rest (Qc As.toArray) (free) := by
  have hK : Back l R p e below s args y 3 8 (PreOf R mc ms Pc) (PostOf Qc mc ms free) := va_backW (bytes := bytes) (maxL := maxL) (ret := ret) (hh := hh) hM hp.1 hrc hrs hfr hlo hws hcw (fun a' U hW => word_at hW (Or.inl (by first | rfl | simp [Cond.onTables, Cond.keeps, Cond.steady])) hini)
  obtain ⟨hx, hb, hml, ho, -⟩ := F
  intro T hT Z
  obtain ⟨mk, methM, cM, hnamed, hmethM, hcM, -, -, -, -, -, hsigM⟩ := Cond.codeWith_spec hcode
  have hstatic : methM.isStatic = true := Cond.static_spec hnamed hmethM hstt
  obtain ⟨kP, hkP, -⟩ := className_of_methodNamed hnamed
  have hinitP : kP.init = .initialized := Cond.initialized_spec (findClass_of_methodNamed hnamed) hkP hini
  obtain ⟨vm₁, X₁, hstep₁⟩ := Z.invokestatic hx ho hl hnamed hmethM hstatic hkP hinitP hy (g := g) hg (argsL := As) (rest := rest) (hn.trans (hlen _ hsigM)) hstack (by rw [hb]; exact hdg)
  obtain ⟨v, ⟨U', l2, c2, s2⟩, X', ⟨g', mk', t, L, e1, e2, hq, h1, hL, h2, h3⟩, hsteps⟩ := hK m meth c ⟨T.setVm vm₁, locs, cells, slots⟩ { g with stack := rest } (.invokestatic index) mk As.toArray X₁ hg (hsize.trans hml.symm) (by rw [hb]; exact hdg) hW (X₁.named hnamed) ⟨hf.1, hf.2, hp.2 (T.setVm vm₁) hT X₁.warmed⟩
  dsimp only [Pt.U, Pt.locs, Pt.cells, Pt.slots] at X' e1 e2 h1 h2 h3 hsteps
  subst h1; subst h2; subst h3
  exact ⟨v, (T.setVm vm₁).calling g' mk' As.toArray, t, U', L, hT, X', hL, e1, e2, hq, fun target h => hstep₁ _ fun acts => by rw [doInvoke_state]; exact hsteps.trans h⟩
end JM17
