/-! THE PURE MACHINE, part 15: the law's own catches (a catch's class is resolved when it is first asked for) -/
/-- the search as it goes where the class is still to be resolved: as from the tables that resolution leaves -/
theorem jm_go_cold {E : CtlPost} {e : Env} {d : Bool} {acts : List Action} {s : State} {f : JFrame} {a : Addr} {Q : Handler → Pre} {x : ExceptionTableEntry} {t : List ExceptionTableEntry} {c : ClassId} {vm' : Vm} (hx : covers x f.pc = true) (h0 : x.catchType ≠ 0)
    (hg : (Jvm.resolveClass f.method.cls x.catchType).Gives e.toSetting s.vm (.ok c) vm') (hr : vm'.classReady f.method.cls x.catchType c) (hsz : vm'.classes.size ≤ s.vm.classes.size) :
    wp (findHandler.go f a (x :: t)) Q E e d acts s ↔ wp (findHandler.go f a (x :: t)) Q E e d acts (s.setVm vm') := by
  obtain ⟨ha, ht⟩ := hg.op (op := VmOp.resolveClass f.method.cls x.catchType) rfl
  obtain ⟨k, hkd, hres⟩ := hr
  simp only [covers] at hx
  simp [findHandler.go, hx, h0, ha, ht, hsz, resolveClass_memo e hkd hres, VmOp.dirties, VmOp.acts]
  exact Iff.rfl
/-- where a table of handlers sends an exception of the number ex, thrown at pc -/
def jm_find : List (Nat × Nat × Nat × Nat) → Nat → Nat → Option Nat
  | [], _, _ => none
  | x :: r, pc, ex => if x.1 ≤ pc ∧ pc < x.2.1 then (match jp_Lx x.2.2.2 with
    | some ex' => if ex' = ex then some x.2.2.1 else jm_find r pc ex
    | none => none) else jm_find r pc ex
theorem jm_find_ok {e : Env} {s : State} {m : MethodId} {args : Array Value} (hpl : e.platform.magicAccessors = ({} : Platform).magicAccessors) (hown : s.vm.findClass "WhilePressLaw" = some m.cls) (hts : ∀ w ∈ jw, w.before args s = true) (hnn : jm_nst s) {f : JFrame} (hf : f.method = m) {a : Addr} {U : State} {ex hp : Nat} (hex : ex < 3) {ce : Cell} (hce : U.heap[a]? = some ce) (hcls : s.vm.findClass (jp_C (jp_nobj + ex)) = some ce.cls) (hvm : ce.vm = .none) :
    ∀ (L : List ExceptionTableEntry), jm_find (L.map fun h => (h.startPc, h.endPc, h.handlerPc, h.catchType)) f.pc ex = some hp → ∀ vm : Vm, s.WarmedH vm →
      ∃ vm' : Vm, s.WarmedH vm' ∧ ∀ (Q : Handler → Pre) (E : CtlPost) (d : Bool) (acts : List Action), wp (findHandler.go f a L) Q E e d acts (U.setVm vm) ↔ Q (.found hp) d acts (U.setVm vm') := by
  intro L
  induction L with
  | nil => intro h; cases h
  | cons x t ih =>
    intro h vm hW
    rw [List.map_cons] at h
    unfold jm_find at h
    dsimp only at h
    split at h
    · rename_i hcov
      have hcov' : covers x f.pc = true := by simp [covers, hcov.1, hcov.2]
      split at h
      · rename_i ex' hX
        obtain ⟨hex', hlink, h0⟩ := jp_Lx_ok _ _ hX
        obtain ⟨c, hfc, hcl⟩ := Cond.classLink_spec hown (hts _ hlink) e.platform hpl
        obtain ⟨hg₁, hwarm₁, hready₁⟩ := State.classEntry (e := e) hW hcl
        rw [← hf] at hg₁ hwarm₁ hready₁
        have hsz : (vm.noted f.method.cls x.catchType (.cls c)).classes.size ≤ (U.setVm vm).vm.classes.size := by
          show _ ≤ vm.classes.size
          exact Vm.Alike.size_le (hW.alike.symm.trans hwarm₁.alike)
        generalize vm.noted f.method.cls x.catchType (.cls c) = vm₁ at hg₁ hwarm₁ hready₁ hsz
        have hcell : (U.setVm vm₁).heap[a]? = some ce := hce
        have hobj : ∀ k, ce.vm ≠ .statics k := fun k hk => by rw [hvm] at hk; cases hk
        have hk1 : ∃ k, (U.setVm vm₁).vm.classes[ce.cls]? = some k := by
          show ∃ k, vm₁.classes[ce.cls]? = some k
          exact Vm.classAt_of_findClass (by rw [hwarm₁.alike.findClass]; exact hcls)
        have hk2 : ∃ k, (U.setVm vm₁).vm.classes[c]? = some k := by
          show ∃ k, vm₁.classes[c]? = some k
          exact Vm.classAt_of_findClass (by rw [hwarm₁.alike.findClass]; exact hfc)
        split at h
        · rename_i heq
          cases h
          have hcc : c = ce.cls := by
            rw [heq] at hfc
            exact Option.some.inj (hfc.symm.trans hcls)
          have hass : (U.setVm vm₁).vm.assignable ce.cls c = true := by
            show vm₁.assignable ce.cls c = true
            rw [hwarm₁.alike.assignable]
            have hcast : Cond.castable (jp_C (jp_nobj + ex)) (jp_C (jp_nobj + ex)) ∈ jn := by
              match ex, hex with
              | 0, _ => decide +kernel
              | 1, _ => decide +kernel
              | 2, _ => decide +kernel
              | k + 3, h => exact absurd h (by omega)
            obtain ⟨c1, t1, g1, g2, g3⟩ := Cond.castable_spec (va_Nw.use (A := args) rfl (hnn.1 _ hcast))
            cases Option.some.inj (g1.symm.trans hcls)
            cases Option.some.inj (g2.symm.trans hcls)
            rw [hcc]
            exact g3
          refine ⟨vm₁, hwarm₁, fun Q E d acts => ?_⟩
          rw [jm_go_cold (s := U.setVm vm) hcov' h0 hg₁ hready₁ hsz]
          show wp (findHandler.go f a (x :: t)) Q E e d acts (U.setVm vm₁) ↔ _
          rw [W.findHandler_go_class (s := U.setVm vm₁) hcov' h0 hready₁ hcell hobj hk1 hk2, if_pos hass]
        · rename_i hne
          obtain ⟨vm', w1, w2⟩ := ih h vm₁ hwarm₁
          refine ⟨vm', w1, fun Q E d acts => ?_⟩
          have hass : (U.setVm vm₁).vm.assignable ce.cls c = false := by
            show vm₁.assignable ce.cls c = false
            rw [hwarm₁.alike.assignable]
            have hmem : (jp_C (jp_nobj + ex), jp_C (jp_nobj + ex')) ∈ jnc := by
              match ex, hex, ex', hex', hne with
              | 0, _, 0, _, hne => exact absurd rfl hne
              | 0, _, 1, _, _ => decide +kernel
              | 0, _, 2, _, _ => decide +kernel
              | 1, _, 0, _, _ => decide +kernel
              | 1, _, 1, _, hne => exact absurd rfl hne
              | 1, _, 2, _, _ => decide +kernel
              | 2, _, 0, _, _ => decide +kernel
              | 2, _, 1, _, _ => decide +kernel
              | 2, _, 2, _, hne => exact absurd rfl hne
              | k + 3, h, _, _, _ => exact absurd h (by omega)
              | _, _, k + 3, h, _ => exact absurd h (by omega)
            obtain ⟨c1, t1, g1, g2, g3⟩ := hnn.2.2 _ hmem
            cases Option.some.inj (g1.symm.trans hcls)
            cases Option.some.inj (g2.symm.trans hfc)
            exact g3
          rw [jm_go_cold (s := U.setVm vm) hcov' h0 hg₁ hready₁ hsz]
          show wp (findHandler.go f a (x :: t)) Q E e d acts (U.setVm vm₁) ↔ _
          rw [W.findHandler_go_class (s := U.setVm vm₁) hcov' h0 hready₁ hcell hobj hk1 hk2, if_neg (by rw [hass]; decide)]
          exact w2 Q E d acts
      · cases h
    · rename_i hcov
      obtain ⟨vm', w1, w2⟩ := ih h vm hW
      refine ⟨vm', w1, fun Q E d acts => ?_⟩
      rw [W.findHandler_go_skip (by
        have : ¬ (x.startPc ≤ f.pc ∧ f.pc < x.endPc) := hcov
        simp only [covers, Bool.and_eq_false_iff, decide_eq_false_iff_not]
        omega)]
      exact w2 Q E d acts
