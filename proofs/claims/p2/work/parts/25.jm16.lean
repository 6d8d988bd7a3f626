/-! THE PURE MACHINE, part 16: the law's wrappers (methods with handlers) -/
theorem jm_stepV {e : Env} {s : State} {a : Addr} {f : JFrame} {r : List Frame} {pc : Nat} {vm' : Vm} (hfind : ∀ (Q : Handler → Pre) (E : CtlPost) (d : Bool) (acts : List Action), wp (findHandler f a) Q E e d acts s ↔ Q (.found pc) d acts (s.setVm vm')) :
    (stepThrowing e s a (.java f :: r)).Is ((s.setVm vm').setFrames (.java { f with pc := pc, stack := [.ref a] } :: r)) [] := by
  simp only [stepThrowing, searchFrame, vmDo]
  generalize hr : Sem.go _ e false [] s = res
  obtain ⟨as, rfl, ha⟩ := Sem.eq_ok_of hr (a := Handler.found pc) (s' := s.setVm vm') (acts' := []) (by simp [hfind _ _ _ _])
  exact ⟨rfl, ha⟩
theorem jm_caughtV {tb : Tables} {e : Env} {s target : State} {g : JFrame} {c : Code} {below : List Frame} {a : Addr} {pc : Nat} {vm' : Vm} (h : At s g.method c below)
    (hfind : ∀ (Q : Handler → Pre) (E : CtlPost) (d : Bool) (acts : List Action), wp (findHandler g a) Q E e d acts ((s.setTop g).pushFrame (.throwing a)) ↔ Q (.found pc) d acts (((s.setTop g).pushFrame (.throwing a)).setVm vm'))
    (hrest : Steps tb e below ((s.setVm vm').setTop { g with pc := pc, stack := [.ref a] }) target) : Steps tb e below ((s.setTop g).pushFrame (.throwing a)) target := by
  obtain ⟨hgo, hw⟩ := h.throwing a
  refine Steps.head hgo hw ?_
  rw [stepThread_throwing (frames_entered h.top _), (jm_stepV (s := (s.setTop g).pushFrame (.throwing a)) hfind).1]
  obtain ⟨g₀, hg⟩ := Option.isSome_iff_exists.mp h.top
  obtain ⟨r, hr⟩ := State.topJava?_eq_some.mp hg
  have hr' : (s.setVm vm').frames = .java g₀ :: r := hr
  rw [State.setTop_of_frames _ hr'] at hrest
  rw [State.pushFrame, State.setTop_of_frames _ hr]
  have e1 : ((((s.setFrames (.java g :: r)).setFrames (.throwing a :: (s.setFrames (.java g :: r)).frames)).setVm vm').setFrames (.java { g with pc := pc, stack := [.ref a] } :: s.frames.tail)) = (s.setVm vm').setFrames (.java { g with pc := pc, stack := [.ref a] } :: r) := by
    show ((((s.setFrames (.java g :: r)).setFrames (.throwing a :: (s.setFrames (.java g :: r)).frames)).setFrames (.java { g with pc := pc, stack := [.ref a] } :: s.frames.tail)).setVm vm') = (s.setFrames (.java { g with pc := pc, stack := [.ref a] } :: r)).setVm vm'
    rw [State.setFrames_setFrames, State.setFrames_setFrames, hr]
    rfl
  rw [e1]
  exact hrest
def jm_hh (c : Code) (hh : List (Nat × Nat × Nat × Nat)) : Prop := c.exceptionTable.toList.map (fun h => (h.startPc, h.endPc, h.handlerPc, h.catchType)) = hh
/-- a walk of a method with handlers returns -/
def jm_goesW (X : jm_X) (M : jm_M) (hh : List (Nat × Nat × Nat × Nat)) (d pc : Nat) (lv : jm_L) (st : List Value) (S : jm_S) (v : Option Value) (S' : jm_S) (k n : Nat) : Prop :=
  ∀ (p : Program) (l : Launch) (e : Env) (R : Room) (s : State) (m : MethodId) (args : Array Value) (below : List Frame) (meth : Method) (c : Code) (D : va_G) (dA : Nat → ClassId) (base : Nat) (sa : Nat → Nat) (H : Heap) (locs : List Loc) (cells slots : Nat) (ls : Array Slot) (Q : State → Prop),
    l.flags = pinnedFlags ++ [noTraceFlag] → jm_hh c hh → jm_ctx p s m args meth c D dA base sa X M → jm_H D jCl dA base sa S H → va_S (fun q => base ≤ q) s.heap H locs → lv_has ls M.2.2.1 (jm_lv base sa lv) → S.1 ≤ jm_lim → d ≤ R.frames → d * 64 ≤ R.locals → cells + k ≤ R.cells → slots + n ≤ R.slots →
    jm_hret p l e R s m args below meth c D dA base sa M v S' (cells + k) (slots + n) Q → W p l e R s m args below meth c H locs cells slots Q (F0 m pc ls (st.map (jm_v base sa)))
theorem jm_goes.w {X : jm_X} {M : jm_M} {d pc : Nat} {lv : jm_L} {st : List Value} {S : jm_S} {v : Option Value} {S' : jm_S} {k n : Nat} (h : jm_goes X M d pc lv st S v S' k n) (hh : List (Nat × Nat × Nat × Nat)) : jm_goesW X M hh d pc lv st S v S' k n :=
  fun p l e R s m args below meth c D dA base sa H locs cells slots ls Q _ _ => h p l e R s m args below meth c D dA base sa H locs cells slots ls Q
/-- the call in a wrapper throws, a handler takes it -/
def jm_catch (X : jm_X) (hh : List (Nat × Nat × Nat × Nat)) : Nat → Nat → jm_M → Nat → jm_L → List Value → jm_S → Option jm_O
  | 0, _, _, _, _, _, _ => none
  | n + 1, d, M, pc, lv, st, S => match decode M.2.1 pc with
    | .error _ => none
    | .ok (i, len) => match jm_rst X M i len pc lv st S with
      | some q => jm_catch X hh n d M q.1 q.2.1 q.2.2 S
      | none => match jm_inv M i len st S with
        | some q => if q.2.1 = 0 ∧ S.1 < jm_lim ∧ jm_q M = 13 then (match d with
          | 0 => none
          | d' + 1 => match jm_thw X n d' q.1 0 (lv_args 0 q.2.2.1) [] S with
            | some ex => if ex < 3 then (match jm_find hh pc ex with
              | some hp => jm_more 1 6 (jm_run X n (d' + 1) M hp lv [.ref S.1] (jm_add S (.inr (jp_nobj + ex, []))))
              | none => none) else none
            | none => none) else none
        | none => none
/-- the call in a wrapper throws, a handler takes it, and its walk returns -/
theorem jgW_catch {X : jm_X} {hh : List (Nat × Nat × Nat × Nat)} {d' pc hp len ex k j : Nat} {M N : jm_M} {lv : jm_L} {st as r : List Value} {S S' : jm_S} {v : Option Value} {i : Instr} (hd : decode M.2.1 pc = .ok (i, len)) (hq : jm_inv M i len st S = some (N, 0, as, r)) (hlt : S.1 < jm_lim) (hq13 : jm_q M = 13) (hex3 : ex < 3) (hfind : jm_find hh pc ex = some hp)
    (hbody : jm_goesT X N d' 0 (lv_args 0 as) [] S ex) (hrun : jm_goes X M (d' + 1) hp lv [.ref S.1] (jm_add S (.inr (jp_nobj + ex, []))) v S' k j) : jm_goesW X M hh (d' + 1) pc lv st S v S' (1 + k) (6 + j) := by
  intro p l e R s m args below meth c D dA base sa H locs cells slots ls Q hfl hhh C hH hS hl hlim hfr hlo hc hs hret
  intro T hT Z
  obtain ⟨T', X2, ⟨vm₁, hsame⟩, ⟨ce, c1, c2, c3⟩, hst⟩ := jm_thrown (T := T) hfl C hd hq (by rw [hT]; exact hH) (by rw [hT]; exact hS) hl hlim hfr hlo (by omega) (by omega) hbody Z
  have hTs : T.heap.size = base + S.1 := by rw [hT]; exact hH.1
  have hown13 : s.vm.findClass "WhilePressLaw" = some m.cls := by
    have := C.2.2.2.1
    rw [hq13] at this
    exact this
  have hpl : e.platform.magicAccessors = ({} : Platform).magicAccessors := by rw [Z.admits.platform]
  have hU : ((T'.setTop (F0 m pc ls (r.map (jm_v base sa)))).pushFrame (.throwing T.heap.size)).heap[T.heap.size]? = some ce := by
    rw [Stand.throwing_heap]
    exact c1
  obtain ⟨vm', w1, w2⟩ := jm_find_ok (U := (T'.setTop (F0 m pc ls (r.map (jm_v base sa)))).pushFrame (.throwing T.heap.size)) hpl hown13 C.2.2.2.2.1 C.2.2.2.2.2.1 (f := F0 m pc ls (r.map (jm_v base sa))) rfl hex3 hU c2 c3 c.exceptionTable.toList (by rw [hhh]; exact hfind) T'.vm X2.warmed
  have hfd : ∀ (Q : Handler → Pre) (E : CtlPost) (d : Bool) (acts : List Action), wp (findHandler (F0 m pc ls (r.map (jm_v base sa))) T.heap.size) Q E e d acts ((T'.setTop (F0 m pc ls (r.map (jm_v base sa)))).pushFrame (.throwing T.heap.size)) ↔ Q (.found hp) d acts (((T'.setTop (F0 m pc ls (r.map (jm_v base sa)))).pushFrame (.throwing T.heap.size)).setVm vm') := by
    intro Q E d acts
    rw [W.findHandler_eq (meth := meth) (code := c) (by rw [Stand.throwing_vm]; exact X2.method') X2.code]
    have := w2 Q E d acts
    have e9 : ((T'.setTop (F0 m pc ls (r.map (jm_v base sa)))).pushFrame (.throwing T.heap.size)).setVm T'.vm = (T'.setTop (F0 m pc ls (r.map (jm_v base sa)))).pushFrame (.throwing T.heap.size) := by
      have e8 := Stand.throwing_vm T' (F0 m pc ls (r.map (jm_v base sa))) T.heap.size
      rw [← e8]
      rfl
    rw [e9] at this
    exact this
  have X3 := X2.noted w1
  obtain ⟨-, z1, z2, -, -, z6⟩ := hsame
  have hsz1 : T'.heap.size = base + S.1 + 1 := by
    have q1 : T.heap.size < T'.heap.size := (Array.getElem?_eq_some_iff.mp c1).1
    have q2 : T'.heap.size ≤ T.heap.size + 1 := z2
    omega
  have hold : ∀ q, q < base + S.1 → T'.heap[q]? = T.heap[q]? := by
    intro q hq
    have hq' : q < T.heap.size := by omega
    obtain ⟨cc, hcc⟩ : ∃ cc, T.heap[q]? = some cc := ⟨_, Array.getElem?_eq_getElem hq'⟩
    obtain ⟨c', y1, y2, y3, y4⟩ := z6 q cc hcc
    have hsl : c'.slots = cc.slots := Array.ext_getElem? fun i => y4 i (by simp)
    rw [hsl] at y2
    rw [hcc]
    rw [y2] at y1
    exact y1
  have hcl16 := (jp_cl (jp_nobj + ex) (by show 13 + ex < 16; omega)).1
  have hcC := (C.2.2.2.2.2.2.1.1 _ _ hcl16).2.1
  have hN0 : jp_N (jp_nobj + ex) = 0 := by
    match ex, hex3 with
    | 0, _ => rfl
    | 1, _ => rfl
    | 2, _ => rfl
    | k + 3, h => exact absurd h (by omega)
  have hH2 : jm_H D jCl dA base sa (jm_add S (.inr (jp_nobj + ex, []))) T'.heap := by
    refine hH.add hsz1 (fun q hq => by rw [hold q hq, hT]) ?_
    refine ⟨_, hcl16, ce, by rw [← hTs]; exact c1, ?_, c3, ?_⟩
    · exact Option.some.inj (c2.symm.trans hcC)
    · intro k hk
      rw [hN0] at hk
      exact absurd hk (Nat.not_lt_zero k)
  have hS2 : va_S (fun q => base ≤ q) s.heap T'.heap locs := by
    refine ⟨Nat.le_trans hS.1 (by rw [hsz1, ← hH.1]; omega), fun q h1 h2 => ?_, hS.2.2⟩
    rw [hold q (by have : ¬ base ≤ q := h2; omega), hT]
    exact hS.2.1 q h1 h2
  have w := hrun p l e R s m args below meth c D dA base sa T'.heap locs (cells + 1) (slots + 6) ls Q C hH2 hS2 hl hlt hfr hlo (by omega) (by omega) (by rw [Nat.add_assoc, Nat.add_assoc]; exact hret)
  obtain ⟨t, a1, b1⟩ := w (T'.setVm vm') rfl X3
  refine ⟨t, hst t (jm_caughtV (c := c) X2.here hfd ?_), b1⟩
  have e7 : jm_a base sa S.1 = T.heap.size := by rw [hTs]; exact if_pos hlt
  have a1' : Steps p.tables e below ((T'.setVm vm').setTop (F0 m hp ls [.ref (jm_a base sa S.1)])) t := a1
  rw [e7] at a1'
  exact a1'
theorem jm_catch_ok (X : jm_X) (hh : List (Nat × Nat × Nat × Nat)) : ∀ (n d : Nat) (M : jm_M) (pc : Nat) (lv : jm_L) (st : List Value) (S : jm_S) (v : Option Value) (S' : jm_S) (k j : Nat), jm_catch X hh n d M pc lv st S = some (0, v, S', k, j) → jm_goesW X M hh d pc lv st S v S' k j := by
  intro n
  induction n with
  | zero => intro d M pc lv st S v S' k j h; cases h
  | succ n ih =>
    intro d M pc lv st S v S' k j h
    intro p l e R s m args below meth c D dA base sa H locs cells slots ls Q hfl hhh C hH hS hl hlim hfr hlo hc hs hret
    unfold jm_catch at h
    split at h
    · cases h
    · rename_i i len hd
      split at h
      · rename_i q hq
        obtain ⟨pc1, lv1, st1⟩ := q
        exact jm_rst_ok C hd hq hH hl hlim (fun ls1 h1 => ih d M pc1 lv1 st1 S v S' k j h p l e R s m args below meth c D dA base sa H locs cells slots ls1 Q hfl hhh C hH hS h1 hlim hfr hlo hc hs hret)
      · split at h
        · rename_i q hq
          obtain ⟨N, f, as, r⟩ := q
          split at h
          · rename_i hcnd
            obtain ⟨hf, hlt, hq13⟩ := hcnd
            dsimp only at hf
            subst hf
            match d, h, hfr, hlo with
            | 0, h, _, _ => cases h
            | d' + 1, h, hfr, hlo =>
              dsimp only at h
              split at h
              · rename_i ex hex
                split at h
                · rename_i hex3
                  split at h
                  · rename_i hp hfind
                    obtain ⟨a', b', h1, rfl, rfl⟩ := jm_more_some h
                    exact jgW_catch hd hq hlt hq13 hex3 hfind (jm_thw_ok X n d' N 0 _ [] S ex hex) (jm_run_ok X n (d' + 1) M hp lv [.ref S.1] (jm_add S (.inr (jp_nobj + ex, []))) v S' a' b' h1) p l e R s m args below meth c D dA base sa H locs cells slots ls Q hfl hhh C hH hS hl hlim hfr hlo hc hs hret
                  · cases h
                · cases h
              · cases h
          · cases h
        · cases h
