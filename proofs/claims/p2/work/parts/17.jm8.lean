/-! THE PURE MACHINE, part 8: a run that returns, over the machine itself -/
theorem jm_args_eq (base : Nat) (sa : Nat → Nat) : ∀ (vs : List Value) (i : Nat), lv_args i (vs.map (jm_v base sa)) = jm_lv base sa (lv_args i vs) := by
  intro vs
  induction vs with
  | nil => intro i; rfl
  | cons v vs ih =>
    intro i
    show (i, jm_v base sa v) :: lv_args (if (jm_v base sa v).category = 2 then i + 2 else i + 1) (vs.map (jm_v base sa)) = (i, jm_v base sa v) :: jm_lv base sa (lv_args (if v.category = 2 then i + 2 else i + 1) vs)
    rw [jm_v_cat, ih]
theorem jm_sl_len (base : Nat) (sa : Nat → Nat) (vs : List Value) : (lg_sl (vs.map (jm_v base sa))).length = (lg_sl vs).length := by
  unfold lg_sl
  induction vs with
  | nil => rfl
  | cons v vs ih =>
    simp only [List.map_cons, List.flatMap_cons, List.length_append, jm_v_cat]
    rw [ih]
    congr 1
    split <;> rfl
theorem jm_sta.go {A : Nat → Prop} {sa : Nat → Nat} {X : jm_X} {s U : State} (h : jm_sta A sa X s) (hvm : s.vm.Alike U.vm) (hq : ∀ a : Nat, a < s.heap.size → ¬ A a → U.heap[a]? = s.heap[a]?) : jm_sta A sa X U := by
  obtain ⟨h1, h2, h3, h4, h5, h6, h7⟩ := h
  exact ⟨(h1.moved hvm).kept hq, (h2.moved hvm).kept hq, (h3.moved hvm).kept hq, (h4.moved hvm).kept hq, (h5.moved hvm).kept hq, h6.go hvm hq, h7.go hvm hq⟩
/-- what holds where a method begins -/
def jm_pre (D : va_G) (dA : Nat → ClassId) (base : Nat) (sa : Nat → Nat) (X : jm_X) (S : jm_S) (U : State) : Prop :=
  jm_H D jCl dA base sa S U.heap ∧ va_K D jCl (jm_tys dA) U ∧ jm_nst U ∧ jm_sta (fun q => base ≤ q) sa X U
theorem jm_pre_blind (D : va_G) (dA : Nat → ClassId) (base : Nat) (sa : Nat → Nat) (X : jm_X) (S : jm_S) (as : List Value) : FrameBlind (va_Pc as (jm_pre D dA base sa X S)) := by
  intro a U g mk q
  obtain ⟨q0, qH, qK, qn, qs⟩ := q
  exact ⟨q0, qH, va_K.moved (u := U) (U := U.calling g mk a) (Vm.Alike.refl U.vm) qK, qn.same rfl, qs.go (U := U.calling g mk a) (Vm.Alike.refl U.vm) (fun _ _ _ => rfl)⟩
/-- what holds where a method has returned -/
def jm_post (D : va_G) (dA : Nat → ClassId) (base : Nat) (sa : Nat → Nat) (v : Option Value) (S : jm_S) : Array Value → State → Outcome → State → Prop := fun _ st o t =>
  o = .returned (v.map (jm_v base sa)) ∧ S.1 ≤ jm_lim ∧ jm_H D jCl dA base sa S t.heap ∧ va_F (fun q => base ≤ q) st t
def jm_ws (N : jm_M) : List Cond := Cond.code N.1 N.2.1 N.2.2.1 N.2.2.2.1 :: jw
def jm_room (d k n : Nat) : Room := { frames := d, cells := k, slots := n, locals := d * 64 }
theorem jm_good {N : jm_M} (h : jm_mok N) : GoodIn jw (jm_ws N) := by
  intro w hw
  have hm : w ∈ jw := by
    rcases List.mem_cons.mp hw with rfl | hw
    · exact h.1
    · exact hw
  exact ⟨hm, jw_good w hm⟩
section JM8
variable {p : Program} {l : Launch} {e : Env} {R : Room} {s : State} {m : MethodId} {args : Array Value} {below : List Frame} {meth : Method} {c : Code} {H : Heap} {locs : List Loc} {cells slots : Nat} {Q : State → Prop}
variable {D : va_G} {dA : Nat → ClassId} {base pc : Nat} {sa : Nat → Nat} {X : jm_X} {M N : jm_M} {S S' : jm_S} {ls : Array Slot}
/-- behind a call that came back -/
theorem jm_back {v : Option Value} {k n : Nat} {st0 rest : List Value} {a : Array Value} (hr : va_Run p l e R s m args below meth c H locs cells slots k n (F0 m pc ls st0) rest (jm_post D dA base sa v S' a) (fun q => base ≤ q)) (hS : va_S (fun q => base ≤ q) s.heap H locs)
    (kk : ∀ (H1 : Heap) (locs1 : List Loc), S'.1 ≤ jm_lim → jm_H D jCl dA base sa S' H1 → va_S (fun q => base ≤ q) s.heap H1 locs1 → W p l e R s m args below meth c H1 locs1 (cells + k) (slots + n) Q (F0 m (pc + 3) ls ((v.map (jm_v base sa)).toList ++ rest))) : W p l e R s m args below meth c H locs cells slots Q (F0 m pc ls st0) := by
  intro T hT Z
  obtain ⟨v', st₀, t, T', L, h0, X', hL, e1, e2, ⟨hv, hle, hH, hz, hk⟩, st⟩ := hr T hT Z
  cases hv
  rw [h0] at hz hk
  obtain ⟨t2, a1, b1⟩ := kk T'.heap (locs ++ L) hle (by rw [e1]; exact hH)
    ⟨Nat.le_trans hS.1 (by rw [e1]; exact hz), fun q h1 h2 => by rw [e1, hk q (Nat.lt_of_lt_of_le h1 hS.1) h2]; exact hS.2.1 q h1 h2, fun q hq => by
      rcases List.mem_append.mp hq with h | h
      · exact hS.2.2 q h
      · exact hL q h⟩ T' rfl X'
  exact ⟨t2, st t2 a1, b1⟩
end JM8
/-- how a walk of a method goes on where it returns v with the store S' -/
def jm_hret (p : Program) (l : Launch) (e : Env) (R : Room) (s : State) (m : MethodId) (args : Array Value) (below : List Frame) (meth : Method) (c : Code) (D : va_G) (dA : Nat → ClassId) (base : Nat) (sa : Nat → Nat) (M : jm_M) (v : Option Value) (S' : jm_S) (cells slots : Nat) (Q : State → Prop) : Prop :=
  ∀ (H1 : Heap) (locs1 : List Loc) (ls1 : Array Slot) (pc1 : Nat) (i1 : Instr) (len1 : Nat), jm_H D jCl dA base sa S' H1 → va_S (fun q => base ≤ q) s.heap H1 locs1 → S'.1 ≤ jm_lim → decode M.2.1 pc1 = .ok (i1, len1) → jm_ret i1 len1 M.2.2.2.1 v.toList = some v → W p l e R s m args below meth c H1 locs1 cells slots Q (F0 m pc1 ls1 (v.toList.map (jm_v base sa)))
/-- a walk from pc on returns v with the store S', making k cells of n slots, nested at most d deep -/
def jm_goes (X : jm_X) (M : jm_M) (d pc : Nat) (lv : jm_L) (st : List Value) (S : jm_S) (v : Option Value) (S' : jm_S) (k n : Nat) : Prop :=
  ∀ (p : Program) (l : Launch) (e : Env) (R : Room) (s : State) (m : MethodId) (args : Array Value) (below : List Frame) (meth : Method) (c : Code) (D : va_G) (dA : Nat → ClassId) (base : Nat) (sa : Nat → Nat) (H : Heap) (locs : List Loc) (cells slots : Nat) (ls : Array Slot) (Q : State → Prop),
    jm_ctx p s m args meth c D dA base sa X M → jm_H D jCl dA base sa S H → va_S (fun q => base ≤ q) s.heap H locs → lv_has ls M.2.2.1 (jm_lv base sa lv) → S.1 ≤ jm_lim → d ≤ R.frames → d * 64 ≤ R.locals → cells + k ≤ R.cells → slots + n ≤ R.slots →
    jm_hret p l e R s m args below meth c D dA base sa M v S' (cells + k) (slots + n) Q → W p l e R s m args below meth c H locs cells slots Q (F0 m pc ls (st.map (jm_v base sa)))
theorem jm_met (l : Launch) (X : jm_X) {N : jm_M} (hok : jm_mok N) (as : List Value) (hlen : (lg_sl as).length ≤ N.2.2.1) {d k n : Nat} {v : Option Value} {S S' : jm_S} (hlim : S.1 ≤ jm_lim) (body : jm_goes X N d 0 (lv_args 0 as) [] S v S' k n) (D : va_G) (dA : Nat → ClassId) (base : Nat) (sa : Nat → Nat) :
    Met l N.1 (jm_ws N) (jm_room d k n) (va_Pc (as.map (jm_v base sa)) (jm_pre D dA base sa X S)) (jm_post D dA base sa v S') k n (fun q => base ≤ q) := by
  refine Met.ofW (cc := N.2.1) (maxL := N.2.2.1) (ret := N.2.2.2.1) hok.2.2.1 rfl ?_
  intro p e s m args below meth c s₁ B hml hv
  obtain ⟨rfl, hH, hK, hn, hst⟩ := hv
  have hts := atoms_spec (ws := jm_ws N) B.pre
  have hown : s.vm.findClass N.1.cls = some m.cls := findClass_of_methodNamed B.named
  have hlk := B.notSynchronized
  have hl := lv_entry (as.map (jm_v base sa)) (n := N.2.2.1) (by rw [jm_sl_len]; exact hlen)
  rw [jm_args_eq] at hl
  rw [lg_entry_eq]
  refine body p l e _ s m _ below meth c D dA base sa s.heap [] 0 0 _ _ ⟨B.exec, B.bytes, hml, by rw [hok.2.2.2.2.2.2.2]; exact hown, fun w hw => hts w (List.mem_cons_of_mem _ hw), hn, hK, hst, fun h1 => ?_, hlk⟩ hH va_S.rf hl hlim (Nat.le_refl _) (Nat.le_refl _) (Nat.le_of_eq (Nat.zero_add _)) (Nat.le_of_eq (Nat.zero_add _)) ?_
  · rw [(name_of_methodNamed B.named B.method).1]
    exact hok.2.2.2.2.2.2.1 h1
  · intro H1 locs1 ls1 pc1 i1 len1 h1 h2 h3 hd hr
    rw [Nat.zero_add, Nat.zero_add]
    have hq : ∀ w : Option Value, w = v.map (jm_v base sa) → ∀ t : State, t.heap = H1 → s.WarmedH t.vm → jm_post D dA base sa v S' (as.map (jm_v base sa)).toArray s (.returned w) t := by
      intro w hw t ht hW
      exact ⟨by rw [hw], h3, by rw [ht]; exact h1, h2.F ht⟩
    have hret := B.returns
    unfold jm_ret at hr
    split at hr
    · rename_i e1 e2 e3 hvl
      cases hr
      exact W.iret B.exec B.bytes (by rw [hret, e3]) (hq _ rfl) h2.2.2 hd
    · rename_i e1 e2 e3 hvl
      split at hr
      · rename_i hx
        cases hr
        refine W.zret B.exec B.bytes (ty := .boolean) (by rw [hret, e3]) ?_ (hq _ rfl) h2.2.2 hd
        rcases hx with rfl | rfl <;> rfl
      · cases hr
    · rename_i e1 e2 e3 hvl
      cases hr
      exact W.lret B.exec B.bytes (by rw [hret, e3]) (hq _ rfl) h2.2.2 hd
    · rename_i e1 e2 e3 hvl
      cases hr
      exact W.vret B.exec B.bytes (by rw [hret, e3]) (hq _ rfl) h2.2.2 hd
    · cases hr
