/-! A THROW WHOSE TEXT IS FAR BACK IN THE POOL (ldc_w) -/
def jm_thrW (M : jm_M) (i : Instr) (len pc : Nat) : Option Nat := match i, len with
  | .new idx, 3 => (match jp_X (jm_q M) idx with
    | some ex => (match decode M.2.1 (pc + 3), decode M.2.1 (pc + 4), decode M.2.1 (pc + 7), decode M.2.1 (pc + 10) with
      | .ok (.dup, 1), .ok (.ldc_w k, 3), .ok (.invokespecial j, 3), .ok (.athrow, 1) => if jp_XS (jm_q M) k = true ∧ jp_XI (jm_q M) j = some ex then some ex else none
      | _, _, _, _ => none)
    | none => none)
  | _, _ => none
section JM12W
variable {p : Program} {l : Launch} {e : Env} {R : Room} {s : State} {m : MethodId} {args : Array Value} {below : List Frame} {meth : Method} {c : Code} {H : Heap} {locs : List Loc} {cells slots : Nat} {Q : State → Prop}
variable {D : va_G} {dA : Nat → ClassId} {base pc len pc' : Nat} {sa : Nat → Nat} {X : jm_X} {M N : jm_M} {i : Instr} {lv lv' : jm_L} {st st' : List Value} {S S' : jm_S} {ls : Array Slot} {cc : ByteArray} {rest : List Value}
theorem jm_ldcW (hexec : p.tables.exec = Jvm.exec) (hb : c.code = cc) {own tx : String} {index q : Nat} (hown : s.vm.findClass own = some m.cls) (hZ : vk_R own index tx q s) (hdg : decode cc pc = .ok (.ldc_w index, 3))
    (k : W p l e R s m args below meth c H locs cells slots Q (F0 m (pc + 3) ls (.ref q :: rest))) : W p l e R s m args below meth c H locs cells slots Q (F0 m pc ls rest) := by
  intro T hT X
  obtain ⟨t, a1, b1⟩ := k T hT X
  exact ⟨t, X.ldcStringW hexec hown (text := tx) (a := q) hZ.1 hZ.2 (g := F0 m pc ls rest) rfl (by rw [hb]; exact hdg) t a1, b1⟩
theorem jm_thrW_ok {ex : Nat} (C : jm_ctx p s m args meth c D dA base sa X M) (hfl : l.flags = pinnedFlags ++ [noTraceFlag]) (hno : c.exceptionTable.isEmpty = true) (hd : decode M.2.1 pc = .ok (i, len)) (h : jm_thrW M i len pc = some ex) (hl : lv_has ls M.2.2.1 (jm_lv base sa lv)) (hfr : 6 ≤ R.frames) (hlo : 384 ≤ R.locals) (hcat : (st.map fun v => v.category).sum ≤ 4) (hc : 1 ≤ R.cells) (hs : 6 ≤ R.slots) :
    W p l e R s m args below meth c s.heap [] 0 0 (jm_QT below s ex) (F0 m pc ls (st.map (jm_v base sa))) := by
  have hown3 := jm_own C
  obtain ⟨hx, hb, hml, hown, hts, hnn, hK, hst, hini, hlk⟩ := C
  unfold jm_thrW at h
  split at h
  · rename_i idx
    split at h
    · rename_i ex' hX
      obtain ⟨hq, hex, hcl⟩ := jp_X_ok _ _ _ hX
      split at h
      · rename_i k j d3 d4 d6 d9
        split at h
        · rename_i hcnd
          cases h
          obtain ⟨tx, htx⟩ := Option.isSome_iff_exists.mp hcnd.1
          obtain ⟨-, hmem⟩ := jp_XT_ok _ _ _ htx
          obtain ⟨qs, hqs⟩ := hnn.2.1 _ hmem
          have hic : j = jp_ic ex := by
            rcases (jp_XI_ok _ _ _ hcnd.2).2 with ⟨h1, h2⟩ | ⟨h1, h2⟩ | ⟨h1, h2⟩ <;> rw [h1, h2] <;> rfl
          rw [hq] at hown
          have hown : s.vm.findClass "WhilePress" = some m.cls := hown
          have hz : Cond.instantiable (jp_C (jp_nobj + ex)) 6 ∈ jw ∧ Cond.initialized (jp_C (jp_nobj + ex)) ∈ jw := by
            match ex, hex with
            | 0, _ => exact jz_0
            | 1, _ => exact jz_1
            | 2, _ => exact jz_2
            | k + 3, h => exact absurd h (by omega)
          have hcl16 := (jp_cl (jp_nobj + ex) (by show 13 + ex < 16; omega)).1
          have hfc := (hK.1 _ _ hcl16).2.1
          refine W.newcK hx hb hown (hts _ hcl) (hts _ hz.1) (hts _ hz.2) rfl hd (by omega) (by omega) hfc rfl fun H1 kC hkC e1 z1 o1 => ?_
          refine lv_dup hx hb d3 rfl ?_
          refine W.eq (g2 := F0 m (pc + 4) ls (.ref s.heap.size :: .ref s.heap.size :: st.map (jm_v base sa))) rfl ?_
          refine jm_ldcW hx hb hown hqs d4 ?_
          refine W.eq (g2 := F0 m (pc + 7) ls (.ref qs :: .ref s.heap.size :: .ref s.heap.size :: st.map (jm_v base sa))) rfl ?_
          intro T hT Z
          have htr : e.platform.stackTraces = false := Launch.traces_off hfl Z.admits
          have hfit : Bundle.fit (jp_C (jp_nobj + ex)) = true ∧ ∀ n ∈ ["java/lang/RuntimeException", "java/lang/Exception"], Bundle.fit n = true := by
            match ex, hex with
            | 0, _ => decide +kernel
            | 1, _ => decide +kernel
            | 2, _ => decide +kernel
            | k + 3, h => exact absurd h (by omega)
          have hout : ∀ x ∈ c.exceptionTable.toList, covers x (pc + 7 + 3) = false := by
            intro x hxx
            have : c.exceptionTable = #[] := by simpa using hno
            rw [this] at hxx
            simp at hxx
          obtain ⟨U, u1, u2, u3, u4, u5, ce, u6, u7⟩ := Z.ctorThrowS hx htr (own := "WhilePress") (cls := jp_C (jp_nobj + ex)) (names := ["java/lang/RuntimeException", "java/lang/Exception"]) (ic := jp_ic ex) hown hfit.1 hfit.2 (hown3 ex hex) (fun x hx => by cases hx)
            (a := s.heap.size) hfc hkC (by rw [hT]; exact e1) (Nat.le_refl _) (msg := .ref qs) rfl (g := F0 m (pc + 7) ls (.ref qs :: .ref s.heap.size :: .ref s.heap.size :: st.map (jm_v base sa))) rfl (by rw [hml]; exact hl.1) rfl rfl (rest := st.map (jm_v base sa)) rfl
            (by rw [hb, ← hic]; exact d6) (by rw [hb]; exact d9) hout (by show 2 + 3 < R.frames; omega) (by
              show 2 * 0 + (1 + ((st.map (jm_v base sa)).map fun v => v.category).sum) + (13 * (2 + 1) + 42) ≤ R.locals
              rw [jm_cats]
              omega) hlk
          exact ⟨U, u1, u2, u3, u4, u5, ce, u6, u7.cls, u7.vm⟩
        · cases h
      · cases h
    · cases h
  · cases h
theorem jgT_thrW {d ex : Nat} (hd : decode M.2.1 pc = .ok (i, len)) (hex : jm_thrW M i len pc = some ex) (h6 : 6 ≤ d) (hst : (st.map fun v => v.category).sum ≤ 4) : jm_goesT X M d pc lv st S ex := by
  intro p l e R s m args below meth c D dA base sa ls hfl C hno hH hl hlim hfr hlo hc hs
  exact jm_thrW_ok C hfl hno hd hex hl (by omega) (by omega) hst hc hs
end JM12W
