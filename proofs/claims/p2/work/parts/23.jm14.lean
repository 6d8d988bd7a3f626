/-! THE PURE MACHINE, part 14: what the pure machine says of a method that throws -/
section JM14
variable {p : Program} {l : Launch} {e : Env} {R : Room} {s : State} {m : MethodId} {args : Array Value} {below : List Frame} {meth : Method} {c : Code} {H : Heap}
variable {D : va_G} {dA : Nat → ClassId} {base pc len : Nat} {sa : Nat → Nat} {X : jm_X} {M N : jm_M} {S S' : jm_S} {ls : Array Slot} {i : Instr} {lv : jm_L} {st : List Value}
/-- what a virtual call asks: the entry, the receiver, the stack -/
theorem jm_inv_v {as r : List Value} (hK : va_K D jCl (jm_tys dA) s) (h : jm_inv M i len st S = some (N, 0, as, r)) (hH : jm_H D jCl dA base sa S H) (hlim : S.1 ≤ jm_lim) :
    ∃ idx a, i = .invokevirtual idx ∧ len = 3 ∧ jp_M_P (jm_q M) idx (N, 0) ∧ as.map (jm_v base sa) = .ref (base + a) :: ((st.take (jm_n N)).reverse).map (jm_v base sa) ∧ st.map (jm_v base sa) = (((st.take (jm_n N)).reverse).map (jm_v base sa)).reverse ++ .ref (base + a) :: r.map (jm_v base sa) ∧
      (∃ cell : Cell, H[base + a]? = some cell ∧ cell.vm.isStatics = false ∧ s.vm.findClass N.1.cls = some cell.cls) ∧ ((st.take (jm_n N)).reverse.map (jm_v base sa)).length = jm_n N ∧ (r.map fun v => v.category).sum ≤ 8 ∧ (lg_sl as).length ≤ N.2.2.1 := by
  unfold jm_inv at h
  split at h
  · rename_i idx
    split at h
    · rename_i N' hN
      have hP := jp_M_ok _ _ _ hN
      split at h
      · rename_i a r' hdrop
        split at h
        · rename_i hcnd
          split at h
          · rename_i o ho
            split at h
            · rename_i ho1
              cases h
              have e2 : jm_v base sa (.ref a) = .ref (base + a) := congrArg Value.ref (jm_a_lo hcnd.1 hlim)
              refine ⟨idx, a, rfl, rfl, hP, by rw [List.map_cons, e2], ?_, ?_, ?_, hcnd.2.2.1, hcnd.2.2.2⟩
              · rw [← List.map_reverse, List.reverse_reverse]
                have e1 : st = st.take (jm_n N) ++ (.ref a :: r) := by rw [← hdrop]; exact (List.take_append_drop _ _).symm
                rw [← e2, ← List.map_cons, ← List.map_append, ← e1]
              · have hq := hP.1.2.2.2.2.2.2.2
                have hcls : jp_C o.1 = N.1.cls := by rw [ho1, ← jp_OC _ hcnd.2.1]; exact hq
                have hcl := (jp_cl o.1 (by rw [ho1]; exact Nat.lt_of_lt_of_le hcnd.2.1 (by decide))).1
                have hrec := va_recv hK (jm_one (hH.2 a hcnd.1)) (ci := o.1) (q0 := 0) hcl (by rw [ho]; rfl)
                rw [hcls] at hrec
                exact hrec
              · have : jm_n N ≤ st.length := by
                  rcases Nat.lt_or_ge (jm_n N) st.length with z | z
                  · omega
                  · rw [List.drop_eq_nil_of_le z] at hdrop; cases hdrop
                simp [Nat.min_eq_left this]
            · cases h
          · cases h
        · cases h
      · cases h
    · cases h
  · split at h
    · split at h
      · rename_i hcnd
        cases h
        rcases hcnd.1 with h1 | h1 <;> cases h1
      · cases h
    · cases h
  · split at h
    · split at h
      · split at h
        · rename_i hcnd
          cases h
          rcases hcnd.1 with h1 | h1 <;> cases h1
        · cases h
      · cases h
    · cases h
  · cases h
/-- a virtual call of a method that throws, at any point of a walk -/
theorem jm_thrown {d ex : Nat} {as r : List Value} {T : State} {locs : List Loc} {cells slots : Nat} (hfl : l.flags = pinnedFlags ++ [noTraceFlag]) (C : jm_ctx p s m args meth c D dA base sa X M) (hd : decode M.2.1 pc = .ok (i, len)) (h : jm_inv M i len st S = some (N, 0, as, r)) (hH : jm_H D jCl dA base sa S T.heap) (hS : va_S (fun q => base ≤ q) s.heap T.heap locs) (hl : lv_has ls M.2.2.1 (jm_lv base sa lv)) (hlim : S.1 ≤ jm_lim) (hfr : d + 1 ≤ R.frames) (hlo : (d + 1) * 64 ≤ R.locals) (hc : cells + 1 ≤ R.cells) (hsl : slots + 6 ≤ R.slots)
    (body : jm_goesT X N d 0 (lv_args 0 as) [] S ex) (Z : Stand p l e R s m args below meth c T locs cells slots) :
    ∃ T' : State, Stand p l e R s m args below meth c T' locs (cells + 1) (slots + 6) ∧ (∃ vm₁ : Vm, (T.setVm vm₁).sameButNew (T'.setVm vm₁) [] 1 6) ∧ (∃ ce : Cell, T'.heap[T.heap.size]? = some ce ∧ s.vm.findClass (jp_C (jp_nobj + ex)) = some ce.cls ∧ ce.vm = .none) ∧
      ∀ target, Steps p.tables e below ((T'.setTop (F0 m pc ls (r.map (jm_v base sa)))).pushFrame (.throwing T.heap.size)) target → Steps p.tables e below (T.setTop (F0 m pc ls (st.map (jm_v base sa)))) target := by
  obtain ⟨hx, hb, hml, hown, hts, hnn, hK, hst, hini, hlk⟩ := C
  obtain ⟨idx, a, rfl, rfl, ⟨hok, hl1, hl2, hl3⟩, eas, est, ⟨cell, r1, r2, r3⟩, hn, hcat, hlen⟩ := jm_inv_v (base := base) (sa := sa) hK h hH hlim
  have hok : jm_mok N := hok
  have hM := jm_metT l hfl X hok as hlen hlim body D dA base sa
  refine jm_callT Z hx (C := N.1.cls) (bytes := N.2.1) (maxL := N.2.2.1) (ret := N.2.2.2.1) hown (hts _ hl1) (hts _ hl2) (hts _ hl3) (hts _ hok.1) (hts _ hok.2.1) hok.2.2.2.1 hM (jm_pre_blind D dA base sa X S _) (pay_in hts (jm_good hok)) List.mem_cons_self hfr (by
      have h40 := hok.2.2.2.2.2.1
      show 8 + (N.2.2.1 + 11) + d * 64 ≤ R.locals
      omega) hc hsl r1 r2 r3 (g := F0 m pc ls (st.map (jm_v base sa))) rfl (by rw [hml]; exact hl.1) (argsL := (st.take (jm_n N)).reverse.map (jm_v base sa)) (rest := r.map (jm_v base sa)) ?_ est (by rw [jm_cats]; show 2 * 0 + _ ≤ 8; omega) (by rw [hb]; exact hd) ?_
  · intro sig hsig
    have h2 := hok.2.2.2.2.1
    rw [hsig] at h2
    rw [hn]
    exact (Option.some.inj h2).symm
  · intro vm₁ hW
    refine ⟨by rw [eas], hH, va_K.moved (u := s) (U := T.setVm vm₁) hW.alike hK, hnn.go (U := T.setVm vm₁) hW, hst.go (U := T.setVm vm₁) hW.alike (fun q h1 h2 => hS.2.1 q h1 h2)⟩
end JM14
theorem jm_thw_ok (X : jm_X) : ∀ (n d : Nat) (M : jm_M) (pc : Nat) (lv : jm_L) (st : List Value) (S : jm_S) (ex : Nat), jm_thw X n d M pc lv st S = some ex → jm_goesT X M d pc lv st S ex := by
  intro n
  induction n with
  | zero => intro d M pc lv st S ex h; cases h
  | succ n ih =>
    intro d M pc lv st S ex h
    intro p l e R s m args below meth c D dA base sa ls hfl C hno hH hl hlim hfr hlo hc hs
    unfold jm_thw at h
    split at h
    · cases h
    · rename_i i len hd
      split at h
      · rename_i q hq
        obtain ⟨pc1, lv1, st1⟩ := q
        exact jm_rst_ok C hd hq hH hl hlim (fun ls1 h1 => ih d M pc1 lv1 st1 S ex h p l e R s m args below meth c D dA base sa ls1 hfl C hno hH h1 hlim hfr hlo hc hs)
      · split at h
        · rename_i ex' hex
          split at h
          · rename_i hcnd
            cases h
            exact jm_thr_ok C hfl hno hd hex hl (by omega) (by omega) hcnd.2.1 hc hs
          · cases h
        · split at h
          · rename_i q hq
            obtain ⟨N, f, as, r⟩ := q
            split at h
            · rename_i hf
              dsimp only at hf
              subst hf
              match d, h, hfr, hlo with
              | 0, h, _, _ => cases h
              | d' + 1, h, hfr, hlo =>
                intro T hT Z
                have hout : ∀ x ∈ c.exceptionTable.toList, covers x pc = false := by
                  intro x hxx
                  have : c.exceptionTable = #[] := by simpa using hno
                  rw [this] at hxx
                  simp at hxx
                obtain ⟨T', X2, -, ⟨ce, c1, c2, c3⟩, hst⟩ := jm_thrown (T := T) hfl C hd hq (by rw [hT]; exact hH) (by rw [hT]; exact va_S.rf) hl hlim hfr hlo (by omega) (by omega) (ih d' N 0 _ [] S ex h) Z
                rw [hT] at c1 hst
                obtain ⟨l1, l2, l3, l4, l5⟩ := X2.leaveThrown s.heap.size (g := F0 m pc ls (r.map (jm_v base sa))) rfl rfl rfl hout C.2.2.2.2.2.2.2.2.2
                refine ⟨_, hst _ l1, l2, l3, l4, by simpa using l5, ce, c1, c2, c3⟩
            · cases h
          · cases h
