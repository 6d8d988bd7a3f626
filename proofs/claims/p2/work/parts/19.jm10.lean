/-! THE PURE MACHINE, part 10: System.arraycopy; the run as a whole -/
section JM10
variable {p : Program} {l : Launch} {e : Env} {R : Room} {s : State} {m : MethodId} {args : Array Value} {below : List Frame} {meth : Method} {c : Code} {H : Heap} {locs : List Loc} {cells slots : Nat} {Q : State → Prop}
variable {D : va_G} {dA : Nat → ClassId} {base pc len : Nat} {sa : Nat → Nat} {X : jm_X} {M N : jm_M} {S S' : jm_S} {ls : Array Slot} {i : Instr} {lv : jm_L} {st st' : List Value}
theorem jm_nn (z : Int32) (hz : ¬ z < 0) : z.toInt = (z.toNatClampNeg : Int) := by
  have hz0 : (0 : Int) ≤ z.toInt := by
    have := Int32.not_lt.mp hz
    simpa using Int32.le_iff_toInt_le.mp this
  show z.toInt = ((z.toInt.toNat : Nat) : Int)
  omega
/-- a copy between two arrays of one type without references -/
theorem jm_acp {α : Type} (mk : α → Value) (ty : FieldType) {cA : ClassId} {f g : Nat → α} {n0 n1 a b : Nat} (hx : p.tables.exec = Jvm.exec) (hb : c.code = M.2.1) (hml : c.maxLocals = ls.size) {own : String} {index : Nat} (hown : s.vm.findClass own = some m.cls) (hlink : (Cond.methodLink own index arraycopyName).before args s = true) (hnat : (Cond.native arraycopyName).before args s = true) (hstat : (Cond.static arraycopyName).before args s = true) (hini : (Cond.initialized "java/lang/System").before args s = true)
    (hty : ArrOfT s cA ty) (h0 : H[a]? = some (arrV cA n0 (fun j => mk (f j)))) (h1' : H[b]? = some (arrV cA n1 (fun j => mk (g j)))) (hprim : refKind ty = false)
    {sp dp n : Int32} (h1 : ¬ sp < 0) (h2 : ¬ dp < 0) (h3 : ¬ n < 0) (h4 : sp.toNatClampNeg + n.toNatClampNeg ≤ n0) (h5 : dp.toNatClampNeg + n.toNatClampNeg ≤ n1) (hfit : ∀ x : α, fits ty (mk x) = true) (htk : ∀ (U : State) (d : ClassId) (x : α), U.takes d (mk x)) {rest : List Value}
    (hframes : 1 ≤ R.frames) (hlocals : (rest.map fun v => v.category).sum + (nativeFrameWords "java/lang/System" "arraycopy" 5 + 11) ≤ R.locals) (hdg : decode M.2.1 pc = .ok (.invokestatic index, 3))
    (kk : ∀ (H1 : Heap) (L : List Loc), H1[b]? = some (arrV cA n1 (fun j => mk (va_cpy f g sp.toNatClampNeg dp.toNatClampNeg n.toNatClampNeg j))) → H1.size = H.size → (∀ q, q ≠ b → H1[q]? = H[q]?) → (∀ q ∈ L, q.base = b) → W p l e R s m args below meth c H1 (locs ++ L) cells slots Q (F0 m (pc + 3) ls rest)) : W p l e R s m args below meth c H locs cells slots Q (F0 m pc ls (.int n :: .int dp :: .ref b :: .int sp :: .ref a :: rest)) := by
  intro T hT Z
  obtain ⟨-, k0, hk0, cm0, hkk0⟩ := hty n0 (fun j => mk (f j))
  obtain ⟨-, k1, hk1, cm1, hkk1⟩ := hty n1 (fun j => mk (g j))
  obtain ⟨vm', X', step⟩ := Z.arraycopy hx hown hlink hnat hstat hini (src := a) (dst := b) (cs := arrV cA n0 (fun j => mk (f j))) (cd := arrV cA n1 (fun j => mk (g j))) (srcPos := sp) (destPos := dp) (n := n) (by rw [hT]; exact h0) (by rw [hT]; exact h1')
    (fun _ h => by cases h) (fun _ h => by cases h) (fun h => by cases h) (fun h => by cases h) hk0 hk1 hkk0 hkk1 (by simp [hprim]) h1 h2 h3
    (by rw [jm_nn sp h1, jm_nn n h3, arrV_size]; omega)
    (by rw [jm_nn dp h2, jm_nn n h3, arrV_size]; omega)
    (fun vm₁ _ i hi => by
      have e : (arrV cA n0 (fun j => mk (f j))).slots.getD (sp.toNatClampNeg + i) .null = mk (f (sp.toNatClampNeg + i)) := by
        rw [Array.getD_eq_getD_getElem?, arrV_read _ _ (by omega)]
        rfl
      rw [e]
      exact ⟨hfit _, htk _ _ _⟩)
    (g := F0 m pc ls (.int n :: .int dp :: .ref b :: .int sp :: .ref a :: rest)) rfl (by rw [hml]) (rest := rest) rfl (by rw [hb]; exact hdg) hframes (by show 2 * 0 + _ + _ ≤ _; omega)
  have e1 : copied (arrV cA n0 (fun j => mk (f j))) (arrV cA n1 (fun j => mk (g j))) sp dp n = arrV cA n1 (fun j => mk (va_cpy f g sp.toNatClampNeg dp.toNatClampNeg n.toNatClampNeg j)) := va_copied mk cA cA f g h4
  rw [e1] at X' step
  have hl : b < H.size := (Array.getElem?_eq_some_iff.mp h1').1
  obtain ⟨t, a1, b1⟩ := kk (H.setIfInBounds b (arrV cA n1 (fun j => mk (va_cpy f g sp.toNatClampNeg dp.toNatClampNeg n.toNatClampNeg j)))) _ (by simp [Array.getElem?_setIfInBounds, hl]) (by simp) (fun q hq => by simp [Array.getElem?_setIfInBounds, Ne.symm hq]) (fun q hq => by
      obtain ⟨z, -, hz⟩ := List.mem_map.mp hq
      rw [← hz]) _ (by rw [← hT]; rfl) X'
  exact ⟨t, step t a1, b1⟩
theorem jm_cp_ok {d : Nat} (C : jm_ctx p s m args meth c D dA base sa X M) (hd : decode M.2.1 pc = .ok (i, len)) (h : jm_cp M i len d st S = some (st', S')) (hH : jm_H D jCl dA base sa S H) (hS : va_S (fun q => base ≤ q) s.heap H locs) (hl : lv_has ls M.2.2.1 (jm_lv base sa lv)) (hlim : S.1 ≤ jm_lim) (hfr : d ≤ R.frames) (hlo : d * 64 ≤ R.locals)
    (kk : ∀ (H1 : Heap) (locs1 : List Loc), jm_H D jCl dA base sa S' H1 → va_S (fun q => base ≤ q) s.heap H1 locs1 → S'.1 ≤ jm_lim → W p l e R s m args below meth c H1 locs1 cells slots Q (F0 m (pc + 3) ls (st'.map (jm_v base sa)))) : W p l e R s m args below meth c H locs cells slots Q (F0 m pc ls (st.map (jm_v base sa))) := by
  obtain ⟨hx, hb, hml, hown, hts, hnn, hK, hst, hini, hlk⟩ := C
  unfold jm_cp at h
  split at h
  · rename_i idx n dp b sp a r
    split at h
    · rename_i hw
      have hlink := jp_A_ok _ _ _ hw
      split at h
      · rename_i hq
        obtain ⟨ha, hbl, hd1, hcat, g1, g2, g3⟩ := hq
        have e1 : ∀ q : List Value, (Value.int n :: .int dp :: .ref b :: .int sp :: .ref a :: q).map (jm_v base sa) = .int n :: .int dp :: .ref (base + b) :: .int sp :: .ref (base + a) :: q.map (jm_v base sa) := by
          intro q
          show Value.int n :: .int dp :: .ref (jm_a base sa b) :: .int sp :: .ref (jm_a base sa a) :: q.map (jm_v base sa) = _
          rw [jm_a_lo ha hlim, jm_a_lo hbl hlim]
        rw [e1]
        have hfr1 : 1 ≤ R.frames := by omega
        have hlo1 : ((r.map (jm_v base sa)).map fun v => v.category).sum + (nativeFrameWords "java/lang/System" "arraycopy" 5 + 11) ≤ R.locals := by
          rw [jm_cats, show nativeFrameWords "java/lang/System" "arraycopy" 5 = 7 by decide +kernel]
          omega
        have fin : ∀ (H1 : Heap) (L : List Loc), H1.size = H.size → (∀ q, q ≠ base + b → H1[q]? = H[q]?) → (∀ q ∈ L, q.base = base + b) → va_S (fun q => base ≤ q) s.heap H1 (locs ++ L) := by
          intro H1 L z oq hL
          refine ⟨by rw [z]; exact hS.1, fun q h1 h2 => ?_, fun q hq => ?_⟩
          · rw [oq q (fun e => h2 (by rw [e]; exact Nat.le_add_right _ _))]
            exact hS.2.1 q h1 h2
          · rcases List.mem_append.mp hq with h1 | h1
            · exact hS.2.2 q h1
            · rw [hL q h1]
              exact Nat.le_add_right _ _
        split at h
        · rename_i n0 f n1 g hea heb
          split at h
          · rename_i hle
            cases h
            have q0 := hH.2 a ha
            have q1 := hH.2 b hbl
            rw [hea] at q0
            rw [heb] at q1
            refine jm_acp (M := M) (fun z => Value.int z) .int hx hb (hml.trans hl.1.symm) hown (hts _ hlink) (hts _ jp_acp.1) (hts _ jp_acp.2.1) (hts _ jp_acp.2.2) (hK.2 0 (dA 0, .int) rfl).1 q0 q1 rfl g1 g2 g3 hle.1 hle.2 (fun _ => rfl) (fun _ _ _ => trivial) hfr1 hlo1 hd (fun H1 L w1 w2 w3 w4 => ?_)
            exact kk H1 _ (hH.up w2 w3 w1) (fin H1 L w2 w3 w4) hlim
          · cases h
        · rename_i n0 f n1 g hea heb
          split at h
          · rename_i hle
            cases h
            have q0 := hH.2 a ha
            have q1 := hH.2 b hbl
            rw [hea] at q0
            rw [heb] at q1
            refine jm_acp (M := M) (fun z => Value.long z) .long hx hb (hml.trans hl.1.symm) hown (hts _ hlink) (hts _ jp_acp.1) (hts _ jp_acp.2.1) (hts _ jp_acp.2.2) (hK.2 1 (dA 1, .long) rfl).1 q0 q1 rfl g1 g2 g3 hle.1 hle.2 (fun _ => rfl) (fun _ _ _ => trivial) hfr1 hlo1 hd (fun H1 L w1 w2 w3 w4 => ?_)
            exact kk H1 _ (hH.up w2 w3 w1) (fin H1 L w2 w3 w4) hlim
          · cases h
        · cases h
      · cases h
    · cases h
  · cases h
theorem jm_obj_ok {d : Nat} (C : jm_ctx p s m args meth c D dA base sa X M) (hd : decode M.2.1 pc = .ok (i, len)) (h : jm_obj M i len d st = some st') (hl : lv_has ls M.2.2.1 (jm_lv base sa lv)) (hfr : d ≤ R.frames) (hlo : d * 64 ≤ R.locals) (hc : cells ≤ R.cells) (hs : slots ≤ R.slots)
    (kk : W p l e R s m args below meth c H locs cells slots Q (F0 m (pc + 3) ls (st'.map (jm_v base sa)))) : W p l e R s m args below meth c H locs cells slots Q (F0 m pc ls (st.map (jm_v base sa))) := by
  obtain ⟨hx, hb, hml, hown, hts, hnn, hK, hst, hini, hlk⟩ := C
  unfold jm_obj at h
  split at h
  · split at h
    · rename_i hw
      have hlink := jp_B_ok _ _ _ hw
      split at h
      · rename_i hq
        cases h
        refine W.objInit hx hb hown (hts _ hlink) (hts _ jp_obj.1) (hts _ jp_obj.2) rfl (by rw [hml]; exact hl.1) rfl hd (by omega) ?_ kk
        rw [jm_cats]
        show 2 * 0 + _ + 12 ≤ R.locals
        omega
      · cases h
    · cases h
  · rename_i idx y x r
    split at h
    · rename_i hq
      have hlo1 : ((r.map (jm_v base sa)).map fun v => v.category).sum + 13 ≤ R.locals := by
        rw [jm_cats]
        omega
      split at h
      · rename_i hw
        cases h
        exact va_mmax hx hb (hml.trans hl.1.symm) hown (hts _ (jp_max_ok _ _ _ hw)) (hts _ jp_max_w.1) (hts _ jp_max_w.2.1) (hts _ jp_max_w.2.2) (by omega) hlo1 hc hs hd kk
      · split at h
        · rename_i hw
          cases h
          exact va_mmin hx hb (hml.trans hl.1.symm) hown (hts _ (jp_min_ok _ _ _ hw)) (hts _ jp_min_w.1) (hts _ jp_min_w.2.1) (hts _ jp_min_w.2.2) (by omega) hlo1 hc hs hd kk
        · cases h
    · cases h
  · cases h
end JM10
theorem jm_more_some {c k : Nat} {o : Option jm_O} {t : Nat} {v : Option Value} {S : jm_S} {a b : Nat} (h : jm_more c k o = some (t, v, S, a, b)) : ∃ a' b', o = some (t, v, S, a', b') ∧ a = c + a' ∧ b = k + b' := by
  unfold jm_more at h
  split at h
  · rename_i r
    cases h
    exact ⟨_, _, rfl, rfl, rfl⟩
  · cases h
/-- WHAT THE PURE MACHINE SAYS OF A METHOD THAT RETURNS, THE MACHINE ITSELF DOES -/
theorem jm_run_ok (X : jm_X) : ∀ (n d : Nat) (M : jm_M) (pc : Nat) (lv : jm_L) (st : List Value) (S : jm_S) (v : Option Value) (S' : jm_S) (k j : Nat), jm_run X n d M pc lv st S = some (0, v, S', k, j) → jm_goes X M d pc lv st S v S' k j := by
  intro n
  induction n with
  | zero => intro d M pc lv st S v S' k j h; cases h
  | succ n ih =>
    intro d M pc lv st S v S' k j h
    intro p l e R s m args below meth c D dA base sa H locs cells slots ls Q C hH hS hl hlim hfr hlo hc hs hret
    unfold jm_run at h
    split at h
    · cases h
    · rename_i i len hd
      split at h
      · rename_i q hq
        obtain ⟨pc1, lv1, st1, S1, c1, k1⟩ := q
        obtain ⟨a', b', h1, rfl, rfl⟩ := jm_more_some h
        refine jm_step_ok C hd hq hH hS hl hlim (by dsimp only at hc; omega) (by dsimp only at hs; omega) (fun H1 locs1 ls1 w1 w2 w3 w4 => ?_)
        refine ih d M pc1 lv1 st1 S1 v S' a' b' h1 p l e R s m args below meth c D dA base sa H1 locs1 _ _ ls1 Q C w1 w2 w3 w4 hfr hlo (by dsimp only at hc; omega) (by dsimp only at hs; omega) ?_
        rw [Nat.add_assoc, Nat.add_assoc]
        exact hret
      · split at h
        · rename_i v1 hv
          cases h
          have e1 := jm_ret_st hv
          subst e1
          exact hret H locs ls pc i len hH hS hlim hd hv
        · split at h
          · rename_i r hr
            exact jm_obj_ok C hd hr hl hfr hlo (by omega) (by omega) (ih d M _ lv r S v S' k j h p l e R s m args below meth c D dA base sa H locs cells slots ls Q C hH hS hl hlim hfr hlo hc hs hret)
          · split at h
            · rename_i q hq
              exact jm_cp_ok C hd hq hH hS hl hlim hfr hlo (fun H1 locs1 w1 w2 w3 => ih d M _ lv q.1 q.2 v S' k j h p l e R s m args below meth c D dA base sa H1 locs1 cells slots ls Q C w1 w2 hl w3 hfr hlo hc hs hret)
            · split at h
              · rename_i ex hex
                split at h <;> cases h
              · split at h
                · rename_i q hq
                  obtain ⟨N, f, as, r⟩ := q
                  match d, h, hfr, hlo with
                  | 0, h, _, _ => cases h
                  | d' + 1, h, hfr, hlo =>
                    dsimp only at h
                    split at h
                    · rename_i o ho
                      obtain ⟨t1, v1, S1, k1, j1⟩ := o
                      split at h
                      · rename_i ht
                        dsimp only at ht
                        subst ht
                        obtain ⟨a', b', h1, rfl, rfl⟩ := jm_more_some h
                        dsimp only at hc hs
                        refine jm_inv_ok C hd hq hH hS hl hlim hfr hlo (k := k1) (n := j1) (by omega) (by omega) (ih d' N 0 _ [] S v1 S1 k1 j1 ho) (fun H1 locs1 w1 w2 w3 => ?_)
                        refine ih (d' + 1) M (pc + 3) lv _ S1 v S' a' b' h1 p l e R s m args below meth c D dA base sa H1 locs1 _ _ ls Q C w2 w3 hl w1 hfr hlo (by omega) (by omega) ?_
                        rw [Nat.add_assoc, Nat.add_assoc]
                        exact hret
                      · rename_i hne
                        cases h
                        exact absurd rfl hne
                    · cases h
                · cases h
