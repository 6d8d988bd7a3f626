/-! THE PURE MACHINE, part 18: the law's own run -/
/-- a wrapper: it returns, or its call throws and a handler takes that -/
def jm_wrp (X : jm_X) (n d : Nat) (N : jm_M × jm_Hh) (as : List Value) (S : jm_S) : Option jm_O := match jm_run X n d N.1 0 (lv_args 0 as) [] S with
  | some (0, v, S', k, j) => some (0, v, S', k, j)
  | _ => jm_catch X N.2 n d N.1 0 (lv_args 0 as) [] S
theorem jm_wrp_ok {X : jm_X} {n d : Nat} {N : jm_M × jm_Hh} {as : List Value} {S : jm_S} {v : Option Value} {S' : jm_S} {k j : Nat} (h : jm_wrp X n d N as S = some (0, v, S', k, j)) : jm_goesW X N.1 N.2 d 0 (lv_args 0 as) [] S v S' k j := by
  unfold jm_wrp at h
  split at h
  · rename_i hr
    cases h
    exact (jm_run_ok X n d N.1 0 _ [] S v S' k j hr).w N.2
  · exact jm_catch_ok X N.2 n d N.1 0 _ [] S v S' k j h
/-- a call of a wrapper -/
def jm_winv (M : jm_M) (i : Instr) (len : Nat) (st : List Value) : Option ((jm_M × jm_Hh) × List Value × List Value) := match i, len with
  | .invokestatic idx, 3 => if jm_q M = 13 then (match jp_V idx with
    | some N => if jm_n N.1 ≤ st.length ∧ ((st.drop (jm_n N.1)).map fun v => v.category).sum ≤ 8 ∧ (lg_sl (st.take (jm_n N.1)).reverse).length ≤ N.1.2.2.1 then some (N, (st.take (jm_n N.1)).reverse, st.drop (jm_n N.1)) else none
    | none => none) else none
  | _, _ => none
def jm_law (X : jm_X) : Nat → Nat → jm_M → Nat → jm_L → List Value → jm_S → Option jm_O
  | 0, _, _, _, _, _, _ => none
  | n + 1, d, M, pc, lv, st, S => match decode M.2.1 pc with
    | .error _ => none
    | .ok (i, len) => match jm_step X M i len pc lv st S with
      | some q => jm_more q.2.2.2.2.1 q.2.2.2.2.2 (jm_law X n d M q.1 q.2.1 q.2.2.1 q.2.2.2.1)
      | none => match jm_ret i len M.2.2.2.1 st with
        | some v => some (0, v, S, 0, 0)
        | none => match jm_winv M i len st with
          | some q => (match d with
            | 0 => none
            | d' + 1 => match jm_wrp X n d' q.1 q.2.1 S with
              | some r => (match r.1 with
                | 0 => jm_more r.2.2.2.1 r.2.2.2.2 (jm_law X n (d' + 1) M (pc + 3) lv (r.2.1.toList ++ q.2.2) r.2.2.1)
                | _ => none)
              | none => none)
          | none => match jm_inv M i len st S with
            | some q => (match d with
              | 0 => none
              | d' + 1 => match jm_run X n d' q.1 0 (lv_args 0 q.2.2.1) [] S with
                | some r => (match r.1 with
                  | 0 => jm_more r.2.2.2.1 r.2.2.2.2 (jm_law X n (d' + 1) M (pc + 3) lv (r.2.1.toList ++ q.2.2.2) r.2.2.1)
                  | _ => none)
                | none => none)
            | none => none
section JM18
variable {p : Program} {l : Launch} {e : Env} {R : Room} {s : State} {m : MethodId} {args : Array Value} {below : List Frame} {meth : Method} {c : Code} {H : Heap} {locs : List Loc} {cells slots : Nat} {Q : State → Prop}
variable {D : va_G} {dA : Nat → ClassId} {base pc len : Nat} {sa : Nat → Nat} {X : jm_X} {M : jm_M} {N : jm_M × jm_Hh} {S S' : jm_S} {ls : Array Slot} {i : Instr} {lv : jm_L} {st : List Value}
theorem jm_winv_ok {d k n : Nat} {as r : List Value} {v : Option Value} (hfl : l.flags = pinnedFlags ++ [noTraceFlag]) (C : jm_ctx p s m args meth c D dA base sa X M) (hd : decode M.2.1 pc = .ok (i, len)) (h : jm_winv M i len st = some (N, as, r)) (hH : jm_H D jCl dA base sa S H) (hS : va_S (fun q => base ≤ q) s.heap H locs) (hl : lv_has ls M.2.2.1 (jm_lv base sa lv)) (hlim : S.1 ≤ jm_lim) (hfr : d + 1 ≤ R.frames) (hlo : (d + 1) * 64 ≤ R.locals) (hc : cells + k ≤ R.cells) (hsl : slots + n ≤ R.slots)
    (body : jm_goesW X N.1 N.2 d 0 (lv_args 0 as) [] S v S' k n)
    (kk : ∀ (H1 : Heap) (locs1 : List Loc), S'.1 ≤ jm_lim → jm_H D jCl dA base sa S' H1 → va_S (fun q => base ≤ q) s.heap H1 locs1 → W p l e R s m args below meth c H1 locs1 (cells + k) (slots + n) Q (F0 m (pc + 3) ls ((v.toList ++ r).map (jm_v base sa)))) : W p l e R s m args below meth c H locs cells slots Q (F0 m pc ls (st.map (jm_v base sa))) := by
  obtain ⟨hx, hb, hml, hown, hts, hnn, hK, hst, hini, hlk⟩ := C
  have kk2 : ∀ (H1 : Heap) (locs1 : List Loc), S'.1 ≤ jm_lim → jm_H D jCl dA base sa S' H1 → va_S (fun q => base ≤ q) s.heap H1 locs1 → W p l e R s m args below meth c H1 locs1 (cells + k) (slots + n) Q (F0 m (pc + 3) ls ((v.map (jm_v base sa)).toList ++ r.map (jm_v base sa))) := by
    intro H1 locs1 h1 h2 h3
    have := kk H1 locs1 h1 h2 h3
    rw [List.map_append] at this
    have e1 : (v.map (jm_v base sa)).toList = v.toList.map (jm_v base sa) := by cases v <;> rfl
    rw [e1]
    exact this
  have hblind := jm_pre_blind D dA base sa X S (as.map (jm_v base sa))
  have hpre : ∀ U : State, U.heap = H → s.WarmedH U.vm → va_Pc (as.map (jm_v base sa)) (jm_pre D dA base sa X S) (as.map (jm_v base sa)).toArray U := by
    intro U hU hW
    exact ⟨rfl, by rw [hU]; exact hH, va_K.moved hW.alike hK, hnn.go hW, hst.go hW.alike (fun a h1 h2 => by rw [hU]; exact hS.2.1 a h1 h2)⟩
  unfold jm_winv at h
  split at h
  · rename_i idx
    split at h
    · rename_i hq13
      rw [hq13] at hown
      have hown : s.vm.findClass "WhilePressLaw" = some m.cls := hown
      have CF : CallFix p m c M.2.1 M.2.2.1 s args jw "WhilePressLaw" := ⟨hx, hb, hml, hown, hts⟩
      split at h
      · rename_i N' hN
        obtain ⟨hok, hl1, hl2⟩ := jp_V_ok _ _ hN
        split at h
        · rename_i hcnd
          cases h
          have hM := jm_metW l hfl X hok _ hcnd.2.2 hlim body D dA base sa
          have hst' : st.map (jm_v base sa) = (((st.take (jm_n N.1)).reverse).map (jm_v base sa)).reverse ++ (st.drop (jm_n N.1)).map (jm_v base sa) := by
            rw [← List.map_reverse, List.reverse_reverse, ← List.map_append, List.take_append_drop]
          have hnn2 : ((st.take (jm_n N.1)).reverse.map (jm_v base sa)).length = jm_n N.1 := by
            simp [Nat.min_eq_left hcnd.1]
          have h40 := hok.2.2.2.2.2.1
          have hrun := jm_runSW (As := (st.take (jm_n N.1)).reverse.map (jm_v base sa)) (rest := (st.drop (jm_n N.1)).map (jm_v base sa)) (g := F0 m pc ls (st.map (jm_v base sa))) (H := H) (locs := locs) (cells := cells) (slots := slots) (l := l) (e := e) (below := below) (meth := meth) (R := R) (bytes := N.1.2.1) (maxL := N.1.2.2.1) (ret := N.1.2.2.2.1) (hh := N.2) CF hM rfl rfl hfr (by
              show 8 + (N.1.2.2.1 + 11) + d * 64 ≤ R.locals
              omega) (pay_in hts (jm_goodW hok)) List.mem_cons_self (hts _ hok.1) (hts _ hok.2.1) hok.2.2.2.1 (fun sig hsig => by
              have h2 := hok.2.2.2.2.1
              rw [hsig] at h2
              exact (Option.some.inj h2).symm) (hts _ hl1) (hts _ hl2) ⟨hblind, hpre⟩ rfl hnn2 hl.1 hst' (by rw [jm_cats]; show 2 * 0 + _ ≤ 8; have := hcnd.2.1; omega) hd ⟨hc, hsl⟩
          exact jm_back hrun hS kk2
        · cases h
      · cases h
    · cases h
  · cases h
end JM18
/-- the law's walk returns -/
def jm_goesL (X : jm_X) (M : jm_M) (d pc : Nat) (lv : jm_L) (st : List Value) (S : jm_S) (v : Option Value) (S' : jm_S) (k n : Nat) : Prop :=
  ∀ (p : Program) (l : Launch) (e : Env) (R : Room) (s : State) (m : MethodId) (args : Array Value) (below : List Frame) (meth : Method) (c : Code) (D : va_G) (dA : Nat → ClassId) (base : Nat) (sa : Nat → Nat) (H : Heap) (locs : List Loc) (cells slots : Nat) (ls : Array Slot) (Q : State → Prop),
    l.flags = pinnedFlags ++ [noTraceFlag] → jm_ctx p s m args meth c D dA base sa X M → jm_H D jCl dA base sa S H → va_S (fun q => base ≤ q) s.heap H locs → lv_has ls M.2.2.1 (jm_lv base sa lv) → S.1 ≤ jm_lim → d ≤ R.frames → d * 64 ≤ R.locals → cells + k ≤ R.cells → slots + n ≤ R.slots →
    jm_hret p l e R s m args below meth c D dA base sa M v S' (cells + k) (slots + n) Q → W p l e R s m args below meth c H locs cells slots Q (F0 m pc ls (st.map (jm_v base sa)))
theorem jm_law_ok (X : jm_X) : ∀ (n d : Nat) (M : jm_M) (pc : Nat) (lv : jm_L) (st : List Value) (S : jm_S) (v : Option Value) (S' : jm_S) (k j : Nat), jm_law X n d M pc lv st S = some (0, v, S', k, j) → jm_goesL X M d pc lv st S v S' k j := by
  intro n
  induction n with
  | zero => intro d M pc lv st S v S' k j h; cases h
  | succ n ih =>
    intro d M pc lv st S v S' k j h
    intro p l e R s m args below meth c D dA base sa H locs cells slots ls Q hfl C hH hS hl hlim hfr hlo hc hs hret
    unfold jm_law at h
    split at h
    · cases h
    · rename_i i len hd
      split at h
      · rename_i q hq
        obtain ⟨pc1, lv1, st1, S1, c1, k1⟩ := q
        obtain ⟨a', b', h1, rfl, rfl⟩ := jm_more_some h
        refine jm_step_ok C hd hq hH hS hl hlim (by dsimp only at hc; omega) (by dsimp only at hs; omega) (fun H1 locs1 ls1 w1 w2 w3 w4 => ?_)
        refine ih d M pc1 lv1 st1 S1 v S' a' b' h1 p l e R s m args below meth c D dA base sa H1 locs1 _ _ ls1 Q hfl C w1 w2 w3 w4 hfr hlo (by dsimp only at hc; omega) (by dsimp only at hs; omega) ?_
        rw [Nat.add_assoc, Nat.add_assoc]
        exact hret
      · split at h
        · rename_i v1 hv
          cases h
          have e1 := jm_ret_st hv
          subst e1
          exact hret H locs ls pc i len hH hS hlim hd hv
        · split at h
          · rename_i q hq
            obtain ⟨N, as, r⟩ := q
            match d, h, hfr, hlo with
            | 0, h, _, _ => cases h
            | d' + 1, h, hfr, hlo =>
              dsimp only at h
              split at h
              · rename_i o ho
                obtain ⟨t1, v1, S1, k1, j1⟩ := o
                split at h
                · rename_i ht
                  dsimp only at ht
                  subst ht
                  obtain ⟨a', b', h1, rfl, rfl⟩ := jm_more_some h
                  dsimp only at hc hs
                  refine jm_winv_ok hfl C hd hq hH hS hl hlim hfr hlo (k := k1) (n := j1) (by omega) (by omega) (jm_wrp_ok ho) (fun H1 locs1 w1 w2 w3 => ?_)
                  refine ih (d' + 1) M (pc + 3) lv _ S1 v S' a' b' h1 p l e R s m args below meth c D dA base sa H1 locs1 _ _ ls Q hfl C w2 w3 hl w1 hfr hlo (by omega) (by omega) ?_
                  rw [Nat.add_assoc, Nat.add_assoc]
                  exact hret
                · cases h
              · cases h
          · split at h
            · rename_i q hq
              obtain ⟨N, f, as, r⟩ := q
              match d, h, hfr, hlo with
              | 0, h, _, _ => cases h
              | d' + 1, h, hfr, hlo =>
                dsimp only at h
                split at h
                · rename_i o ho
                  obtain ⟨t1, v1, S1, k1, j1⟩ := o
                  split at h
                  · rename_i ht
                    dsimp only at ht
                    subst ht
                    obtain ⟨a', b', h1, rfl, rfl⟩ := jm_more_some h
                    dsimp only at hc hs
                    refine jm_inv_ok C hd hq hH hS hl hlim hfr hlo (k := k1) (n := j1) (by omega) (by omega) (jm_run_ok X n d' N 0 _ [] S v1 S1 k1 j1 ho) (fun H1 locs1 w1 w2 w3 => ?_)
                    refine ih (d' + 1) M (pc + 3) lv _ S1 v S' a' b' h1 p l e R s m args below meth c D dA base sa H1 locs1 _ _ ls Q hfl C w2 w3 hl w1 hfr hlo (by omega) (by omega) ?_
                    rw [Nat.add_assoc, Nat.add_assoc]
                    exact hret
                  · cases h
                · cases h
            · cases h
