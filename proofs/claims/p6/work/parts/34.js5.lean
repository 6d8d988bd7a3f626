/-! THE SYMBOLIC MACHINE, part 5: runs, over the pure machine -/
/-- shortcuts: where a walk may go on at once -/
abbrev js_M : Type := jm_M → Nat → js_L → List js_V → Option (Nat × js_L × List js_V)
def js_mno : js_M := fun _ _ _ _ => none
def js_mok (ρ : js_R) (X : jm_X) (mac : js_M) : Prop := ∀ (M : jm_M) (pc : Nat) (lv : js_L) (st : List js_V) (pc1 : Nat) (lv1 : js_L) (st1 : List js_V), mac M pc lv st = some (pc1, lv1, st1) → ∀ (d : Nat) (S : jm_S), 1 ≤ d →
  (∀ (v : Option Value) (S' : jm_S) (k j : Nat), jm_goes X M d pc1 (js_lv ρ lv1) (st1.map (js_v ρ)) S v S' k j → jm_goes X M d pc (js_lv ρ lv) (st.map (js_v ρ)) S v S' k j) ∧
  ∀ ex : Nat, jm_goesT X M d pc1 (js_lv ρ lv1) (st1.map (js_v ρ)) S ex → jm_goesT X M d pc (js_lv ρ lv) (st.map (js_v ρ)) S ex
theorem js_mno_ok (ρ : js_R) (X : jm_X) : js_mok ρ X js_mno := by
  intro M pc lv st pc1 lv1 st1 h
  cases h
/-- what a method returned; the store; the cells and slots so far -/
abbrev js_O : Type := Option js_V × js_S × Nat × Nat
def js_run (L : js_sc) (A : js_A) (mac : js_M) : Nat → Nat → Nat → jm_M → Nat → js_L → List js_V → js_S → Nat → Nat → Option js_O
  | 0, _, _, _, _, _, _, _, _, _ => none
  | n + 1, d, t, M, pc, lv, st, D, c, k => match Nat.ble c 700000 && Nat.ble k 8000000 with
    | false => none
    | true => match mac M pc lv st with
      | some q => if 1 ≤ d then js_run L A mac n d t M q.1 q.2.1 q.2.2 D c k else none
      | none => match jde t pc with
        | none => none
        | some (i, len) => match js_step L A M i len pc lv st D with
          | some q => js_run L A mac n d t M q.1 q.2.1 q.2.2.1 q.2.2.2.1 (c + q.2.2.2.2.1) (k + q.2.2.2.2.2)
          | none => match js_ret i len M.2.2.2.1 st with
            | some v => some (v, D, c, k)
            | none => match js_obj M i len d st with
              | some r => js_run L A mac n d t M (pc + 3) lv r D c k
              | none => match js_fil M i len st D with
                | some q => (match d with
                  | 0 => none
                  | d' + 1 => js_run L A mac n (d' + 1) t M (pc + 3) lv q.1 q.2 c k)
                | none => match js_cp M i len d st D with
                  | some q => js_run L A mac n d t M (pc + 3) lv q.1 q.2 c k
                  | none => match js_inv M i len st D with
                    | some q => (match d with
                      | 0 => none
                      | d' + 1 => match js_run L A mac n d' (jdI (jm_q M) (js_ix i)) q.1 0 (js_args 0 q.2.2.1) [] D c k with
                        | some r => js_run L A mac n (d' + 1) t M (pc + 3) lv (r.1.toList ++ q.2.2.2) r.2.1 r.2.2.1 r.2.2.2
                        | none => none)
                    | none => none
theorem js_tl (ρ : js_R) (v : Option js_V) (r : List js_V) : (v.toList ++ r).map (js_v ρ) = (v.map (js_v ρ)).toList ++ r.map (js_v ρ) := by
  cases v <;> rfl
theorem js_run_ok {ρ : js_R} {X : jm_X} {L : js_sc} {A : js_A} {mac : js_M} (hA : js_true ρ A) (hX : js_scr ρ X L) (hm : js_mok ρ X mac) : ∀ (n d t : Nat) (M : jm_M) (pc : Nat) (lv : js_L) (st : List js_V) (D : js_S) (c k : Nat) (v : Option js_V) (D' : js_S) (c' k' : Nat), jde_ok t M → js_run L A mac n d t M pc lv st D c k = some (v, D', c', k') →
    ∃ a b, c' = c + a ∧ k' = k + b ∧ jm_goes X M d pc (js_lv ρ lv) (st.map (js_v ρ)) (js_abs ρ D) (v.map (js_v ρ)) (js_abs ρ D') a b := by
  intro n
  induction n with
  | zero => intro d t M pc lv st D c k v D' c' k' _ h; cases h
  | succ n ih =>
    intro d t M pc lv st D c k v D' c' k' ht h
    unfold js_run at h
    split at h
    · cases h
    · split at h
      · rename_i q hq
        split at h
        · rename_i hd1
          obtain ⟨a, b, e1, e2, h1⟩ := ih _ _ _ _ _ _ _ _ _ _ _ _ _ ht h
          exact ⟨a, b, e1, e2, (hm M pc lv st q.1 q.2.1 q.2.2 hq d _ hd1).1 _ _ _ _ h1⟩
        · cases h
      · split at h
        · cases h
        · rename_i i len hj
          have hd := ht _ _ hj
          split at h
          · rename_i q hq
            obtain ⟨a, b, e1, e2, h1⟩ := ih _ _ _ _ _ _ _ _ _ _ _ _ _ ht h
            exact ⟨_, _, by rw [e1, Nat.add_assoc], by rw [e2, Nat.add_assoc], jg_step hd (js_step_eq hA hX hq) h1⟩
          · split at h
            · rename_i w hw
              cases h
              exact ⟨0, 0, rfl, rfl, jg_ret hd (js_ret_eq ρ hw)⟩
            · split at h
              · rename_i r hr
                obtain ⟨a, b, e1, e2, h1⟩ := ih _ _ _ _ _ _ _ _ _ _ _ _ _ ht h
                exact ⟨a, b, e1, e2, jg_obj hd (js_obj_eq ρ hr) h1⟩
              · split at h
                · rename_i q hq
                  obtain ⟨r, D1⟩ := q
                  match d, h with
                  | 0, h => cases h
                  | d' + 1, h =>
                    dsimp only at h
                    obtain ⟨a, b, e1, e2, h1⟩ := ih _ _ _ _ _ _ _ _ _ _ _ _ _ ht h
                    exact ⟨a, b, e1, e2, js_fil_go hd hq h1⟩
                · split at h
                  · rename_i q hq
                    obtain ⟨r, D1⟩ := q
                    obtain ⟨a, b, e1, e2, h1⟩ := ih _ _ _ _ _ _ _ _ _ _ _ _ _ ht h
                    exact ⟨a, b, e1, e2, jg_cp hd (js_cp_eq ρ hq) h1⟩
                  · split at h
                    · rename_i q hq
                      obtain ⟨N, f, as, r⟩ := q
                      match d, h with
                      | 0, h => cases h
                      | d' + 1, h =>
                        dsimp only at h
                        split at h
                        · rename_i o ho
                          obtain ⟨v1, D1, c1, k1⟩ := o
                          obtain ⟨a1, b1, e1, e2, h1⟩ := ih _ _ _ _ _ _ _ _ _ _ _ _ _ (js_inv_ix hq) ho
                          obtain ⟨a2, b2, e3, e4, h2⟩ := ih _ _ _ _ _ _ _ _ _ _ _ _ _ ht h
                          dsimp only at e3 e4 h2
                          rw [js_tl] at h2
                          refine ⟨a1 + a2, b1 + b2, by rw [e3, e1, Nat.add_assoc], by rw [e4, e2, Nat.add_assoc], ?_⟩
                          refine jg_inv hd (js_inv_eq ρ hq) ?_ h2
                          rw [js_args_eq]
                          exact h1
                        · cases h
                    · cases h
def js_thw (A : js_A) (mac : js_M) : Nat → Nat → Nat → jm_M → Nat → js_L → List js_V → js_S → Option Nat
  | 0, _, _, _, _, _, _, _ => none
  | n + 1, d, t, M, pc, lv, st, D => match mac M pc lv st with
    | some q => if 1 ≤ d then js_thw A mac n d t M q.1 q.2.1 q.2.2 D else none
    | none => match jde t pc with
      | none => none
      | some (i, len) => match js_rst A M i len pc lv st D with
        | some q => js_thw A mac n d t M q.1 q.2.1 q.2.2 D
        | none => match jm_thr M i len pc with
          | some ex => if 6 ≤ d ∧ (st.map js_cat).sum ≤ 4 then some ex else none
          | none => match jm_thrW M i len pc with
            | some ex => if 6 ≤ d ∧ (st.map js_cat).sum ≤ 4 then some ex else none
            | none => match js_inv M i len st D with
              | some q => if q.2.1 = 0 then (match d with
                | 0 => none
                | d' + 1 => js_thw A mac n d' (jdI (jm_q M) (js_ix i)) q.1 0 (js_args 0 q.2.2.1) [] D) else none
              | none => none
theorem js_thw_ok {ρ : js_R} {X : jm_X} {A : js_A} {mac : js_M} (hA : js_true ρ A) (hm : js_mok ρ X mac) : ∀ (n d t : Nat) (M : jm_M) (pc : Nat) (lv : js_L) (st : List js_V) (D : js_S) (ex : Nat), jde_ok t M → js_thw A mac n d t M pc lv st D = some ex → jm_goesT X M d pc (js_lv ρ lv) (st.map (js_v ρ)) (js_abs ρ D) ex := by
  intro n
  induction n with
  | zero => intro d t M pc lv st D ex _ h; cases h
  | succ n ih =>
    intro d t M pc lv st D ex ht h
    unfold js_thw at h
    split at h
    · rename_i q hq
      split at h
      · rename_i hd1
        exact (hm M pc lv st q.1 q.2.1 q.2.2 hq d _ hd1).2 _ (ih _ _ _ _ _ _ _ _ ht h)
      · cases h
    · split at h
      · cases h
      · rename_i i len hj
        have hd := ht _ _ hj
        split at h
        · rename_i q hq
          exact jgT_step hd (js_rst_eq X hA hq) (ih _ _ _ _ _ _ _ _ ht h)
        · split at h
          · rename_i ex' hex
            split at h
            · rename_i hc
              cases h
              exact jgT_thr hd hex hc.1 (by rw [js_sum_eq]; exact hc.2)
            · cases h
          · split at h
            · rename_i ex' hex
              split at h
              · rename_i hc
                cases h
                exact jgT_thrW hd hex hc.1 (by rw [js_sum_eq]; exact hc.2)
              · cases h
            · split at h
              · rename_i q hq
                obtain ⟨N, f, as, r⟩ := q
                split at h
                · rename_i hf
                  dsimp only at hf
                  subst hf
                  match d, h with
                  | 0, h => cases h
                  | d' + 1, h =>
                    refine jgT_inv hd (js_inv_eq ρ hq) ?_
                    rw [js_args_eq]
                    exact ih _ _ _ _ _ _ _ _ (js_inv_ix hq) h
                · cases h
              · cases h
/-- the call in a wrapper throws, a handler takes it -/
def js_catch (L : js_sc) (A : js_A) (mac : js_M) (hh : jm_Hh) : Nat → Nat → Nat → jm_M → Nat → js_L → List js_V → js_S → Nat → Nat → Option js_O
  | 0, _, _, _, _, _, _, _, _, _ => none
  | n + 1, d, t, M, pc, lv, st, D, c, k => match jde t pc with
    | none => none
    | some (i, len) => match js_rst A M i len pc lv st D with
      | some q => js_catch L A mac hh n d t M q.1 q.2.1 q.2.2 D c k
      | none => match js_inv M i len st D with
        | some q => if q.2.1 = 0 ∧ D.length < jm_lim ∧ jm_q M = 13 then (match d with
          | 0 => none
          | d' + 1 => match js_thw A mac n d' (jdI (jm_q M) (js_ix i)) q.1 0 (js_args 0 q.2.2.1) [] D with
            | some ex => if ex < 3 then (match jm_find hh pc ex with
              | some hp => js_run L A mac n (d' + 1) t M hp lv [.inl (.ref D.length)] (D ++ [.inr (jp_nobj + ex, [])]) (c + 1) (k + 6)
              | none => none) else none
            | none => none) else none
        | none => none
theorem js_catch_ok {ρ : js_R} {X : jm_X} {L : js_sc} {A : js_A} {mac : js_M} (hA : js_true ρ A) (hX : js_scr ρ X L) (hm : js_mok ρ X mac) (hh : jm_Hh) : ∀ (n d t : Nat) (M : jm_M) (pc : Nat) (lv : js_L) (st : List js_V) (D : js_S) (c k : Nat) (v : Option js_V) (D' : js_S) (c' k' : Nat), jde_ok t M → js_catch L A mac hh n d t M pc lv st D c k = some (v, D', c', k') →
    ∃ a b, c' = c + a ∧ k' = k + b ∧ jm_goesW X M hh d pc (js_lv ρ lv) (st.map (js_v ρ)) (js_abs ρ D) (v.map (js_v ρ)) (js_abs ρ D') a b := by
  intro n
  induction n with
  | zero => intro d t M pc lv st D c k v D' c' k' _ h; cases h
  | succ n ih =>
    intro d t M pc lv st D c k v D' c' k' ht h
    unfold js_catch at h
    split at h
    · cases h
    · rename_i i len hj
      have hd := ht _ _ hj
      split at h
      · rename_i q hq
        obtain ⟨a, b, e1, e2, h1⟩ := ih _ _ _ _ _ _ _ _ _ _ _ _ _ ht h
        exact ⟨a, b, e1, e2, jgW_step hd (js_rst_eq X hA hq) h1⟩
      · split at h
        · rename_i q hq
          obtain ⟨N, f, as, r⟩ := q
          split at h
          · rename_i hcnd
            obtain ⟨hf, hlt, hq13⟩ := hcnd
            dsimp only at hf
            subst hf
            match d, h with
            | 0, h => cases h
            | d' + 1, h =>
              dsimp only at h
              split at h
              · rename_i ex hex
                split at h
                · rename_i hex3
                  split at h
                  · rename_i hp hfind
                    obtain ⟨a, b, e1, e2, h1⟩ := js_run_ok hA hX hm _ _ _ _ _ _ _ _ _ _ _ _ _ _ ht h
                    refine ⟨1 + a, 6 + b, by rw [e1, Nat.add_assoc], by rw [e2, Nat.add_assoc], ?_⟩
                    refine jgW_catch (ex := ex) hd (js_inv_eq ρ hq) hlt hq13 hex3 hfind ?_ ?_
                    · rw [js_args_eq]
                      exact js_thw_ok hA hm _ _ _ _ _ _ _ _ _ (js_inv_ix hq) hex
                    · rw [js_abs_add] at h1
                      exact h1
                  · cases h
                · cases h
              · cases h
          · cases h
        · cases h
def js_wrp (L : js_sc) (A : js_A) (mac : js_M) (n d t : Nat) (N : jm_M × jm_Hh) (as : List js_V) (D : js_S) (c k : Nat) : Option js_O := match js_run L A mac n d t N.1 0 (js_args 0 as) [] D c k with
  | some r => some r
  | none => js_catch L A mac N.2 n d t N.1 0 (js_args 0 as) [] D c k
theorem js_wrp_ok {ρ : js_R} {X : jm_X} {L : js_sc} {A : js_A} {mac : js_M} (hA : js_true ρ A) (hX : js_scr ρ X L) (hm : js_mok ρ X mac) {n d t : Nat} {N : jm_M × jm_Hh} {as : List js_V} {D : js_S} {c k : Nat} {v : Option js_V} {D' : js_S} {c' k' : Nat} (ht : jde_ok t N.1) (h : js_wrp L A mac n d t N as D c k = some (v, D', c', k')) :
    ∃ a b, c' = c + a ∧ k' = k + b ∧ jm_goesW X N.1 N.2 d 0 (lv_args 0 (as.map (js_v ρ))) [] (js_abs ρ D) (v.map (js_v ρ)) (js_abs ρ D') a b := by
  rw [js_args_eq]
  unfold js_wrp at h
  split at h
  · rename_i r hr
    cases h
    obtain ⟨a, b, e1, e2, h1⟩ := js_run_ok hA hX hm _ _ _ _ _ _ _ _ _ _ _ _ _ _ ht hr
    exact ⟨a, b, e1, e2, h1.w N.2⟩
  · exact js_catch_ok hA hX hm N.2 _ _ _ _ _ _ _ _ _ _ _ _ _ _ ht h
/-- the law's own walk: till it stands at stop (a place, locals, stack: none there), or has returned -/
def js_law (L : js_sc) (A : js_A) (mac : js_M) (stop : Nat) : Nat → Nat → Nat → jm_M → Nat → js_L → List js_V → js_S → Nat → Nat → Option (Option (js_L × List js_V) × js_O)
  | 0, _, _, _, _, _, _, _, _, _ => none
  | n + 1, d, t, M, pc, lv, st, D, c, k => match Nat.beq pc stop with
    | true => some (some (lv, st), none, D, c, k)
    | false => match Nat.ble c 700000 && Nat.ble k 8000000 with
      | false => none
      | true => match jde t pc with
        | none => none
        | some (i, len) => match js_step L A M i len pc lv st D with
          | some q => js_law L A mac stop n d t M q.1 q.2.1 q.2.2.1 q.2.2.2.1 (c + q.2.2.2.2.1) (k + q.2.2.2.2.2)
          | none => match js_ret i len M.2.2.2.1 st with
            | some v => some (none, v, D, c, k)
            | none => match js_winv M i len st with
              | some q => (match d with
                | 0 => none
                | d' + 1 => match js_wrp L A mac n d' (jdV (js_ix i)) q.1 q.2.1 D c k with
                  | some r => js_law L A mac stop n (d' + 1) t M (pc + 3) lv (r.1.toList ++ q.2.2) r.2.1 r.2.2.1 r.2.2.2
                  | none => none)
              | none => match js_inv M i len st D with
                | some q => (match d with
                  | 0 => none
                  | d' + 1 => match js_run L A mac n d' (jdI (jm_q M) (js_ix i)) q.1 0 (js_args 0 q.2.2.1) [] D c k with
                    | some r => js_law L A mac stop n (d' + 1) t M (pc + 3) lv (r.1.toList ++ q.2.2.2) r.2.1 r.2.2.1 r.2.2.2
                    | none => none)
                | none => none
/-- what the law's walk says: it returned, or whatever follows from stop on follows from here -/
def js_Lw (ρ : js_R) (X : jm_X) (M : jm_M) (d stop pc : Nat) (lv : js_L) (st : List js_V) (D : js_S) (w : Option (js_L × List js_V)) (v : Option js_V) (D' : js_S) (a b : Nat) : Prop := match w with
  | none => jm_goesL X M d pc (js_lv ρ lv) (st.map (js_v ρ)) (js_abs ρ D) (v.map (js_v ρ)) (js_abs ρ D') a b
  | some q => ∀ (v1 : Option Value) (S1 : jm_S) (k1 j1 : Nat), jm_goesL X M d stop (js_lv ρ q.1) (q.2.map (js_v ρ)) (js_abs ρ D') v1 S1 k1 j1 → jm_goesL X M d pc (js_lv ρ lv) (st.map (js_v ρ)) (js_abs ρ D) v1 S1 (a + k1) (b + j1)
theorem js_Lw_of {ρ : js_R} {X : jm_X} {M : jm_M} {d stop pc pc1 a0 b0 a b : Nat} {lv lv1 : js_L} {st st1 : List js_V} {D D1 D' : js_S} {w : Option (js_L × List js_V)} {v : Option js_V} (h : js_Lw ρ X M d stop pc1 lv1 st1 D1 w v D' a b)
    (f : ∀ (v : Option Value) (S' : jm_S) (k j : Nat), jm_goesL X M d pc1 (js_lv ρ lv1) (st1.map (js_v ρ)) (js_abs ρ D1) v S' k j → jm_goesL X M d pc (js_lv ρ lv) (st.map (js_v ρ)) (js_abs ρ D) v S' (a0 + k) (b0 + j)) : js_Lw ρ X M d stop pc lv st D w v D' (a0 + a) (b0 + b) := by
  cases w with
  | none => exact f _ _ _ _ h
  | some q =>
    intro v1 S1 k1 j1 h1
    rw [Nat.add_assoc, Nat.add_assoc]
    exact f _ _ _ _ (h v1 S1 k1 j1 h1)
theorem js_law_ok {ρ : js_R} {X : jm_X} {L : js_sc} {A : js_A} {mac : js_M} (hA : js_true ρ A) (hX : js_scr ρ X L) (hm : js_mok ρ X mac) (stop : Nat) : ∀ (n d t : Nat) (M : jm_M) (pc : Nat) (lv : js_L) (st : List js_V) (D : js_S) (c k : Nat) (w : Option (js_L × List js_V)) (v : Option js_V) (D' : js_S) (c' k' : Nat), jde_ok t M → js_law L A mac stop n d t M pc lv st D c k = some (w, v, D', c', k') →
    ∃ a b, c' = c + a ∧ k' = k + b ∧ js_Lw ρ X M d stop pc lv st D w v D' a b := by
  intro n
  induction n with
  | zero => intro d t M pc lv st D c k w v D' c' k' _ h; cases h
  | succ n ih =>
    intro d t M pc lv st D c k w v D' c' k' ht h
    unfold js_law at h
    split at h
    · rename_i hs
      cases h
      have e := Nat.eq_of_beq_eq_true hs
      subst e
      refine ⟨0, 0, rfl, rfl, ?_⟩
      intro v1 S1 k1 j1 h1
      rw [Nat.zero_add, Nat.zero_add]
      exact h1
    · split at h
      · cases h
      · split at h
        · cases h
        · rename_i i len hj
          have hd := ht _ _ hj
          split at h
          · rename_i q hq
            obtain ⟨a, b, e1, e2, h1⟩ := ih _ _ _ _ _ _ _ _ _ _ _ _ _ _ ht h
            exact ⟨_, _, by rw [e1, Nat.add_assoc], by rw [e2, Nat.add_assoc], js_Lw_of h1 (fun _ _ _ _ h2 => jgL_step hd (js_step_eq hA hX hq) h2)⟩
          · split at h
            · rename_i w1 hw
              cases h
              exact ⟨0, 0, rfl, rfl, jgL_ret hd (js_ret_eq ρ hw)⟩
            · split at h
              · rename_i q hq
                obtain ⟨N, as, r⟩ := q
                match d, h with
                | 0, h => cases h
                | d' + 1, h =>
                  dsimp only at h
                  split at h
                  · rename_i o ho
                    obtain ⟨v1, D1, c1, k1⟩ := o
                    obtain ⟨a1, b1, e1, e2, h1⟩ := js_wrp_ok hA hX hm (js_winv_ix hq) ho
                    obtain ⟨a2, b2, e3, e4, h2⟩ := ih _ _ _ _ _ _ _ _ _ _ _ _ _ _ ht h
                    dsimp only at e3 e4 h2
                    refine ⟨a1 + a2, b1 + b2, by rw [e3, e1, Nat.add_assoc], by rw [e4, e2, Nat.add_assoc], ?_⟩
                    refine js_Lw_of h2 (fun v5 S5 k5 j5 h5 => ?_)
                    rw [js_tl] at h5
                    exact jgL_winv hd (js_winv_eq ρ hq) h1 h5
                  · cases h
              · split at h
                · rename_i q hq
                  obtain ⟨N, f, as, r⟩ := q
                  match d, h with
                  | 0, h => cases h
                  | d' + 1, h =>
                    dsimp only at h
                    split at h
                    · rename_i o ho
                      obtain ⟨v1, D1, c1, k1⟩ := o
                      obtain ⟨a1, b1, e1, e2, h1⟩ := js_run_ok hA hX hm _ _ _ _ _ _ _ _ _ _ _ _ _ _ (js_inv_ix hq) ho
                      obtain ⟨a2, b2, e3, e4, h2⟩ := ih _ _ _ _ _ _ _ _ _ _ _ _ _ _ ht h
                      dsimp only at e3 e4 h2
                      refine ⟨a1 + a2, b1 + b2, by rw [e3, e1, Nat.add_assoc], by rw [e4, e2, Nat.add_assoc], ?_⟩
                      refine js_Lw_of h2 (fun v5 S5 k5 j5 h5 => ?_)
                      rw [js_tl] at h5
                      refine jgL_inv hd (js_inv_eq ρ hq) ?_ h5
                      rw [js_args_eq]
                      exact h1
                    · cases h
                · cases h
