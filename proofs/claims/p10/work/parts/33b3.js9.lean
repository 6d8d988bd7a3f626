def js_ix (i : Instr) : Nat := match i with
  | .invokevirtual idx => idx
  | .invokestatic idx => idx
  | .invokespecial idx => idx
  | _ => 0
/-! THE SYMBOLIC MACHINE, part 4c: Arrays.fill and System.arraycopy over its own stores -/
theorem jg_cp {X : jm_X} {M : jm_M} {d pc len k j : Nat} {lv : jm_L} {st r : List Value} {S S1 S' : jm_S} {v : Option Value} {i : Instr} (hd : decode M.2.1 pc = .ok (i, len)) (hr : jm_cp M i len d st S = some (r, S1)) (h : jm_goes X M d (pc + 3) lv r S1 v S' k j) : jm_goes X M d pc lv st S v S' k j := by
  intro p l e R s m args below meth c D dA base sa H locs cells slots ls Q C hH hS hl hlim hfr hlo hc hs hret
  exact jm_cp_ok C hd hr hH hS hl hlim hfr hlo (fun H1 locs1 w1 w2 w3 => h p l e R s m args below meth c D dA base sa H1 locs1 cells slots ls Q C w1 w2 hl w3 hfr hlo hc hs hret)
def js_cpl (us : List (Nat × js_V)) (z : Value) (sp dp : Nat) : Nat → List (Nat × js_V)
  | 0 => []
  | n + 1 => (dp + n, js_lk us z (sp + n)) :: js_cpl us z sp dp n
theorem js_cpl_i (ρ : js_R) (us ws : List (Nat × js_V)) (sp dp : Nat) : ∀ n, js_fi ρ (js_cpl us (.int 0) sp dp n ++ ws) = va_cpy (js_fi ρ us) (js_fi ρ ws) sp dp n := by
  intro n
  induction n with
  | zero =>
    funext j
    unfold va_cpy
    rw [if_neg (by omega)]
    rfl
  | succ n ih =>
    funext j
    show (if j = dp + n then js_int (js_v ρ (js_lk us (.int 0) (sp + n))) else js_fi ρ (js_cpl us (.int 0) sp dp n ++ ws) j) = _
    rw [ih, ← js_fi_lk]
    unfold va_cpy
    by_cases h : j = dp + n
    · rw [if_pos h, if_pos (by omega)]
      congr 1
      omega
    · rw [if_neg h]
      by_cases h2 : dp ≤ j ∧ j < dp + n
      · rw [if_pos h2, if_pos (by omega)]
      · rw [if_neg h2, if_neg (by omega)]
theorem js_cpl_l (ρ : js_R) (us ws : List (Nat × js_V)) (sp dp : Nat) : ∀ n, js_fl ρ (js_cpl us (.long 0) sp dp n ++ ws) = va_cpy (js_fl ρ us) (js_fl ρ ws) sp dp n := by
  intro n
  induction n with
  | zero =>
    funext j
    unfold va_cpy
    rw [if_neg (by omega)]
    rfl
  | succ n ih =>
    funext j
    show (if j = dp + n then js_lng (js_v ρ (js_lk us (.long 0) (sp + n))) else js_fl ρ (js_cpl us (.long 0) sp dp n ++ ws) j) = _
    rw [ih, ← js_fl_lk]
    unfold va_cpy
    by_cases h : j = dp + n
    · rw [if_pos h, if_pos (by omega)]
      congr 1
      omega
    · rw [if_neg h]
      by_cases h2 : dp ≤ j ∧ j < dp + n
      · rw [if_pos h2, if_pos (by omega)]
      · rw [if_neg h2, if_neg (by omega)]
def js_cp (M : jm_M) (i : Instr) (len d : Nat) (st : List js_V) (D : js_S) : Option (List js_V × js_S) := match i, len, st with
  | .invokestatic idx, 3, .inl (.int n) :: .inl (.int dp) :: .inl (.ref b) :: .inl (.int sp) :: .inl (.ref a) :: r => (match jp_A (jm_q M) idx with
    | some _ => if 1 ≤ d ∧ (r.map js_cat).sum ≤ 8 ∧ ¬ sp < 0 ∧ ¬ dp < 0 ∧ ¬ n < 0 then (match D[a]?, D[b]? with
      | some (.inl (0, n0, us)), some (.inl (0, n1, ws)) => if sp.toNatClampNeg + n.toNatClampNeg ≤ n0 ∧ dp.toNatClampNeg + n.toNatClampNeg ≤ n1 then some (r, D.set b (.inl (0, n1, js_cpl us (.int 0) sp.toNatClampNeg dp.toNatClampNeg n.toNatClampNeg ++ ws))) else none
      | some (.inl (1, n0, us)), some (.inl (1, n1, ws)) => if sp.toNatClampNeg + n.toNatClampNeg ≤ n0 ∧ dp.toNatClampNeg + n.toNatClampNeg ≤ n1 then some (r, D.set b (.inl (1, n1, js_cpl us (.long 0) sp.toNatClampNeg dp.toNatClampNeg n.toNatClampNeg ++ ws))) else none
      | _, _ => none) else none
    | none => none)
  | _, _, _ => none
theorem js_cp_eq (ρ : js_R) {M : jm_M} {i : Instr} {len d : Nat} {st r : List js_V} {D D' : js_S} (h : js_cp M i len d st D = some (r, D')) : jm_cp M i len d (st.map (js_v ρ)) (js_abs ρ D) = some (r.map (js_v ρ), js_abs ρ D') := by
  unfold js_cp at h
  split at h
  · rename_i idx n dp b sp a r1
    split at h
    · rename_i u hu
      split at h
      · rename_i hc
        split at h
        · rename_i n0 us n1 ws ha hb
          split at h
          · rename_i hk
            cases h
            obtain ⟨a1, a2⟩ := js_at ρ ha
            obtain ⟨b1, b2⟩ := js_at ρ hb
            show (match jp_A (jm_q M) idx with
              | some _ => if a < (js_abs ρ D).1 ∧ b < (js_abs ρ D).1 ∧ 1 ≤ d ∧ ((r.map (js_v ρ)).map fun v : Value => v.category).sum ≤ 8 ∧ ¬ sp < 0 ∧ ¬ dp < 0 ∧ ¬ n < 0 then (match (js_abs ρ D).2 a, (js_abs ρ D).2 b with
                | .inl (0, n0, .inl f), .inl (0, n1, .inl g) => if sp.toNatClampNeg + n.toNatClampNeg ≤ n0 ∧ dp.toNatClampNeg + n.toNatClampNeg ≤ n1 then some (r.map (js_v ρ), jm_up (js_abs ρ D) b (.inl (0, n1, .inl (va_cpy f g sp.toNatClampNeg dp.toNatClampNeg n.toNatClampNeg)))) else none
                | .inl (1, n0, .inr (.inl f)), .inl (1, n1, .inr (.inl g)) => if sp.toNatClampNeg + n.toNatClampNeg ≤ n0 ∧ dp.toNatClampNeg + n.toNatClampNeg ≤ n1 then some (r.map (js_v ρ), jm_up (js_abs ρ D) b (.inl (1, n1, .inr (.inl (va_cpy f g sp.toNatClampNeg dp.toNatClampNeg n.toNatClampNeg))))) else none
                | _, _ => none) else none
              | none => none) = _
            rw [hu]
            dsimp only
            rw [js_sum_eq, if_pos ⟨a1, b1, hc⟩, a2, b2]
            show (if sp.toNatClampNeg + n.toNatClampNeg ≤ n0 ∧ dp.toNatClampNeg + n.toNatClampNeg ≤ n1 then some (r.map (js_v ρ), jm_up (js_abs ρ D) b (.inl (0, n1, .inl (va_cpy (js_fi ρ us) (js_fi ρ ws) sp.toNatClampNeg dp.toNatClampNeg n.toNatClampNeg)))) else none) = _
            rw [if_pos hk, js_abs_set ρ _ b1, ← js_cpl_i]
            rfl
          · cases h
        · rename_i n0 us n1 ws ha hb
          split at h
          · rename_i hk
            cases h
            obtain ⟨a1, a2⟩ := js_at ρ ha
            obtain ⟨b1, b2⟩ := js_at ρ hb
            show (match jp_A (jm_q M) idx with
              | some _ => if a < (js_abs ρ D).1 ∧ b < (js_abs ρ D).1 ∧ 1 ≤ d ∧ ((r.map (js_v ρ)).map fun v : Value => v.category).sum ≤ 8 ∧ ¬ sp < 0 ∧ ¬ dp < 0 ∧ ¬ n < 0 then (match (js_abs ρ D).2 a, (js_abs ρ D).2 b with
                | .inl (0, n0, .inl f), .inl (0, n1, .inl g) => if sp.toNatClampNeg + n.toNatClampNeg ≤ n0 ∧ dp.toNatClampNeg + n.toNatClampNeg ≤ n1 then some (r.map (js_v ρ), jm_up (js_abs ρ D) b (.inl (0, n1, .inl (va_cpy f g sp.toNatClampNeg dp.toNatClampNeg n.toNatClampNeg)))) else none
                | .inl (1, n0, .inr (.inl f)), .inl (1, n1, .inr (.inl g)) => if sp.toNatClampNeg + n.toNatClampNeg ≤ n0 ∧ dp.toNatClampNeg + n.toNatClampNeg ≤ n1 then some (r.map (js_v ρ), jm_up (js_abs ρ D) b (.inl (1, n1, .inr (.inl (va_cpy f g sp.toNatClampNeg dp.toNatClampNeg n.toNatClampNeg))))) else none
                | _, _ => none) else none
              | none => none) = _
            rw [hu]
            dsimp only
            rw [js_sum_eq, if_pos ⟨a1, b1, hc⟩, a2, b2]
            show (if sp.toNatClampNeg + n.toNatClampNeg ≤ n0 ∧ dp.toNatClampNeg + n.toNatClampNeg ≤ n1 then some (r.map (js_v ρ), jm_up (js_abs ρ D) b (.inl (1, n1, .inr (.inl (va_cpy (js_fl ρ us) (js_fl ρ ws) sp.toNatClampNeg dp.toNatClampNeg n.toNatClampNeg))))) else none) = _
            rw [if_pos hk, js_abs_set ρ _ b1, ← js_cpl_l]
            rfl
          · cases h
        · cases h
      · cases h
    · cases h
  · cases h
/-! where the class fills -/
def jfl_i : List (Nat × Nat) := [(6, 62), (9, 55)]
def jfl_l : List (Nat × Nat) := [(4, 42), (5, 32)]
theorem jfl_i_ok : ∀ r ∈ jfl_i, ∃ k, jp_M r.1 r.2 = some (mArr_fill, k) := List.forall_mem_cons.mpr ⟨⟨_, rfl⟩, List.forall_mem_cons.mpr ⟨⟨_, rfl⟩, fun _ h => by cases h⟩⟩
theorem jfl_l_ok : ∀ r ∈ jfl_l, ∃ k, jp_M r.1 r.2 = some (mArr_fill2, k) := List.forall_mem_cons.mpr ⟨⟨_, rfl⟩, List.forall_mem_cons.mpr ⟨⟨_, rfl⟩, fun _ h => by cases h⟩⟩
theorem js_inv_M {M N : jm_M} {i : Instr} {len f : Nat} {st as r : List js_V} {D : js_S} (h : js_inv M i len st D = some (N, f, as, r)) : ∃ k, jp_M (jm_q M) (js_ix i) = some (N, k) := by
  unfold js_inv at h
  split at h
  · rename_i idx
    split at h
    · rename_i N1 hN
      split at h
      · split at h
        · split at h
          · split at h
            · cases h
              exact ⟨_, hN⟩
            · cases h
          · cases h
        · cases h
      · cases h
    · cases h
  · rename_i idx
    split at h
    · rename_i N1 k1 hN
      split at h
      · cases h
        exact ⟨_, hN⟩
      · cases h
    · cases h
  · rename_i idx
    split at h
    · rename_i N1 k1 hN
      split at h
      · split at h
        · cases h
          exact ⟨_, hN⟩
        · cases h
      · cases h
    · cases h
  · cases h
def js_low (n : Nat) (us : List (Nat × js_V)) : Bool := us.all fun q => Nat.blt q.1 n
theorem js_low_i (ρ : js_R) {n : Nat} : ∀ {us : List (Nat × js_V)}, js_low n us = true → ∀ j, n ≤ j → js_fi ρ us j = 0 := by
  intro us
  induction us with
  | nil => intro _ j _; rfl
  | cons q us ih =>
    intro h j hj
    have h1 : (Nat.blt q.1 n && js_low n us) = true := h
    rw [Bool.and_eq_true, Nat.blt_eq] at h1
    show (if j = q.1 then js_int (js_v ρ q.2) else js_fi ρ us j) = 0
    rw [if_neg (by omega), ih h1.2 j hj]
theorem js_low_l (ρ : js_R) {n : Nat} : ∀ {us : List (Nat × js_V)}, js_low n us = true → ∀ j, n ≤ j → js_fl ρ us j = 0 := by
  intro us
  induction us with
  | nil => intro _ j _; rfl
  | cons q us ih =>
    intro h j hj
    have h1 : (Nat.blt q.1 n && js_low n us) = true := h
    rw [Bool.and_eq_true, Nat.blt_eq] at h1
    show (if j = q.1 then js_lng (js_v ρ q.2) else js_fl ρ us j) = 0
    rw [if_neg (by omega), ih h1.2 j hj]
def js_all (v : Value) : Nat → List (Nat × js_V)
  | 0 => []
  | n + 1 => (n, .inl v) :: js_all v n
theorem js_all_i (ρ : js_R) (v : Int32) (us : List (Nat × js_V)) : ∀ n, js_fi ρ (js_all (.int v) n ++ us) = jh_f n 0 v (js_fi ρ us) := by
  intro n
  induction n with
  | zero => rw [jh_f_nil (Nat.le_refl 0)]; rfl
  | succ n ih =>
    funext j
    show (if j = n then v else js_fi ρ (js_all (.int v) n ++ us) j) = _
    rw [ih]
    unfold jh_f
    by_cases h : j = n
    · rw [if_pos h, if_pos (by omega)]
    · rw [if_neg h]
      by_cases h2 : 0 ≤ j ∧ j < n
      · rw [if_pos h2, if_pos (by omega)]
      · rw [if_neg h2, if_neg (by omega)]
theorem js_all_l (ρ : js_R) (v : Int64) (us : List (Nat × js_V)) : ∀ n, js_fl ρ (js_all (.long v) n ++ us) = jk_f n 0 v (js_fl ρ us) := by
  intro n
  induction n with
  | zero => rw [jk_f_nil (Nat.le_refl 0)]; rfl
  | succ n ih =>
    funext j
    show (if j = n then v else js_fl ρ (js_all (.long v) n ++ us) j) = _
    rw [ih]
    unfold jk_f
    by_cases h : j = n
    · rw [if_pos h, if_pos (by omega)]
    · rw [if_neg h]
      by_cases h2 : 0 ≤ j ∧ j < n
      · rw [if_pos h2, if_pos (by omega)]
      · rw [if_neg h2, if_neg (by omega)]
def js_flu_i (v : Int32) (n : Nat) (us : List (Nat × js_V)) : List (Nat × js_V) := match decide (v = 0) && js_low n us with
  | true => []
  | false => js_all (.int v) n ++ us
def js_flu_l (v : Int64) (n : Nat) (us : List (Nat × js_V)) : List (Nat × js_V) := match decide (v = 0) && js_low n us with
  | true => []
  | false => js_all (.long v) n ++ us
theorem js_flu_i_eq (ρ : js_R) (v : Int32) (n : Nat) (us : List (Nat × js_V)) : js_fi ρ (js_flu_i v n us) = jh_f n 0 v (js_fi ρ us) := by
  unfold js_flu_i
  split
  · rename_i h
    rw [Bool.and_eq_true, decide_eq_true_eq] at h
    funext j
    unfold jh_f
    by_cases h2 : 0 ≤ j ∧ j < n
    · rw [if_pos h2, h.1]; rfl
    · rw [if_neg h2, js_low_i ρ h.2 j (by omega)]; rfl
  · exact js_all_i ρ v us n
theorem js_flu_l_eq (ρ : js_R) (v : Int64) (n : Nat) (us : List (Nat × js_V)) : js_fl ρ (js_flu_l v n us) = jk_f n 0 v (js_fl ρ us) := by
  unfold js_flu_l
  split
  · rename_i h
    rw [Bool.and_eq_true, decide_eq_true_eq] at h
    funext j
    unfold jk_f
    by_cases h2 : 0 ≤ j ∧ j < n
    · rw [if_pos h2, h.1]; rfl
    · rw [if_neg h2, js_low_l ρ h.2 j (by omega)]; rfl
  · exact js_all_l ρ v us n
/-- 1: a fill of ints, 2: of longs -/
def js_isf (q : Nat) (i : Instr) : Nat := match i with
  | .invokestatic idx => bif jfl_i.any (fun r => Nat.beq r.1 q && Nat.beq r.2 idx) then 1 else bif jfl_l.any (fun r => Nat.beq r.1 q && Nat.beq r.2 idx) then 2 else 0
  | _ => 0
def js_fil (M : jm_M) (i : Instr) (len : Nat) (st : List js_V) (D : js_S) : Option (List js_V × js_S) := match js_isf (jm_q M) i with
  | 1 => (match js_inv M i len st D with
    | some (_, _, [.inl (.ref a), .inl (.int v)], r) => (match D[a]? with
      | some (.inl (0, n, us)) => if n ≤ 2147483647 then some (r, D.set a (.inl (0, n, js_flu_i v n us))) else none
      | _ => none)
    | _ => none)
  | 2 => (match js_inv M i len st D with
    | some (_, _, [.inl (.ref a), .inl (.long v)], r) => (match D[a]? with
      | some (.inl (1, n, us)) => if n ≤ 2147483647 then some (r, D.set a (.inl (1, n, js_flu_l v n us))) else none
      | _ => none)
    | _ => none)
  | _ => none
theorem js_any {l : List (Nat × Nat)} {q idx : Nat} (h : l.any (fun r => Nat.beq r.1 q && Nat.beq r.2 idx) = true) : (q, idx) ∈ l := by
  obtain ⟨r, hr, h⟩ := List.any_eq_true.mp h
  rw [Bool.and_eq_true] at h
  have e1 := Nat.eq_of_beq_eq_true h.1
  have e2 := Nat.eq_of_beq_eq_true h.2
  have e3 : r = (q, idx) := Prod.ext e1 e2
  rw [← e3]
  exact hr
theorem js_isf_1 {q : Nat} {i : Instr} (h : js_isf q i = 1) : ∃ k, jp_M q (js_ix i) = some (mArr_fill, k) := by
  unfold js_isf at h
  split at h
  · rename_i idx
    cases hb : jfl_i.any (fun r => Nat.beq r.1 q && Nat.beq r.2 idx) with
    | true => exact jfl_i_ok _ (js_any hb)
    | false =>
      rw [hb] at h
      dsimp only [cond] at h
      cases hb2 : jfl_l.any (fun r => Nat.beq r.1 q && Nat.beq r.2 idx) with
      | true => rw [hb2] at h; cases h
      | false => rw [hb2] at h; cases h
  · cases h
theorem js_isf_2 {q : Nat} {i : Instr} (h : js_isf q i = 2) : ∃ k, jp_M q (js_ix i) = some (mArr_fill2, k) := by
  unfold js_isf at h
  split at h
  · rename_i idx
    cases hb : jfl_i.any (fun r => Nat.beq r.1 q && Nat.beq r.2 idx) with
    | true => rw [hb] at h; cases h
    | false =>
      rw [hb] at h
      dsimp only [cond] at h
      cases hb2 : jfl_l.any (fun r => Nat.beq r.1 q && Nat.beq r.2 idx) with
      | true => exact jfl_l_ok _ (js_any hb2)
      | false => rw [hb2] at h; cases h
  · cases h
theorem js_fil_go {ρ : js_R} {X : jm_X} {M : jm_M} {i : Instr} {len d pc k j : Nat} {lv : jm_L} {st r : List js_V} {D D' : js_S} {v : Option Value} {S' : jm_S} (hd : decode M.2.1 pc = .ok (i, len)) (h : js_fil M i len st D = some (r, D')) (h2 : jm_goes X M (d + 1) (pc + 3) lv (r.map (js_v ρ)) (js_abs ρ D') v S' k j) : jm_goes X M (d + 1) pc lv (st.map (js_v ρ)) (js_abs ρ D) v S' k j := by
  unfold js_fil at h
  split at h
  · rename_i hf
    obtain ⟨k1, hk1⟩ := js_isf_1 hf
    split at h
    · rename_i N f a w r1 hi
      obtain ⟨k2, hk2⟩ := js_inv_M hi
      have e := hk1.symm.trans hk2
      cases e
      split at h
      · rename_i n us ha
        split at h
        · rename_i hn
          cases h
          obtain ⟨a1, a2⟩ := js_at ρ ha
          have hq := jh_fill (X := X) (d := d) (a := a) (n := n) (v := w) (S := js_abs ρ D) (f := js_fi ρ us) a1 hn a2
          have e2 : js_abs ρ (D.set a (.inl (0, n, js_flu_i w n us))) = jm_up (js_abs ρ D) a (.inl (0, n, .inl (jh_f n 0 w (js_fi ρ us)))) := by
            rw [js_abs_set ρ _ a1, ← js_flu_i_eq]
            rfl
          rw [e2] at h2
          have := jg_inv hd (js_inv_eq ρ hi) hq h2
          rw [Nat.zero_add, Nat.zero_add] at this
          exact this
        · cases h
      · cases h
    · cases h
  · rename_i hf
    obtain ⟨k1, hk1⟩ := js_isf_2 hf
    split at h
    · rename_i N f a w r1 hi
      obtain ⟨k2, hk2⟩ := js_inv_M hi
      have e := hk1.symm.trans hk2
      cases e
      split at h
      · rename_i n us ha
        split at h
        · rename_i hn
          cases h
          obtain ⟨a1, a2⟩ := js_at ρ ha
          have hq := jk_fill (X := X) (d := d) (a := a) (n := n) (v := w) (S := js_abs ρ D) (f := js_fl ρ us) a1 hn a2
          have e2 : js_abs ρ (D.set a (.inl (1, n, js_flu_l w n us))) = jm_up (js_abs ρ D) a (.inl (1, n, .inr (.inl (jk_f n 0 w (js_fl ρ us))))) := by
            rw [js_abs_set ρ _ a1, ← js_flu_l_eq]
            rfl
          rw [e2] at h2
          have := jg_inv hd (js_inv_eq ρ hi) hq h2
          rw [Nat.zero_add, Nat.zero_add] at this
          exact this
        · cases h
      · cases h
    · cases h
  · cases h
