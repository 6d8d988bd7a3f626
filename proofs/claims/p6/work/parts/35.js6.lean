/-! THE BYTES: the test of a byte (10, or 32 to 126), as class and reference have it -/
def jf_fine (x : Int32) : Bool := decide (x = 10) || (!decide (x < 32) && decide (x ≤ 126))
def jf_to (X : jm_X) (M : jm_M) (d : Nat) (S : jm_S) (pc : Nat) (lv : jm_L) (st : List Value) (pc1 : Nat) (lv1 : jm_L) (st1 : List Value) : Prop :=
  (∀ (v : Option Value) (S' : jm_S) (k j : Nat), jm_goes X M d pc1 lv1 st1 S v S' k j → jm_goes X M d pc lv st S v S' k j) ∧ ∀ ex : Nat, jm_goesT X M d pc1 lv1 st1 S ex → jm_goesT X M d pc lv st S ex
section JF
variable {X : jm_X} {M : jm_M} {d pc pc1 pc2 len : Nat} {S : jm_S} {lv lv1 lv2 : jm_L} {st st1 st2 : List Value} {i : Instr} {s : Nat} {x : Int32}
theorem jf_tr (h1 : jf_to X M d S pc lv st pc1 lv1 st1) (h2 : jf_to X M d S pc1 lv1 st1 pc2 lv2 st2) : jf_to X M d S pc lv st pc2 lv2 st2 :=
  ⟨fun _ _ _ _ h => h1.1 _ _ _ _ (h2.1 _ _ _ _ h), fun _ h => h1.2 _ (h2.2 _ h)⟩
theorem jf_st (hd : decode M.2.1 pc = .ok (i, len)) (hs : jm_step X M i len pc lv st S = some (pc1, lv1, st1, S, 0, 0)) (hr : jm_rst X M i len pc lv st S = some (pc1, lv1, st1)) : jf_to X M d S pc lv st pc1 lv1 st1 := by
  refine ⟨fun v S' k j h => ?_, fun ex h => jgT_step hd hr h⟩
  have := jg_step hd hs h
  rw [Nat.zero_add, Nat.zero_add] at this
  exact this
theorem jf_ld {w : Nat} (hld : jm_ld i len = some (s, 0)) (hk : jm_k i len = none) (hd : decode M.2.1 pc = .ok (i, len)) (hg : jm_get lv s = some (.int x)) (hw : pc + len = w) : jf_to X M d S pc lv st w lv (.int x :: st) := by
  subst hw
  refine jf_st hd ?_ ?_
  · unfold jm_step
    rw [hk, hld]
    dsimp only
    rw [hg]
    rfl
  · unfold jm_rst
    rw [hk, hld]
    dsimp only
    rw [hg]
    rfl
theorem jf_k {n : Int} {y : Int32} {w : Nat} (hy : (Int8.ofInt n).toInt32 = y) (hd : decode M.2.1 pc = .ok (.bipush n, 2)) (hw : pc + 2 = w) : jf_to X M d S pc lv st w lv (.int y :: st) := by
  subst hw
  subst hy
  exact jf_st hd rfl rfl
theorem jf_cc {q : ClassFile.Cond} {off : Int} {y : Int32} {w : Nat} (hd : decode M.2.1 pc = .ok (.if_icmp q off, 3)) (ho : jm_ok pc off = true) (hw : (if jm_cc q x y = true then jm_at pc off else pc + 3) = w) : jf_to X M d S pc lv (.int y :: .int x :: st) w lv st := by
  have e : jm_br (.if_icmp q off) 3 pc (.int y :: .int x :: st) = some (w, st) := by
    show (if jm_ok pc off = true then some (if jm_cc q x y = true then jm_at pc off else pc + 3, st) else none) = _
    rw [if_pos ho, hw]
  refine jf_st hd ?_ ?_
  · show (match jm_br (.if_icmp q off) 3 pc (.int y :: .int x :: st) with
      | some q => some (q.1, lv, q.2, S, 0, 0)
      | none => _) = _
    rw [e]
  · show (match jm_br (.if_icmp q off) 3 pc (.int y :: .int x :: st) with
      | some q => some (q.1, lv, q.2)
      | none => _) = _
    rw [e]
end JF
theorem jf_cls {X : jm_X} {M : jm_M} {d : Nat} {S : jm_S} {lv : jm_L} {x : Int32} (hM : M.2.1 = mP_feed.2.1) (hg : jm_get lv 5 = some (.int x)) : jf_to X M d S 44 lv [] (if jf_fine x = true then 75 else 65) lv [] := by
  refine jf_tr (jf_ld (i := .iload 5) (len := 2) (w := 46) rfl rfl (by rw [hM]; decide +kernel) hg rfl) ?_
  refine jf_tr (jf_k (n := 10) (y := 10) (w := 48) (by decide) (by rw [hM]; decide +kernel) rfl) ?_
  by_cases h1 : x = 10
  · refine jf_cc (q := .eq) (off := 27) (by rw [hM]; decide +kernel) rfl ?_
    subst h1
    rfl
  · refine jf_tr (jf_cc (q := .eq) (off := 27) (w := 51) (by rw [hM]; decide +kernel) rfl ?_) ?_
    · rw [if_neg]
      show ¬ decide (x = 10) = true
      simpa using h1
    · refine jf_tr (jf_ld (i := .iload 5) (len := 2) (w := 53) rfl rfl (by rw [hM]; decide +kernel) hg rfl) ?_
      refine jf_tr (jf_k (n := 32) (y := 32) (w := 55) (by decide) (by rw [hM]; decide +kernel) rfl) ?_
      by_cases h2 : x < 32
      · refine jf_cc (q := .lt) (off := 10) (by rw [hM]; decide +kernel) rfl ?_
        rw [if_pos (show jm_cc .lt x 32 = true from decide_eq_true h2), if_neg]
        · rfl
        · simp [jf_fine, h1, h2]
      · refine jf_tr (jf_cc (q := .lt) (off := 10) (w := 58) (by rw [hM]; decide +kernel) rfl ?_) ?_
        · rw [if_neg]
          show ¬ decide (x < 32) = true
          simpa using h2
        · refine jf_tr (jf_ld (i := .iload 5) (len := 2) (w := 60) rfl rfl (by rw [hM]; decide +kernel) hg rfl) ?_
          refine jf_tr (jf_k (n := 126) (y := 126) (w := 62) (by decide) (by rw [hM]; decide +kernel) rfl) ?_
          refine jf_cc (q := .le) (off := 13) (by rw [hM]; decide +kernel) rfl ?_
          by_cases h3 : x ≤ 126
          · rw [if_pos (show jm_cc .le x 126 = true from decide_eq_true h3), if_pos]
            · rfl
            · simp [jf_fine, h2, h3]
          · rw [if_neg (show ¬ jm_cc .le x 126 = true from fun e => h3 (of_decide_eq_true e)), if_neg]
            simp [jf_fine, h1, h3]
theorem jf_ref {X : jm_X} {M : jm_M} {d : Nat} {S : jm_S} {lv : jm_L} {x : Int32} (hM : M.2.1 = mM_isFine.2.1) (hg : jm_get lv 0 = some (.int x)) : jf_to X M d S 0 lv [] (if jf_fine x = true then 18 else 22) lv [] := by
  refine jf_tr (jf_ld (i := .iload_n 0) (len := 1) (w := 1) rfl rfl (by rw [hM]; decide +kernel) hg rfl) ?_
  refine jf_tr (jf_k (n := 10) (y := 10) (w := 3) (by decide) (by rw [hM]; decide +kernel) rfl) ?_
  by_cases h1 : x = 10
  · refine jf_cc (q := .eq) (off := 15) (by rw [hM]; decide +kernel) rfl ?_
    subst h1
    rfl
  · refine jf_tr (jf_cc (q := .eq) (off := 15) (w := 6) (by rw [hM]; decide +kernel) rfl ?_) ?_
    · rw [if_neg]
      show ¬ decide (x = 10) = true
      simpa using h1
    · refine jf_tr (jf_ld (i := .iload_n 0) (len := 1) (w := 7) rfl rfl (by rw [hM]; decide +kernel) hg rfl) ?_
      refine jf_tr (jf_k (n := 32) (y := 32) (w := 9) (by decide) (by rw [hM]; decide +kernel) rfl) ?_
      by_cases h2 : x < 32
      · refine jf_cc (q := .lt) (off := 13) (by rw [hM]; decide +kernel) rfl ?_
        rw [if_pos (show jm_cc .lt x 32 = true from decide_eq_true h2), if_neg]
        · rfl
        · simp [jf_fine, h1, h2]
      · refine jf_tr (jf_cc (q := .lt) (off := 13) (w := 12) (by rw [hM]; decide +kernel) rfl ?_) ?_
        · rw [if_neg]
          show ¬ decide (x < 32) = true
          simpa using h2
        · refine jf_tr (jf_ld (i := .iload_n 0) (len := 1) (w := 13) rfl rfl (by rw [hM]; decide +kernel) hg rfl) ?_
          refine jf_tr (jf_k (n := 126) (y := 126) (w := 15) (by decide) (by rw [hM]; decide +kernel) rfl) ?_
          refine jf_cc (q := .gt) (off := 7) (by rw [hM]; decide +kernel) rfl ?_
          by_cases h3 : x ≤ 126
          · rw [if_neg (show ¬ jm_cc .gt x 126 = true from fun e => absurd (of_decide_eq_true e) (Int32.not_lt.mpr h3)), if_pos]
            simp [jf_fine, h2, h3]
          · rw [if_pos (show jm_cc .gt x 126 = true from decide_eq_true (Int32.not_le.mp h3)), if_neg]
            · rfl
            · simp [jf_fine, h1, h3]
def jf_ok (oks : List (Nat × Bool)) (k : Nat) : Option Bool := match oks.find? (fun r => Nat.beq r.1 k) with
  | some r => some r.2
  | none => none
def jf_go (oks : List (Nat × Bool)) (lv : js_L) (st : List js_V) (s t f : Nat) : Option (Nat × js_L × List js_V) := match st with
  | [] => (match js_get lv s with
    | some (.inr k) => (match jf_ok oks k with
      | some b => some (if b = true then t else f, lv, [])
      | none => none)
    | _ => none)
  | _ => none
def jf_mac (oks : List (Nat × Bool)) : js_M := fun M pc lv st => match Nat.beq pc 44, Nat.beq pc 0 with
  | true, _ => if M.2.1 = mP_feed.2.1 then jf_go oks lv st 5 75 65 else none
  | false, true => if M.2.1 = mM_isFine.2.1 then jf_go oks lv st 0 18 22 else none
  | false, false => none
def jf_true (ρ : js_R) (oks : List (Nat × Bool)) : Prop := ∀ r ∈ oks, Nat.blt r.1 100 = true ∧ jf_fine (ρ.1 r.1) = r.2
theorem jf_ok_ok {ρ : js_R} {oks : List (Nat × Bool)} (h : jf_true ρ oks) {k : Nat} {b : Bool} (hk : jf_ok oks k = some b) : js_v ρ (.inr k) = .int (ρ.1 k) ∧ jf_fine (ρ.1 k) = b := by
  unfold jf_ok at hk
  split at hk
  · rename_i r hr
    cases hk
    have h1 := List.find?_some hr
    have h2 := h r (List.mem_of_find?_eq_some hr)
    have e := Nat.eq_of_beq_eq_true h1
    rw [e] at h2
    exact ⟨js_vi h2.1, h2.2⟩
  · cases hk
theorem jf_mac_ok {ρ : js_R} (X : jm_X) {oks : List (Nat × Bool)} (h : jf_true ρ oks) : js_mok ρ X (jf_mac oks) := by
  intro M pc lv st pc1 lv1 st1 hm d S _
  unfold jf_mac at hm
  split at hm
  · rename_i hp
    split at hm
    · rename_i hM
      unfold jf_go at hm
      split at hm
      · split at hm
        · rename_i k hk
          split at hm
          · rename_i b hb
            cases hm
            obtain ⟨e1, e2⟩ := jf_ok_ok h hb
            have hg := js_get_eq ρ hk
            rw [e1] at hg
            have := jf_cls (X := X) (d := d) (S := S) hM hg
            rw [e2] at this
            rw [Nat.eq_of_beq_eq_true hp]
            exact this
          · cases hm
        · cases hm
      · cases hm
    · cases hm
  · rename_i hp
    split at hm
    · rename_i hM
      unfold jf_go at hm
      split at hm
      · split at hm
        · rename_i k hk
          split at hm
          · rename_i b hb
            cases hm
            obtain ⟨e1, e2⟩ := jf_ok_ok h hb
            have hg := js_get_eq ρ hk
            rw [e1] at hg
            have := jf_ref (X := X) (d := d) (S := S) hM hg
            rw [e2] at this
            rw [Nat.eq_of_beq_eq_true hp]
            exact this
          · cases hm
        · cases hm
      · cases hm
    · cases hm
  · cases hm
