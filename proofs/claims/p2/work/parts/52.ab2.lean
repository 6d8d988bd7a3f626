/-! THE ABSTRACT MACHINE, part 2: instructions that touch no cell -/
section OK2
variable {X : jm_X} {M : jm_M} {d pc len : Nat} {i : Instr} {ts : ab_t} {l : ab_l} {st : List (Nat × Int)} {μ : ab_m} {P : Int → ab_m → Prop}
theorem ab_sv_cons (t : Nat) (x : Int) (st : List (Nat × Int)) : ab_sv ((t, x) :: st) = ab_v t x :: ab_sv st := rfl
theorem ab_sr_cons {t : Nat} {x : Int} {st : List (Nat × Int)} (h : ab_rg t x) (hs : ab_sr st) : ab_sr ((t, x) :: st) := by
  intro q hq
  rcases List.mem_cons.mp hq with rfl | hq
  · exact h
  · exact hs q hq
theorem ab_sr_hd {t : Nat} {x : Int} {st : List (Nat × Int)} (hs : ab_sr ((t, x) :: st)) : ab_rg t x := hs (t, x) List.mem_cons_self
theorem ab_sr_tl {q : Nat × Int} {st : List (Nat × Int)} (hs : ab_sr (q :: st)) : ab_sr st := fun x hx => hs x (List.mem_cons_of_mem _ hx)
theorem ok_k {t : Nat} {x : Int} (hd : decode M.2.1 pc = .ok (i, len)) (hk : jm_k i len = some (ab_v t x)) (hr : ab_rg t x) (k : ok_ X M d (pc + len) ts l ((t, x) :: st) μ P) : ok_ X M d pc ts l st μ P := by
  refine ok_step hd (fun lv S a b c _ => ⟨lv, S, ?_, a, ab_sr_cons hr b, c, rfl⟩) k
  unfold jm_step
  rw [hk]
  rfl
theorem ok_iconst {n : Int} (hd : decode M.2.1 pc = .ok (.iconst n, 1)) (hr : ab_rg 0 n) (k : ok_ X M d (pc + 1) ts l ((0, n) :: st) μ P) : ok_ X M d pc ts l st μ P := ok_k hd rfl hr k
theorem ok_bipush {n : Int} (hd : decode M.2.1 pc = .ok (.bipush n, 2)) (hr : -128 ≤ n ∧ n ≤ 127) (k : ok_ X M d (pc + 2) ts l ((0, n) :: st) μ P) : ok_ X M d pc ts l st μ P := by
  refine ok_k hd ?_ (by simp only [ab_rg]; omega) k
  have h1 : (Int8.ofInt n).toInt32 = Int32.ofInt n := by
    apply Int32.toInt_inj.mp
    rw [Int8.toInt_toInt32, Int8.toInt_ofInt_of_le (by omega) (by omega), Int32.toInt_ofInt_of_le (by omega) (by omega)]
  show some (Value.int (Int8.ofInt n).toInt32) = some (Value.int (Int32.ofInt n))
  rw [h1]
theorem ok_sipush {n : Int} (hd : decode M.2.1 pc = .ok (.sipush n, 3)) (hr : -32768 ≤ n ∧ n ≤ 32767) (k : ok_ X M d (pc + 3) ts l ((0, n) :: st) μ P) : ok_ X M d pc ts l st μ P := by
  refine ok_k hd ?_ (by simp only [ab_rg]; omega) k
  have h1 : (Int16.ofInt n).toInt32 = Int32.ofInt n := by
    apply Int32.toInt_inj.mp
    rw [Int16.toInt_toInt32, Int16.toInt_ofInt_of_le (by omega) (by omega), Int32.toInt_ofInt_of_le (by omega) (by omega)]
  show some (Value.int (Int16.ofInt n).toInt32) = some (Value.int (Int32.ofInt n))
  rw [h1]
theorem ok_lconst {n : Fin 2} (hd : decode M.2.1 pc = .ok (.lconst n, 1)) (k : ok_ X M d (pc + 1) ts l ((1, (n.val : Int)) :: st) μ P) : ok_ X M d pc ts l st μ P := by
  refine ok_k hd ?_ (by simp only [ab_rg]; omega) k
  show some (Value.long (Int64.ofNat n.val)) = some (Value.long (Int64.ofInt (n.val : Int)))
  rw [Int64.ofInt_eq_ofNat]
theorem ok_ld {n q : Nat} (hd : decode M.2.1 pc = .ok (i, len)) (hl : jm_ld i len = some (n, q)) (hk : jm_k i len = none) (ht : ts n = some q) (hnn : q = 2 → 0 ≤ l n) (k : ok_ X M d (pc + len) ts l ((q, l n) :: st) μ P) : ok_ X M d pc ts l st μ P := by
  refine ok_step hd (fun lv S a b c _ => ?_) k
  obtain ⟨h1, h2, h3⟩ := a n q ht
  refine ⟨lv, S, ?_, a, ab_sr_cons h2 b, c, rfl⟩
  have h4 : jm_isk q (ab_v q (l n)) = true := by
    match q, h3 with
    | 0, _ => rfl
    | 1, _ => rfl
    | 2, _ =>
      have h5 := hnn rfl
      have h6 : ¬ l n < 0 := by omega
      simp [ab_v, h6, jm_isk]
  unfold jm_step
  rw [hk, hl]
  dsimp only
  rw [h1]
  dsimp only
  rw [if_pos h4]
  rfl
/-- a load of one whose value is known -/
theorem ok_ldc {n q : Nat} {x : Int} (hd : decode M.2.1 pc = .ok (i, len)) (hl : jm_ld i len = some (n, q)) (hk : jm_k i len = none) (ht : ts n = some q) (hx : l n = x) (hnn : q = 2 → 0 ≤ x) (k : ok_ X M d (pc + len) ts l ((q, x) :: st) μ P) : ok_ X M d pc ts l st μ P := by
  subst hx
  exact ok_ld hd hl hk ht hnn k
def ab_up (l : ab_l) (n : Nat) (x : Int) : ab_l := fun m => if m = n then x else l m
def ab_st (ts : ab_t) (n t : Nat) : ab_t := fun m => bif Nat.beq m n then some t else bif Nat.beq t 1 && Nat.beq m (n + 1) then none else bif Nat.beq (m + 1) n && (match ts m with
  | some 1 => true
  | _ => false) then none else ts m
theorem ab_find {lv : jm_L} {m : Nat} {f : Nat × Value → Bool} {v : Value} (h : jm_get lv m = some v) (hf : f (m, v) = true) : jm_get (lv.filter f) m = some v := by
  unfold jm_get at h ⊢
  induction lv with
  | nil => cases h
  | cons q r ih =>
    rw [List.find?_cons] at h
    by_cases hq : q.1 = m
    · have e1 : (q.1 == m) = true := by simpa using hq
      rw [e1] at h
      dsimp only at h
      cases h
      have e2 : f q = true := by
        have : q = (m, q.2) := by rw [← hq]
        rw [this]; exact hf
      rw [List.filter_cons, if_pos e2, List.find?_cons, e1]
    · have e1 : (q.1 == m) = false := by simpa using hq
      rw [e1] at h
      dsimp only at h
      have h2 := ih h
      rw [List.filter_cons]
      by_cases hfq : f q = true
      · rw [if_pos hfq, List.find?_cons, e1]
        exact h2
      · rw [if_neg hfq]
        exact h2
theorem ab_cat {t : Nat} (x : Int) (h : t < 3) : (ab_v t x).category = if t = 1 then 2 else 1 := by
  match t, h with
  | 0, _ => rfl
  | 1, _ => rfl
  | 2, _ =>
    show (if x < 0 then Value.null else Value.ref x.toNat).category = 1
    split <;> rfl
theorem ab_bne {m n : Nat} (h : ¬ m = n) : Nat.beq m n = false := by
  cases h1 : Nat.beq m n
  · rfl
  · exact absurd (Nat.eq_of_beq_eq_true h1) h
theorem ab_LR_st {lv : jm_L} {n q : Nat} {x : Int} (a : ab_LR ts l lv) (hq : q < 3) (hr : ab_rg q x) : ab_LR (ab_st ts n q) (ab_up l n x) (if q = 1 then jm_set2 lv n (ab_v q x) else jm_set1 lv n (ab_v q x)) := by
  intro m t hm
  unfold ab_st at hm
  by_cases hmn : m = n
  · subst hmn
    rw [Nat.beq_refl] at hm
    cases hm
    have e1 : ab_up l m x m = x := if_pos rfl
    rw [e1]
    refine ⟨?_, hr, hq⟩
    split
    · simp [jm_get, jm_set2]
    · simp [jm_get, jm_set1]
  · have e0 : Nat.beq m n = false := ab_bne hmn
    rw [e0] at hm
    dsimp only [cond_false] at hm
    cases e1 : (Nat.beq q 1 && Nat.beq m (n + 1))
    case true => rw [e1] at hm; cases hm
    case false =>
      rw [e1] at hm
      dsimp only [cond_false] at hm
      cases e2 : (Nat.beq (m + 1) n && (match ts m with
        | some 1 => true
        | _ => false))
      case true => rw [e2] at hm; cases hm
      case false =>
        rw [e2] at hm
        dsimp only [cond_false] at hm
        obtain ⟨h1, h2, h3⟩ := a m t hm
        have e3 : ab_up l n x m = l m := if_neg hmn
        rw [e3]
        refine ⟨?_, h2, h3⟩
        have hcat := ab_cat (l m) h3
        have h4 : ¬ (m + 1 = n ∧ (ab_v t (l m)).category = 2) := by
          rintro ⟨g1, g2⟩
          rw [hcat] at g2
          have : t = 1 := by
            by_cases h9 : t = 1
            · exact h9
            · rw [if_neg h9] at g2; omega
          subst this
          rw [hm] at e2
          have g3 : Nat.beq (m + 1) n = true := by rw [g1]; exact Nat.beq_refl n
          rw [g3] at e2
          cases e2
        have hne : (n == m) = false := by simpa using fun h => hmn h.symm
        have e4 : (m == n) = false := by simpa using hmn
        have e6 : (m + 1 == n && (ab_v t (l m)).category == 2) = false := by
          cases h9 : (m + 1 == n && (ab_v t (l m)).category == 2)
          · rfl
          · rw [Bool.and_eq_true, beq_iff_eq, beq_iff_eq] at h9
            exact absurd h9 h4
        split
        · rename_i hq1
          subst hq1
          have h5 : m ≠ n + 1 := by
            intro h5
            rw [h5] at e1
            simp at e1
          have h6 := ab_find (f := fun q => !(q.1 == n) && (!(q.1 == n + 1) && !(q.1 + 1 == n && q.2.category == 2))) h1 (by
            have e5 : (m == n + 1) = false := by simpa using h5
            show (!(m == n) && (!(m == n + 1) && !(m + 1 == n && (ab_v t (l m)).category == 2))) = true
            rw [e4, e5, e6]
            rfl)
          unfold jm_set2
          unfold jm_get
          rw [List.find?_cons]
          dsimp only
          rw [hne]
          exact h6
        · have h6 := ab_find (f := fun q => !(q.1 == n) && !(q.1 + 1 == n && q.2.category == 2)) h1 (by
            show (!(m == n) && !(m + 1 == n && (ab_v t (l m)).category == 2)) = true
            rw [e4, e6]
            rfl)
          unfold jm_set1
          unfold jm_get
          rw [List.find?_cons]
          dsimp only
          rw [hne]
          exact h6
theorem ok_sr_ {n q : Nat} {x : Int} (hd : decode M.2.1 pc = .ok (i, len)) (hs : jm_sr i len = some (n, q)) (hk : jm_k i len = none) (hl : jm_ld i len = none) (hq : q < 3) (hn : n + (if q = 1 then 2 else 1) ≤ M.2.2.1) (hnn : q = 2 → 0 ≤ x) (k : ok_ X M d (pc + len) (ab_st ts n q) (ab_up l n x) st μ P) : ok_ X M d pc ts l ((q, x) :: st) μ P := by
  refine ok_step hd (fun lv S a b c _ => ?_) k
  refine ⟨if q = 1 then jm_set2 lv n (ab_v q x) else jm_set1 lv n (ab_v q x), S, ?_, ab_LR_st a hq (ab_sr_hd b), ab_sr_tl b, c, rfl⟩
  have h4 : jm_isk q (ab_v q x) = true := by
    match q, hq with
    | 0, _ => rfl
    | 1, _ => rfl
    | 2, _ =>
      have h5 := hnn rfl
      have h6 : ¬ x < 0 := by omega
      simp [ab_v, h6, jm_isk]
  unfold jm_step
  rw [hk, hl, hs]
  dsimp only [ab_sv_cons]
  rw [if_pos ⟨h4, by rw [ab_cat x hq]; exact hn⟩]
theorem ok_iinc {n : Nat} {z : Int} (hd : decode M.2.1 pc = .ok (.iinc n z, 3)) (ht : ts n = some 0) (hn : n < M.2.2.1) (k : ok_ X M d (pc + 3) (ab_st ts n 0) (ab_up l n (ab_w (l n + z))) st μ P) : ok_ X M d pc ts l st μ P := by
  refine ok_step hd (fun lv S a b c _ => ?_) k
  obtain ⟨h1, h2, h3⟩ := a n 0 ht
  have h4 := ab_LR_st (n := n) (q := 0) (x := ab_w (l n + z)) a (by omega) (ab_w_rg _)
  refine ⟨_, S, ?_, h4, b, c, rfl⟩
  have h5 : ab_v 0 (ab_w (l n + z)) = .int (Int32.ofInt (l n) + Int32.ofInt z) := by
    show Value.int (Int32.ofInt (ab_w (l n + z))) = _
    rw [ab_ofw, Int32.ofInt_add]
  rw [if_neg (by decide), h5]
  unfold jm_step
  have e1 : jm_k (.iinc n z) 3 = none := rfl
  have e2 : jm_ld (.iinc n z) 3 = none := rfl
  have e3 : jm_sr (.iinc n z) 3 = none := rfl
  have e4 : jm_br (.iinc n z) 3 pc (ab_sv st) = none := rfl
  have e5 : jm_cell X M (.iinc n z) 3 (ab_sv st) S = none := rfl
  have e6 : jm_mis M (.iinc n z) 3 pc lv (ab_sv st) = (match jm_get lv n with
    | some (.int x) => if n < M.2.2.1 then some (pc + 3, jm_set1 lv n (.int (x + Int32.ofInt z)), ab_sv st) else none
    | _ => none) := rfl
  rw [e1, e2, e3, e4, e5, e6, h1]
  show (match (if n < M.2.2.1 then some (pc + 3, jm_set1 lv n (.int (Int32.ofInt (l n) + Int32.ofInt z)), ab_sv st) else none) with
    | some q => some (q.1, q.2.1, q.2.2, S, 0, 0)
    | none => none) = _
  rw [if_pos hn]
end OK2
