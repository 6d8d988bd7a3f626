/-! THE ABSTRACT MACHINE, part 12: its lemmas again, for any walk that is closed under steps (written by wip/ab/gen_og.py) -/
def ab_ro (X : jm_X) (M : jm_M) (i : Instr) (len pc : Nat) (st : List Value) (S : jm_S) : Prop := (jm_k i len).isSome = true ∨ (jm_ld i len).isSome = true ∨ (jm_sr i len).isSome = true ∨ (jm_br i len pc st).isSome = true ∨ jm_cell X M i len st S = none ∨ (∃ idx, i = .getfield idx ∧ len = 3) ∨ (jm_k i len = none ∧ jm_ld i len = none ∧ jm_sr i len = none ∧ jm_cell X M i len st S = none)
theorem ab_roc {X : jm_X} {M : jm_M} {i : Instr} {len pc : Nat} {st : List Value} {S : jm_S} (h : jm_cell X M i len st S = none) : ab_ro X M i len pc st S := Or.inr (Or.inr (Or.inr (Or.inr (Or.inl h))))
theorem ab_rob {X : jm_X} {M : jm_M} {i : Instr} {len pc : Nat} {st : List Value} {S : jm_S} (h : (jm_br i len pc st).isSome = true) : ab_ro X M i len pc st S := Or.inr (Or.inr (Or.inr (Or.inl h)))
theorem ab_rog {X : jm_X} {M : jm_M} {idx pc : Nat} {st : List Value} {S : jm_S} : ab_ro X M (.getfield idx) 3 pc st S := Or.inr (Or.inr (Or.inr (Or.inr (Or.inr (Or.inl ⟨idx, rfl, rfl⟩)))))
theorem ab_cellG (X : jm_X) (M : jm_M) (idx : Nat) (st : List Value) (S : jm_S) : jm_cell X M (.getfield idx) 3 st S = (match jm_cellr X M (.getfield idx) 3 st S with
    | some q => some (q, S, 0, 0)
    | none => none) := by
  cases st with
  | nil => rfl
  | cons v r =>
    cases v with
    | ref a =>
      show (match jp_F (jm_q M) idx with
        | some f => if a < S.1 then (match S.2 a with
          | .inr o => if o.1 = f.1 then (match o.2[f.2.1]? with
            | some v => some (v :: r, S, 0, 0)
            | none => none) else none
          | .inl _ => none) else none
        | none => none) = (match (match jp_F (jm_q M) idx with
        | some f => if a < S.1 then (match S.2 a with
          | .inr o => if o.1 = f.1 then (match o.2[f.2.1]? with
            | some v => some (v :: r)
            | none => none) else none
          | .inl _ => none) else none
        | none => none) with
        | some q => some (q, S, 0, 0)
        | none => none)
      cases jp_F (jm_q M) idx with
      | none => rfl
      | some f =>
        dsimp only
        by_cases h1 : a < S.1
        · rw [if_pos h1, if_pos h1]
          cases S.2 a with
          | inl _ => rfl
          | inr o =>
            dsimp only
            by_cases h2 : o.1 = f.1
            · rw [if_pos h2, if_pos h2]
              cases o.2[f.2.1]? <;> rfl
            · rw [if_neg h2, if_neg h2]
        · rw [if_neg h1, if_neg h1]
    | _ => rfl
theorem ab_rd0 {i : Instr} {j : Int32} {x : jm_c} {v : Value} (h : jm_rd i j x = some v) : i = .iaload ∨ i = .laload ∨ i = .baload := by
  cases i <;> first | (simp [jm_rd] at h; done) | exact Or.inl rfl | exact Or.inr (Or.inl rfl) | exact Or.inr (Or.inr rfl)
theorem ab_cellr_of {X : jm_X} {M : jm_M} {i : Instr} {len : Nat} {st q : List Value} {S : jm_S} (h : jm_cellr X M i len st S = some q) : jm_cell X M i len st S = some (q, S, 0, 0) := by
  by_cases g : ∃ idx, i = .getfield idx ∧ len = 3
  · obtain ⟨idx, rfl, rfl⟩ := g
    rw [ab_cellG, h]
  · unfold jm_cellr at h
    split at h
    · exact absurd ⟨_, rfl, rfl⟩ g
    · split at h
      · rename_i h1
        split at h
        · rename_i v h2
          cases h
          rcases ab_rd0 h2 with rfl | rfl | rfl
          all_goals
            unfold jm_cell
            simp only [if_pos h1, h2]
        · cases h
      · cases h
    · cases h
theorem ab_rst {X : jm_X} {M : jm_M} {i : Instr} {len pc pc1 c k : Nat} {lv lv1 : jm_L} {st st1 : List Value} {S S1 : jm_S} (h : jm_step X M i len pc lv st S = some (pc1, lv1, st1, S1, c, k)) (hr : ab_ro X M i len pc st S) : jm_rst X M i len pc lv st S = some (pc1, lv1, st1) ∧ S1 = S := by
  unfold jm_step at h
  unfold jm_rst
  unfold ab_ro at hr
  cases hk : jm_k i len with
  | some v => rw [hk] at h; cases h; exact ⟨rfl, rfl⟩
  | none =>
    rw [hk] at h hr
    dsimp only at h ⊢
    cases hl : jm_ld i len with
    | some q =>
      rw [hl] at h
      dsimp only at h ⊢
      split at h
      · rename_i v hv
        split at h
        · rename_i h1; cases h; exact ⟨by simp only [hv, if_pos h1], rfl⟩
        · cases h
      · cases h
    | none =>
      rw [hl] at h hr
      dsimp only at h ⊢
      cases hs : jm_sr i len with
      | some q =>
        rw [hs] at h
        dsimp only at h ⊢
        split at h
        · split at h
          · rename_i h1; cases h; exact ⟨by simp only [if_pos h1], rfl⟩
          · cases h
        · cases h
      | none =>
        rw [hs] at h hr
        dsimp only at h ⊢
        cases hb : jm_br i len pc st with
        | some q => rw [hb] at h; cases h; exact ⟨rfl, rfl⟩
        | none =>
          rw [hb] at h hr
          dsimp only at h ⊢
          have cell : jm_cell X M i len st S = none → (match jm_cellr X M i len st S with
              | some q => some (pc + len, lv, q)
              | none => jm_mis M i len pc lv st) = some (pc1, lv1, st1) ∧ S1 = S := fun hc => by
            rw [hc] at h
            dsimp only at h
            have hcr : jm_cellr X M i len st S = none := by
              cases hq : jm_cellr X M i len st S with
              | none => rfl
              | some q => rw [ab_cellr_of hq] at hc; cases hc
            rw [hcr]
            dsimp only
            split at h
            · rename_i q hq
              cases h
              exact ⟨hq, rfl⟩
            · cases h
          rcases hr with hr | hr | hr | hr | hr | ⟨idx, rfl, rfl⟩ | hr
          · cases hr
          · cases hr
          · cases hr
          · cases hr
          · exact cell hr
          · cases hq : jm_cellr X M (.getfield idx) 3 st S with
            | some q =>
              rw [ab_cellr_of hq] at h
              cases h
              exact ⟨rfl, rfl⟩
            | none =>
              have hc : jm_cell X M (.getfield idx) 3 st S = none := by rw [ab_cellG, hq]
              have := cell hc
              rw [hq] at this
              exact this
          · exact cell hr.2.2.2
theorem ab_ros {X : jm_X} {M : jm_M} {i : Instr} {len pc : Nat} {st : List Value} {S : jm_S} (h1 : jm_k i len = none) (h2 : jm_ld i len = none) (h3 : jm_sr i len = none) (h : jm_cell X M i len st S = none) : ab_ro X M i len pc st S := Or.inr (Or.inr (Or.inr (Or.inr (Or.inr (Or.inr ⟨h1, h2, h3, h⟩)))))
/-- a walk that goes back over steps; ro: only over those that write nothing -/
def cl_ (ro : Bool) (X : jm_X) (M : jm_M) (K : Nat → jm_L → List Value → jm_S → Prop) : Prop := ∀ (i : Instr) (len pc : Nat) (lv : jm_L) (st : List Value) (S : jm_S) (pc1 : Nat) (lv1 : jm_L) (st1 : List Value) (S1 : jm_S), decode M.2.1 pc = .ok (i, len) → jm_step X M i len pc lv st S = some (pc1, lv1, st1, S1, 0, 0) → S1.1 = S.1 → (ro = true → jm_rst X M i len pc lv st S = some (pc1, lv1, st1) ∧ S1 = S) → K pc1 lv1 st1 S1 → K pc lv st S
def og_ (K : Nat → jm_L → List Value → jm_S → Prop) (pc : Nat) (ts : ab_t) (l : ab_l) (st : List (Nat × Int)) (μ : ab_m) : Prop := ∀ (lv : jm_L) (S : jm_S), ab_LR ts l lv → ab_sr st → ab_R μ S → S.1 < jm_lim → K pc lv (ab_sv st) S
theorem og_step {ro : Bool} {K : Nat → jm_L → List Value → jm_S → Prop} {X : jm_X} {M : jm_M} {pc pc' len : Nat} {i : Instr} {ts ts' : ab_t} {l l' : ab_l} {st st' : List (Nat × Int)} {μ μ' : ab_m} (C : cl_ ro X M K) (hd : decode M.2.1 pc = .ok (i, len)) (hro : ro = true → ∀ S : jm_S, ab_ro X M i len pc (ab_sv st) S)
    (hq : ∀ (lv : jm_L) (S : jm_S), ab_LR ts l lv → ab_sr st → ab_R μ S → S.1 ≤ jm_lim → ∃ (lv' : jm_L) (S' : jm_S), jm_step X M i len pc lv (ab_sv st) S = some (pc', lv', ab_sv st', S', 0, 0) ∧ ab_LR ts' l' lv' ∧ ab_sr st' ∧ ab_R μ' S' ∧ S'.1 = S.1)
    (k : og_ K pc' ts' l' st' μ') : og_ K pc ts l st μ := by
  intro lv S a b c e
  obtain ⟨lv', S', h1, h2, h3, h4, h5⟩ := hq lv S a b c (Nat.le_of_lt e)
  exact C i len pc lv (ab_sv st) S pc' lv' (ab_sv st') S' hd h1 h5 (fun hr => ab_rst h1 (hro hr S)) (k lv' S' h2 h3 h4 (by omega))
section OG
variable {ro : Bool} {K : Nat → jm_L → List Value → jm_S → Prop} {X : jm_X} {M : jm_M} {pc len : Nat} {i : Instr} {ts : ab_t} {l : ab_l} {st st0 st1 : List (Nat × Int)} {μ : ab_m}
theorem og_sub {ts' : List (Nat × Nat)} (hs : ab_sub ts' ts = true) (h : og_ K pc (ab_ty ts') l st μ) : og_ K pc ts l st μ := by
  intro lv S a b c e
  refine h lv S (fun n t ht => a n t ?_) b c e
  have h1 := List.all_eq_true.mp hs _ (ab_ty_mem ht)
  dsimp only at h1
  split at h1
  · rename_i t' h2
    rw [h2, Nat.eq_of_beq_eq_true h1]
  · cases h1
theorem og_sr (h : ab_sr st → og_ K pc ts l st μ) : og_ K pc ts l st μ := fun lv S a b c e => h b lv S a b c e
theorem og_lr {n t : Nat} (ht : ts n = some t) (h : ab_rg t (l n) → og_ K pc ts l st μ) : og_ K pc ts l st μ := fun lv S a b c e => h (a n t ht).2.1 lv S a b c e
theorem og_k {t : Nat} {x : Int} (C : cl_ ro X M K) (hd : decode M.2.1 pc = .ok (i, len)) (hk : jm_k i len = some (ab_v t x)) (hr : ab_rg t x) (k : og_ K (pc + len) ts l ((t, x) :: st) μ) : og_ K pc ts l st μ := by
  refine og_step C hd (fun _ _ => Or.inl (by rw [hk]; rfl)) (fun lv S a b c _ => ⟨lv, S, ?_, a, ab_sr_cons hr b, c, rfl⟩) k
  unfold jm_step
  rw [hk]
  rfl
theorem og_iconst {n : Int} (C : cl_ ro X M K) (hd : decode M.2.1 pc = .ok (.iconst n, 1)) (hr : ab_rg 0 n) (k : og_ K (pc + 1) ts l ((0, n) :: st) μ) : og_ K pc ts l st μ := og_k C hd rfl hr k
theorem og_bipush {n : Int} (C : cl_ ro X M K) (hd : decode M.2.1 pc = .ok (.bipush n, 2)) (hr : -128 ≤ n ∧ n ≤ 127) (k : og_ K (pc + 2) ts l ((0, n) :: st) μ) : og_ K pc ts l st μ := by
  refine og_k C hd ?_ (by simp only [ab_rg]; omega) k
  have h1 : (Int8.ofInt n).toInt32 = Int32.ofInt n := by
    apply Int32.toInt_inj.mp
    rw [Int8.toInt_toInt32, Int8.toInt_ofInt_of_le (by omega) (by omega), Int32.toInt_ofInt_of_le (by omega) (by omega)]
  show some (Value.int (Int8.ofInt n).toInt32) = some (Value.int (Int32.ofInt n))
  rw [h1]
theorem og_sipush {n : Int} (C : cl_ ro X M K) (hd : decode M.2.1 pc = .ok (.sipush n, 3)) (hr : -32768 ≤ n ∧ n ≤ 32767) (k : og_ K (pc + 3) ts l ((0, n) :: st) μ) : og_ K pc ts l st μ := by
  refine og_k C hd ?_ (by simp only [ab_rg]; omega) k
  have h1 : (Int16.ofInt n).toInt32 = Int32.ofInt n := by
    apply Int32.toInt_inj.mp
    rw [Int16.toInt_toInt32, Int16.toInt_ofInt_of_le (by omega) (by omega), Int32.toInt_ofInt_of_le (by omega) (by omega)]
  show some (Value.int (Int16.ofInt n).toInt32) = some (Value.int (Int32.ofInt n))
  rw [h1]
theorem og_lconst {n : Fin 2} (C : cl_ ro X M K) (hd : decode M.2.1 pc = .ok (.lconst n, 1)) (k : og_ K (pc + 1) ts l ((1, (n.val : Int)) :: st) μ) : og_ K pc ts l st μ := by
  refine og_k C hd ?_ (by simp only [ab_rg]; omega) k
  show some (Value.long (Int64.ofNat n.val)) = some (Value.long (Int64.ofInt (n.val : Int)))
  rw [Int64.ofInt_eq_ofNat]
theorem og_ld {n q : Nat} (C : cl_ ro X M K) (hd : decode M.2.1 pc = .ok (i, len)) (hl : jm_ld i len = some (n, q)) (hk : jm_k i len = none) (ht : ts n = some q) (hnn : q = 2 → 0 ≤ l n) (k : og_ K (pc + len) ts l ((q, l n) :: st) μ) : og_ K pc ts l st μ := by
  refine og_step C hd (fun _ _ => Or.inr (Or.inl (by rw [hl]; rfl))) (fun lv S a b c _ => ?_) k
  obtain ⟨h1, h2, h3⟩ := a n q ht
  refine ⟨lv, S, ?_, a, ab_sr_cons h2 b, c, rfl⟩
  have h4 : jm_isk q (ab_v q (l n)) = true := by
    match q, h3 with
    | 0, _ => rfl
    | 1, _ => rfl
    | 2, _ =>
      have h5 := hnn rfl
      have h6 : ¬ l n < 0 := by omega
      simp [ab_v, h6, jm_isk]
  unfold jm_step
  rw [hk, hl]
  dsimp only
  rw [h1]
  dsimp only
  rw [if_pos h4]
  rfl
/-- a load of one whose value is known -/
theorem og_ldc {n q : Nat} {x : Int} (C : cl_ ro X M K) (hd : decode M.2.1 pc = .ok (i, len)) (hl : jm_ld i len = some (n, q)) (hk : jm_k i len = none) (ht : ts n = some q) (hx : l n = x) (hnn : q = 2 → 0 ≤ x) (k : og_ K (pc + len) ts l ((q, x) :: st) μ) : og_ K pc ts l st μ := by
  subst hx
  exact og_ld C hd hl hk ht hnn k
theorem og_sr_ {n q : Nat} {x : Int} (C : cl_ ro X M K) (hd : decode M.2.1 pc = .ok (i, len)) (hs : jm_sr i len = some (n, q)) (hk : jm_k i len = none) (hl : jm_ld i len = none) (hq : q < 3) (hn : n + (if q = 1 then 2 else 1) ≤ M.2.2.1) (hnn : q = 2 → 0 ≤ x) (k : og_ K (pc + len) (ab_st ts n q) (ab_up l n x) st μ) : og_ K pc ts l ((q, x) :: st) μ := by
  refine og_step C hd (fun _ _ => Or.inr (Or.inr (Or.inl (by rw [hs]; rfl)))) (fun lv S a b c _ => ?_) k
  refine ⟨if q = 1 then jm_set2 lv n (ab_v q x) else jm_set1 lv n (ab_v q x), S, ?_, ab_LR_st a hq (ab_sr_hd b), ab_sr_tl b, c, rfl⟩
  have h4 : jm_isk q (ab_v q x) = true := by
    match q, hq with
    | 0, _ => rfl
    | 1, _ => rfl
    | 2, _ =>
      have h5 := hnn rfl
      have h6 : ¬ x < 0 := by omega
      simp [ab_v, h6, jm_isk]
  unfold jm_step
  rw [hk, hl, hs]
  dsimp only [ab_sv_cons]
  rw [if_pos ⟨h4, by rw [ab_cat x hq]; exact hn⟩]
theorem og_iinc {n : Nat} {z : Int} (C : cl_ ro X M K) (hd : decode M.2.1 pc = .ok (.iinc n z, 3)) (ht : ts n = some 0) (hn : n < M.2.2.1) (k : og_ K (pc + 3) (ab_st ts n 0) (ab_up l n (ab_w (l n + z))) st μ) : og_ K pc ts l st μ := by
  refine og_step C hd (fun _ _ => ab_roc rfl) (fun lv S a b c _ => ?_) k
  obtain ⟨h1, h2, h3⟩ := a n 0 ht
  have h4 := ab_LR_st (n := n) (q := 0) (x := ab_w (l n + z)) a (by omega) (ab_w_rg _)
  refine ⟨_, S, ?_, h4, b, c, rfl⟩
  have h5 : ab_v 0 (ab_w (l n + z)) = .int (Int32.ofInt (l n) + Int32.ofInt z) := by
    show Value.int (Int32.ofInt (ab_w (l n + z))) = _
    rw [ab_ofw, Int32.ofInt_add]
  rw [if_neg (by decide), h5]
  unfold jm_step
  have e1 : jm_k (.iinc n z) 3 = none := rfl
  have e2 : jm_ld (.iinc n z) 3 = none := rfl
  have e3 : jm_sr (.iinc n z) 3 = none := rfl
  have e4 : jm_br (.iinc n z) 3 pc (ab_sv st) = none := rfl
  have e5 : jm_cell X M (.iinc n z) 3 (ab_sv st) S = none := rfl
  have e6 : jm_mis M (.iinc n z) 3 pc lv (ab_sv st) = (match jm_get lv n with
    | some (.int x) => if n < M.2.2.1 then some (pc + 3, jm_set1 lv n (.int (x + Int32.ofInt z)), ab_sv st) else none
    | _ => none) := rfl
  rw [e1, e2, e3, e4, e5, e6, h1]
  show (match (if n < M.2.2.1 then some (pc + 3, jm_set1 lv n (.int (Int32.ofInt (l n) + Int32.ofInt z)), ab_sv st) else none) with
    | some q => some (q.1, q.2.1, q.2.2, S, 0, 0)
    | none => none) = _
  rw [if_pos hn]
theorem og_al (C : cl_ ro X M K) (hd : decode M.2.1 pc = .ok (i, 1)) (hp : ab_pl i) (ha : jm_al i (ab_sv st0) = some (ab_sv st1)) (hr : ab_sr st0 → ab_sr st1) (k : og_ K (pc + 1) ts l st1 μ) : og_ K pc ts l st0 μ := by
  obtain ⟨h1, h2, h3, h4, h5, h6, h7, h8, h9⟩ := hp
  refine og_step C hd (fun _ _ => ab_roc (ab_cell1 h5 h6 h7 h8)) (fun lv S a b c _ => ⟨lv, S, ?_, a, hr b, c, rfl⟩) k
  unfold jm_step
  rw [h1, h2, h3, h4, ab_cell1 h5 h6 h7 h8, h9, ha]
theorem og_sk (C : cl_ ro X M K) (hd : decode M.2.1 pc = .ok (i, 1)) (hp : ab_pl i) (hn : jm_al i (ab_sv st0) = none) (ha : jm_sk i (ab_sv st0) = some (ab_sv st1)) (hr : ab_sr st0 → ab_sr st1) (k : og_ K (pc + 1) ts l st1 μ) : og_ K pc ts l st0 μ := by
  obtain ⟨h1, h2, h3, h4, h5, h6, h7, h8, h9⟩ := hp
  refine og_step C hd (fun _ _ => ab_roc (ab_cell1 h5 h6 h7 h8)) (fun lv S a b c _ => ⟨lv, S, ?_, a, hr b, c, rfl⟩) k
  unfold jm_step
  rw [h1, h2, h3, h4, ab_cell1 h5 h6 h7 h8, h9, hn, ha]
theorem og_ib {x y : Int} {z : Int32} (C : cl_ ro X M K) (hd : decode M.2.1 pc = .ok (i, 1)) (hp : ab_pl i) (h : jm_ib i (Int32.ofInt x) (Int32.ofInt y) = some z) (k : og_ K (pc + 1) ts l ((0, z.toInt) :: st) μ) : og_ K pc ts l ((0, y) :: (0, x) :: st) μ :=
  og_al C hd hp (ab_two h) ab_twoR k
theorem og_lb {x y : Int} {z : Int64} (C : cl_ ro X M K) (hd : decode M.2.1 pc = .ok (i, 1)) (hp : ab_pl i) (hi : i ≠ .lcmp) (h : jm_lb i (Int64.ofInt x) (Int64.ofInt y) = some z) (k : og_ K (pc + 1) ts l ((1, z.toInt) :: st) μ) : og_ K pc ts l ((1, y) :: (1, x) :: st) μ := by
  refine og_al C hd hp ?_ (fun h => ab_sr_cons (ab_rgL z) (ab_sr_tl (ab_sr_tl h))) k
  show jm_al i (.long (Int64.ofInt y) :: .long (Int64.ofInt x) :: ab_sv st) = some (.long (Int64.ofInt z.toInt) :: ab_sv st)
  unfold jm_al
  dsimp only
  split
  · exact absurd rfl hi
  · rw [h, ab_ofL]
theorem og_ls {x y : Int} {z : Int64} (C : cl_ ro X M K) (hd : decode M.2.1 pc = .ok (i, 1)) (hp : ab_pl i) (h : jm_ls i (Int64.ofInt x) (Int32.ofInt y) = some z) (k : og_ K (pc + 1) ts l ((1, z.toInt) :: st) μ) : og_ K pc ts l ((0, y) :: (1, x) :: st) μ := by
  refine og_al C hd hp ?_ (fun h => ab_sr_cons (ab_rgL z) (ab_sr_tl (ab_sr_tl h))) k
  show jm_al i (.int (Int32.ofInt y) :: .long (Int64.ofInt x) :: ab_sv st) = some (.long (Int64.ofInt z.toInt) :: ab_sv st)
  unfold jm_al
  dsimp only
  rw [h, ab_ofL]
theorem og_iadd {x y : Int} (C : cl_ ro X M K) (hd : decode M.2.1 pc = .ok (.iadd, 1)) (k : og_ K (pc + 1) ts l ((0, ab_w (x + y)) :: st) μ) : og_ K pc ts l ((0, y) :: (0, x) :: st) μ := og_ib C hd pl_iadd rfl (by rw [ab_addw]; exact k)
theorem og_isub {x y : Int} (C : cl_ ro X M K) (hd : decode M.2.1 pc = .ok (.isub, 1)) (k : og_ K (pc + 1) ts l ((0, ab_w (x - y)) :: st) μ) : og_ K pc ts l ((0, y) :: (0, x) :: st) μ := og_ib C hd pl_isub rfl (by rw [ab_subw]; exact k)
theorem og_imul {x y : Int} (C : cl_ ro X M K) (hd : decode M.2.1 pc = .ok (.imul, 1)) (k : og_ K (pc + 1) ts l ((0, ab_w (x * y)) :: st) μ) : og_ K pc ts l ((0, y) :: (0, x) :: st) μ := og_ib C hd pl_imul rfl (by rw [ab_mulw]; exact k)
theorem og_iand {x y : Int} (C : cl_ ro X M K) (hd : decode M.2.1 pc = .ok (.iand, 1)) (k : og_ K (pc + 1) ts l ((0, ab_and x y) :: st) μ) : og_ K pc ts l ((0, y) :: (0, x) :: st) μ := og_ib C hd pl_iand rfl k
theorem og_land {x y : Int} (C : cl_ ro X M K) (hd : decode M.2.1 pc = .ok (.land, 1)) (k : og_ K (pc + 1) ts l ((1, ab_landL x y) :: st) μ) : og_ K pc ts l ((1, y) :: (1, x) :: st) μ := og_lb C hd pl_land (by decide) rfl k
theorem og_lor {x y : Int} (C : cl_ ro X M K) (hd : decode M.2.1 pc = .ok (.lor, 1)) (k : og_ K (pc + 1) ts l ((1, ab_lorL x y) :: st) μ) : og_ K pc ts l ((1, y) :: (1, x) :: st) μ := og_lb C hd pl_lor (by decide) rfl k
theorem og_lshl {x y : Int} (C : cl_ ro X M K) (hd : decode M.2.1 pc = .ok (.lshl, 1)) (k : og_ K (pc + 1) ts l ((1, ab_shlL x y) :: st) μ) : og_ K pc ts l ((0, y) :: (1, x) :: st) μ := og_ls C hd pl_lshl rfl k
theorem og_lushr {x y : Int} (C : cl_ ro X M K) (hd : decode M.2.1 pc = .ok (.lushr, 1)) (k : og_ K (pc + 1) ts l ((1, ab_ushrL x y) :: st) μ) : og_ K pc ts l ((0, y) :: (1, x) :: st) μ := og_ls C hd pl_lushr rfl k
theorem og_i2l {x : Int} (C : cl_ ro X M K) (hd : decode M.2.1 pc = .ok (.i2l, 1)) (k : og_ K (pc + 1) ts l ((1, x) :: st) μ) : og_ K pc ts l ((0, x) :: st) μ := by
  refine og_sr fun hs => ?_
  have hx := ab_sr_hd hs
  refine og_al C (st1 := (1, x) :: st) hd pl_i2l (ab_un1 nb_i2l ?_) (fun h => ab_sr_cons (by simp only [ab_rg] at hx ⊢; omega) (ab_sr_tl h)) k
  show some (Value.long (Int32.ofInt x).toInt64) = some (Value.long (Int64.ofInt x))
  congr 2
  apply Int64.toInt_inj.mp
  rw [Int32.toInt_toInt64, ab_toInt hx, ab_toIntL (by simp only [ab_rg] at hx ⊢; omega)]
theorem og_l2i {x : Int} (C : cl_ ro X M K) (hd : decode M.2.1 pc = .ok (.l2i, 1)) (k : og_ K (pc + 1) ts l ((0, ab_w x) :: st) μ) : og_ K pc ts l ((1, x) :: st) μ := by
  refine og_sr fun hs => ?_
  have hx := ab_sr_hd hs
  refine og_al C (st1 := (0, ab_w x) :: st) hd pl_l2i (ab_un1 nb_l2i ?_) (fun h => ab_sr_cons (ab_w_rg _) (ab_sr_tl h)) k
  show some (Value.int (Int64.ofInt x).toInt32) = some (Value.int (Int32.ofInt (ab_w x)))
  congr 2
  apply Int32.toInt_inj.mp
  rw [Int64.toInt_toInt32, ab_toIntL hx, ab_toInt (ab_w_rg _)]
  rw [ab_w_def]
  simp only [Int.bmod]
  omega
theorem og_pop {t : Nat} {x : Int} (C : cl_ ro X M K) (hd : decode M.2.1 pc = .ok (.pop, 1)) (ht : t = 0 ∨ t = 2) (k : og_ K (pc + 1) ts l st μ) : og_ K pc ts l ((t, x) :: st) μ := by
  refine og_sk C hd pl_pop (ab_al0 nb_pop (fun v => rfl)) ?_ (fun h => ab_sr_tl h) k
  have hc : (ab_v t x).category = 1 := by
    rw [ab_cat x (by omega), if_neg (by omega)]
  show (if (ab_v t x).category = 1 then some (ab_sv st) else none) = _
  rw [if_pos hc]
theorem og_lcmp {x y : Int} (C : cl_ ro X M K) (hd : decode M.2.1 pc = .ok (.lcmp, 1)) (k : og_ K (pc + 1) ts l ((0, ab_lcmp x y) :: st) μ) : og_ K pc ts l ((1, y) :: (1, x) :: st) μ := by
  refine og_al C hd pl_lcmp ?_ (fun h => ab_sr_cons (ab_rgI _) (ab_sr_tl (ab_sr_tl h))) k
  show some (Value.int (lg_cmp (Int64.ofInt x) (Int64.ofInt y)) :: ab_sv st) = some (Value.int (Int32.ofInt (ab_lcmp x y)) :: ab_sv st)
  unfold ab_lcmp
  rw [ab_ofI]
/-- jumps -/
theorem og_goto {off : Int} {pc' : Nat} (C : cl_ ro X M K) (hd : decode M.2.1 pc = .ok (.goto off, 3)) (ho : jm_ok pc off = true) (hp : jm_at pc off = pc') (k : og_ K pc' ts l st μ) : og_ K pc ts l st μ := by
  refine og_step C hd (fun _ _ => ab_rob (by show (if jm_ok pc off = true then some (jm_at pc off, ab_sv st) else none).isSome = true; rw [if_pos ho]; rfl)) (fun lv S a b c _ => ⟨lv, S, ?_, a, b, c, rfl⟩) k
  show (match (if jm_ok pc off = true then some (jm_at pc off, ab_sv st) else none) with
    | some q => some (q.1, lv, q.2, S, 0, 0)
    | none => _) = _
  rw [if_pos ho, hp]
theorem og_if {q : ClassFile.Cond} {off x : Int} {pc' : Nat} (C : cl_ ro X M K) (hd : decode M.2.1 pc = .ok (.ifCond q off, 3)) (ho : jm_ok pc off = true) (hp : jm_at pc off = pc') (k : (ab_cz q x → og_ K pc' ts l st μ) ∧ (ab_cz (ab_nq q) x → og_ K (pc + 3) ts l st μ)) : og_ K pc ts l ((0, x) :: st) μ := by
  refine og_sr fun hs => ?_
  have hx := ab_sr_hd hs
  by_cases h : ab_cz q x
  · refine og_step C hd (fun _ _ => ab_rob (by show (if jm_ok pc off = true then some (if jm_cz q (Int32.ofInt x) = true then jm_at pc off else pc + 3, ab_sv st) else none).isSome = true; rw [if_pos ho]; rfl)) (fun lv S a b c _ => ⟨lv, S, ?_, a, ab_sr_tl b, c, rfl⟩) (k.1 h)
    show (match (if jm_ok pc off = true then some (if jm_cz q (Int32.ofInt x) = true then jm_at pc off else pc + 3, ab_sv st) else none) with
      | some q => some (q.1, lv, q.2, S, 0, 0)
      | none => _) = _
    rw [if_pos ho, if_pos ((ab_cz_ok hx).mpr h), hp]
  · refine og_step C hd (fun _ _ => ab_rob (by show (if jm_ok pc off = true then some (if jm_cz q (Int32.ofInt x) = true then jm_at pc off else pc + 3, ab_sv st) else none).isSome = true; rw [if_pos ho]; rfl)) (fun lv S a b c _ => ⟨lv, S, ?_, a, ab_sr_tl b, c, rfl⟩) (k.2 (ab_cz_n.mp h))
    show (match (if jm_ok pc off = true then some (if jm_cz q (Int32.ofInt x) = true then jm_at pc off else pc + 3, ab_sv st) else none) with
      | some q => some (q.1, lv, q.2, S, 0, 0)
      | none => _) = _
    rw [if_pos ho, if_neg (fun h1 => h ((ab_cz_ok hx).mp h1))]
theorem og_icmp {q : ClassFile.Cond} {off x y : Int} {pc' : Nat} (C : cl_ ro X M K) (hd : decode M.2.1 pc = .ok (.if_icmp q off, 3)) (ho : jm_ok pc off = true) (hp : jm_at pc off = pc') (k : (ab_cc q x y → og_ K pc' ts l st μ) ∧ (ab_cc (ab_nq q) x y → og_ K (pc + 3) ts l st μ)) : og_ K pc ts l ((0, y) :: (0, x) :: st) μ := by
  refine og_sr fun hs => ?_
  have hy := ab_sr_hd hs
  have hx := ab_sr_hd (ab_sr_tl hs)
  by_cases h : ab_cc q x y
  · refine og_step C hd (fun _ _ => ab_rob (by show (if jm_ok pc off = true then some (if jm_cc q (Int32.ofInt x) (Int32.ofInt y) = true then jm_at pc off else pc + 3, ab_sv st) else none).isSome = true; rw [if_pos ho]; rfl)) (fun lv S a b c _ => ⟨lv, S, ?_, a, ab_sr_tl (ab_sr_tl b), c, rfl⟩) (k.1 h)
    show (match (if jm_ok pc off = true then some (if jm_cc q (Int32.ofInt x) (Int32.ofInt y) = true then jm_at pc off else pc + 3, ab_sv st) else none) with
      | some q => some (q.1, lv, q.2, S, 0, 0)
      | none => _) = _
    rw [if_pos ho, if_pos ((ab_cc_ok hx hy).mpr h), hp]
  · refine og_step C hd (fun _ _ => ab_rob (by show (if jm_ok pc off = true then some (if jm_cc q (Int32.ofInt x) (Int32.ofInt y) = true then jm_at pc off else pc + 3, ab_sv st) else none).isSome = true; rw [if_pos ho]; rfl)) (fun lv S a b c _ => ⟨lv, S, ?_, a, ab_sr_tl (ab_sr_tl b), c, rfl⟩) (k.2 (ab_cc_n.mp h))
    show (match (if jm_ok pc off = true then some (if jm_cc q (Int32.ofInt x) (Int32.ofInt y) = true then jm_at pc off else pc + 3, ab_sv st) else none) with
      | some q => some (q.1, lv, q.2, S, 0, 0)
      | none => _) = _
    rw [if_pos ho, if_neg (fun h1 => h ((ab_cc_ok hx hy).mp h1))]
theorem og_tsw {dflt lo hi x : Int} {offs : Array Int} {dp : Nat} (C : cl_ ro X M K) (hd : decode M.2.1 pc = .ok (.tableswitch dflt lo hi offs, len)) (hlen : offs.toList.length = (hi - lo + 1).toNat) (hok : (dflt :: offs.toList).all (jm_ok pc) = true) (hp : jm_at pc dflt = dp)
    (k : ab_tw pc x (fun pc' => og_ K pc' ts l st μ) offs.toList lo ∧ (x < lo ∨ hi < x → og_ K dp ts l st μ)) : og_ K pc ts l ((0, x) :: st) μ := by
  refine og_sr fun hs => ?_
  have hx := ab_toInt (ab_sr_hd hs)
  have hok2 := List.all_eq_true.mp hok
  by_cases h : x < lo ∨ hi < x
  · refine og_step C hd (fun _ _ => ab_rob (by show (if (Int32.ofInt x).toInt < lo ∨ hi < (Int32.ofInt x).toInt then (if jm_ok pc dflt = true then some (jm_at pc dflt, ab_sv st) else none) else (match offs[((Int32.ofInt x).toInt - lo).toNat]? with | some off => (if jm_ok pc off = true then some (jm_at pc off, ab_sv st) else none) | none => none)).isSome = true; rw [hx, if_pos h, if_pos (hok2 _ List.mem_cons_self)]; rfl)) (fun lv S a b c _ => ⟨lv, S, ?_, a, ab_sr_tl b, c, rfl⟩) (k.2 h)
    show (match (if (Int32.ofInt x).toInt < lo ∨ hi < (Int32.ofInt x).toInt then (if jm_ok pc dflt = true then some (jm_at pc dflt, ab_sv st) else none) else (match offs[((Int32.ofInt x).toInt - lo).toNat]? with
      | some off => if jm_ok pc off = true then some (jm_at pc off, ab_sv st) else none
      | none => none)) with
      | some q => some (q.1, lv, q.2, S, 0, 0)
      | none => _) = _
    rw [hx, if_pos h, if_pos (hok2 _ List.mem_cons_self), hp]
  · have hlt : (x - lo).toNat < offs.toList.length := by omega
    obtain ⟨off, ho⟩ : ∃ off, offs.toList[(x - lo).toNat]? = some off := ⟨_, List.getElem?_eq_getElem hlt⟩
    have ho2 : offs[(x - lo).toNat]? = some off := by rw [← ho]; exact Array.getElem?_toList.symm
    refine og_step C hd (fun _ _ => ab_rob (by show (if (Int32.ofInt x).toInt < lo ∨ hi < (Int32.ofInt x).toInt then (if jm_ok pc dflt = true then some (jm_at pc dflt, ab_sv st) else none) else (match offs[((Int32.ofInt x).toInt - lo).toNat]? with | some off => (if jm_ok pc off = true then some (jm_at pc off, ab_sv st) else none) | none => none)).isSome = true; rw [hx, if_neg h, ho2]; dsimp only; rw [if_pos (hok2 _ (List.mem_cons_of_mem _ (List.mem_of_getElem? ho)))]; rfl)) (fun lv S a b c _ => ⟨lv, S, ?_, a, ab_sr_tl b, c, rfl⟩) (ab_tw_at k.1 (by omega) ho)
    show (match (if (Int32.ofInt x).toInt < lo ∨ hi < (Int32.ofInt x).toInt then (if jm_ok pc dflt = true then some (jm_at pc dflt, ab_sv st) else none) else (match offs[((Int32.ofInt x).toInt - lo).toNat]? with
      | some off => if jm_ok pc off = true then some (jm_at pc off, ab_sv st) else none
      | none => none)) with
      | some q => some (q.1, lv, q.2, S, 0, 0)
      | none => _) = _
    rw [hx, if_neg h, ho2]
    dsimp only
    rw [if_pos (hok2 _ (List.mem_cons_of_mem _ (List.mem_of_getElem? ho)))]
/-- the ways of a lookupswitch -/
theorem og_ldcI {idx : Nat} {x : Int} {z : Int32} (C : cl_ ro X M K) (hd : decode M.2.1 pc = .ok (.ldc idx, 2)) (hk : jp_K (jm_q M) idx = some (.int z)) (hz : z = Int32.ofInt x) (hr : ab_rg 0 x) (k : og_ K (pc + 2) ts l ((0, x) :: st) μ) : og_ K pc ts l st μ := by
  refine og_step C hd (fun _ _ => ab_roc rfl) (fun lv S a b c _ => ⟨lv, S, ?_, a, ab_sr_cons hr b, c, rfl⟩) k
  show (match (match jp_K (jm_q M) idx with
    | some (.int x) => some (pc + 2, lv, Value.int x :: ab_sv st)
    | _ => none) with
    | some q => some (q.1, q.2.1, q.2.2, S, 0, 0)
    | none => none) = _
  rw [hk, hz]
  rfl
theorem og_ldcW {idx : Nat} {x : Int} {z : Int32} (C : cl_ ro X M K) (hd : decode M.2.1 pc = .ok (.ldc_w idx, 3)) (hk : jp_K (jm_q M) idx = some (.int z)) (hz : z = Int32.ofInt x) (hr : ab_rg 0 x) (k : og_ K (pc + 3) ts l ((0, x) :: st) μ) : og_ K pc ts l st μ := by
  refine og_step C hd (fun _ _ => ab_roc rfl) (fun lv S a b c _ => ⟨lv, S, ?_, a, ab_sr_cons hr b, c, rfl⟩) k
  show (match (match jp_K (jm_q M) idx with
    | some (.int x) => some (pc + 3, lv, Value.int x :: ab_sv st)
    | _ => none) with
    | some q => some (q.1, q.2.1, q.2.2, S, 0, 0)
    | none => none) = _
  rw [hk, hz]
  rfl
theorem og_ldcL {idx : Nat} {x : Int} {z : Int64} (C : cl_ ro X M K) (hd : decode M.2.1 pc = .ok (.ldc2_w idx, 3)) (hk : jp_K (jm_q M) idx = some (.long z)) (hz : z = Int64.ofInt x) (hr : ab_rg 1 x) (k : og_ K (pc + 3) ts l ((1, x) :: st) μ) : og_ K pc ts l st μ := by
  refine og_step C hd (fun _ _ => ab_roc rfl) (fun lv S a b c _ => ⟨lv, S, ?_, a, ab_sr_cons hr b, c, rfl⟩) k
  show (match (match jp_K (jm_q M) idx with
    | some (.long x) => some (pc + 3, lv, Value.long x :: ab_sv st)
    | _ => none) with
    | some q => some (q.1, q.2.1, q.2.2, S, 0, 0)
    | none => none) = _
  rw [hk, hz]
  rfl
theorem og_lif {q : ClassFile.Cond} {off x y : Int} {pc' : Nat} (C : cl_ ro X M K) (hd : decode M.2.1 pc = .ok (.lcmp, 1)) (hd2 : decode M.2.1 (pc + 1) = .ok (.ifCond q off, 3)) (ho : jm_ok (pc + 1) off = true) (hp : jm_at (pc + 1) off = pc') (k : (ab_cc q x y → og_ K pc' ts l st μ) ∧ (ab_cc (ab_nq q) x y → og_ K (pc + 4) ts l st μ)) : og_ K pc ts l ((1, y) :: (1, x) :: st) μ := by
  refine og_sr fun hs => ?_
  have hy := ab_sr_hd hs
  have hx := ab_sr_hd (ab_sr_tl hs)
  refine og_lcmp C hd (og_if C hd2 ho hp ⟨fun h => k.1 ((ab_cz_lcmp hx hy).mp h), fun h => k.2 ((ab_cz_lcmp hx hy).mp h)⟩)
theorem og_get {idx ci j fin : Nat} {o : Int} {q : Nat × Int} (C : cl_ ro X M K) (hd : decode M.2.1 pc = .ok (.getfield idx, 3)) (hf : jp_F (jm_q M) idx = some (ci, j, fin)) (hq : (ab_F ci)[j]? = some q) (ho : ab_is ci o) (k : og_ K (pc + 3) ts l ((ab_ft ci j, ab_fv ci j o μ) :: st) μ) : og_ K pc ts l ((2, o) :: st) μ := by
  obtain ⟨a, rfl, ha, hL, hc⟩ := ab_is_L ho
  refine og_step C hd (fun _ _ => ab_rog) (fun lv S x b c _ => ?_) k
  obtain ⟨c1, c2, c3⟩ := c
  have hqm : q ∈ ab_F ci := List.mem_of_getElem? hq
  have hg : (ab_F ci).getD j (0, 0) = q := by rw [List.getD_eq_getElem?_getD, hq]; rfl
  have hrg := c3 a (j : Int) ha
  rw [ab_tgO hL hc hq] at hrg
  have hval : ab_fl a (μ a) j q = ab_v (ab_ft ci j) (ab_fv ci j a μ) ∧ ab_rg (ab_ft ci j) (ab_fv ci j a μ) := by
    unfold ab_ft ab_fv ab_fl
    rw [hg]
    have h3 := ab_offs a ha (by rw [hL]; show ci < 100; omega) q (by rw [hL]; exact hqm)
    obtain ⟨t, z⟩ := q
    rcases ab_tags ci hc _ hqm with h | h | h | h
    · dsimp only at h hrg; subst h
      exact ⟨rfl, hrg⟩
    · dsimp only at h hrg; subst h
      exact ⟨rfl, trivial⟩
    · dsimp only at h hrg; subst h
      refine ⟨?_, trivial⟩
      have h4 := h3 rfl
      dsimp only at h4
      show Value.ref ((a : Int) + z).toNat = if (a : Int) + z < 0 then Value.null else Value.ref ((a : Int) + z).toNat
      rw [if_neg (by omega)]
    · dsimp only at h hrg; subst h
      refine ⟨rfl, ?_⟩
      have hrg : 0 ≤ μ a j ∧ μ a j ≤ 1 := hrg
      show -2147483648 ≤ μ a j ∧ μ a j ≤ 2147483647
      omega
  refine ⟨lv, S, ?_, x, ab_sr_cons hval.2 (ab_sr_tl b), ⟨c1, c2, c3⟩, rfl⟩
  have e1 : ab_sv ((2, (a : Int)) :: st) = .ref a :: ab_sv st := by
    show (if (a : Int) < 0 then Value.null else Value.ref (a : Int).toNat) :: ab_sv st = _
    rw [if_neg (by omega), Int.toNat_natCast]
  rw [e1]
  show (match (match jp_F (jm_q M) idx with
    | some f => if a < S.1 then (match S.2 a with
      | .inr o => if o.1 = f.1 then (match o.2[f.2.1]? with
        | some v => some (v :: ab_sv st, S, 0, 0)
        | none => none) else none
      | .inl _ => none) else none
    | none => none) with
    | some q => some (pc + 3, lv, q.1, q.2.1, q.2.2.1, q.2.2.2)
    | none => _) = _
  rw [hf]
  dsimp only
  rw [if_pos (by omega), c2 a ha, ab_cellO _ hL hc]
  dsimp only
  rw [if_pos rfl, List.getElem?_mapIdx, hq]
  dsimp only [Option.map_some]
  rw [hval.1]
  rfl
theorem og_lald {a i : Int} {n : Nat} (C : cl_ false X M K) (hd : decode M.2.1 pc = .ok (.laload, 1)) (ha : ab_arr 1 n a) (hi : 0 ≤ i ∧ i < n) (k : og_ K (pc + 1) ts l ((1, μ a i) :: st) μ) : og_ K pc ts l ((0, i) :: (2, a) :: st) μ := by
  obtain ⟨c, rfl, hc, hL⟩ := ha
  refine og_step C hd (fun h => by cases h) (fun lv S x b R _ => ?_) k
  obtain ⟨h1, h2⟩ := ab_idx hi.1 hi.2 (ab_sr_hd b)
  have hr := R.2.2 c i hc
  rw [ab_tgA (t := 1) hL] at hr
  refine ⟨lv, S, ?_, x, ab_sr_cons hr (ab_sr_tl (ab_sr_tl b)), R, rfl⟩
  rw [ab_sv2]
  show (match (if c < S.1 then (match jm_rd .laload (Int32.ofInt i) (S.2 c) with
    | some v => some (v :: ab_sv st, S, 0, 0)
    | none => none) else _) with
    | some q => some (pc + 1, lv, q.1, q.2.1, q.2.2.1, q.2.2.2)
    | none => _) = _
  rw [if_pos (Nat.lt_of_lt_of_le hc R.1), R.2.1 c hc, ab_cellJ _ hL]
  show (match (match (if jm_in (Int32.ofInt i) n = true then some (Value.long (Int64.ofInt (μ c ((Int32.ofInt i).toNatClampNeg : Nat)))) else none) with
    | some v => some (v :: ab_sv st, S, 0, 0)
    | none => none) with
    | some q => some (pc + 1, lv, q.1, q.2.1, q.2.2.1, q.2.2.2)
    | none => _) = _
  rw [if_pos h1, h2, Int.toNat_of_nonneg hi.1]
  rfl
end OG
