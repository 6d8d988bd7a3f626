/-! THE ABSTRACT MACHINE, part 4: one operand, the stack's own, jumps -/
def ab_nb (i : Instr) : Prop := (∀ x y, jm_ib i x y = none) ∧ (∀ x y, jm_lb i x y = none) ∧ (∀ x y, jm_ls i x y = none) ∧ i ≠ .lcmp
theorem ab_un1 {i : Instr} {v z : Value} {r : List Value} (hn : ab_nb i) (h : jm_un i v = some z) : jm_al i (v :: r) = some (z :: r) := by
  obtain ⟨h1, h2, h3, h4⟩ := hn
  unfold jm_al
  split
  · rename_i y x r' e
    cases e
    rw [h1]
    dsimp only
    rw [h]
  · rename_i y x r' e
    cases e
    split
    · exact absurd rfl h4
    · rw [h2]
      dsimp only
      rw [h]
  · rename_i y x r' e
    cases e
    rw [h3]
    dsimp only
    rw [h]
  · rename_i v' r' _ _ _ e
    cases e
    rw [h]
  · rename_i e
    cases e
theorem ab_al0 {i : Instr} {st : List Value} (hn : ab_nb i) (h : ∀ v, jm_un i v = none) : jm_al i st = none := by
  obtain ⟨h1, h2, h3, h4⟩ := hn
  unfold jm_al
  split
  · rw [h1]
    dsimp only
    rw [h]
  · split
    · exact absurd rfl h4
    · rw [h2]
      dsimp only
      rw [h]
  · rw [h3]
    dsimp only
    rw [h]
  · rw [h]
  · rfl
section OK4
variable {X : jm_X} {M : jm_M} {d pc len : Nat} {i : Instr} {ts : ab_t} {l : ab_l} {st st0 st1 : List (Nat × Int)} {μ : ab_m} {P : Int → ab_m → Prop}
theorem nb_ineg : ab_nb .ineg := ⟨fun _ _ => rfl, fun _ _ => rfl, fun _ _ => rfl, by decide⟩
theorem nb_i2l : ab_nb .i2l := ⟨fun _ _ => rfl, fun _ _ => rfl, fun _ _ => rfl, by decide⟩
theorem nb_l2i : ab_nb .l2i := ⟨fun _ _ => rfl, fun _ _ => rfl, fun _ _ => rfl, by decide⟩
theorem nb_i2b : ab_nb .i2b := ⟨fun _ _ => rfl, fun _ _ => rfl, fun _ _ => rfl, by decide⟩
theorem nb_dup : ab_nb .dup := ⟨fun _ _ => rfl, fun _ _ => rfl, fun _ _ => rfl, by decide⟩
theorem nb_pop : ab_nb .pop := ⟨fun _ _ => rfl, fun _ _ => rfl, fun _ _ => rfl, by decide⟩
theorem nb_dup2 : ab_nb .dup2 := ⟨fun _ _ => rfl, fun _ _ => rfl, fun _ _ => rfl, by decide⟩
theorem nb_dup_x1 : ab_nb .dup_x1 := ⟨fun _ _ => rfl, fun _ _ => rfl, fun _ _ => rfl, by decide⟩
theorem ok_ineg {x : Int} (hd : decode M.2.1 pc = .ok (.ineg, 1)) (k : ok_ X M d (pc + 1) ts l ((0, ab_w (-x)) :: st) μ P) : ok_ X M d pc ts l ((0, x) :: st) μ P := by
  refine ok_al (st1 := (0, ab_w (-x)) :: st) hd pl_ineg (ab_un1 nb_ineg ?_) (fun h => ab_sr_cons (ab_w_rg _) (ab_sr_tl h)) k
  show some (Value.int (-Int32.ofInt x)) = some (Value.int (Int32.ofInt (ab_w (-x))))
  rw [ab_ofw, Int32.ofInt_neg]
theorem ok_i2l {x : Int} (hd : decode M.2.1 pc = .ok (.i2l, 1)) (k : ok_ X M d (pc + 1) ts l ((1, x) :: st) μ P) : ok_ X M d pc ts l ((0, x) :: st) μ P := by
  refine ok_sr fun hs => ?_
  have hx := ab_sr_hd hs
  refine ok_al (st1 := (1, x) :: st) hd pl_i2l (ab_un1 nb_i2l ?_) (fun h => ab_sr_cons (by simp only [ab_rg] at hx ⊢; omega) (ab_sr_tl h)) k
  show some (Value.long (Int32.ofInt x).toInt64) = some (Value.long (Int64.ofInt x))
  congr 2
  apply Int64.toInt_inj.mp
  rw [Int32.toInt_toInt64, ab_toInt hx, ab_toIntL (by simp only [ab_rg] at hx ⊢; omega)]
theorem ok_l2i {x : Int} (hd : decode M.2.1 pc = .ok (.l2i, 1)) (k : ok_ X M d (pc + 1) ts l ((0, ab_w x) :: st) μ P) : ok_ X M d pc ts l ((1, x) :: st) μ P := by
  refine ok_sr fun hs => ?_
  have hx := ab_sr_hd hs
  refine ok_al (st1 := (0, ab_w x) :: st) hd pl_l2i (ab_un1 nb_l2i ?_) (fun h => ab_sr_cons (ab_w_rg _) (ab_sr_tl h)) k
  show some (Value.int (Int64.ofInt x).toInt32) = some (Value.int (Int32.ofInt (ab_w x)))
  congr 2
  apply Int32.toInt_inj.mp
  rw [Int64.toInt_toInt32, ab_toIntL hx, ab_toInt (ab_w_rg _)]
  rw [ab_w_def]
  simp only [Int.bmod]
  omega
def ab_b (x : Int) : Int := (x + 128) % 256 - 128
theorem ok_i2b {x : Int} (hd : decode M.2.1 pc = .ok (.i2b, 1)) (k : ok_ X M d (pc + 1) ts l ((0, ab_b x) :: st) μ P) : ok_ X M d pc ts l ((0, x) :: st) μ P := by
  refine ok_sr fun hs => ?_
  have hx := ab_sr_hd hs
  have hb : ab_rg 0 (ab_b x) := by simp only [ab_rg, ab_b]; omega
  refine ok_al (st1 := (0, ab_b x) :: st) hd pl_i2b (ab_un1 nb_i2b ?_) (fun h => ab_sr_cons hb (ab_sr_tl h)) k
  show some (Value.int (Int32.ofInt x).toInt8.toInt32) = some (Value.int (Int32.ofInt (ab_b x)))
  congr 2
  apply Int32.toInt_inj.mp
  rw [Int8.toInt_toInt32, Int32.toInt_toInt8, ab_toInt hx, ab_toInt hb]
  unfold ab_b
  simp only [Int.bmod]
  omega
theorem ok_dup {t : Nat} {x : Int} (hd : decode M.2.1 pc = .ok (.dup, 1)) (ht : t = 0 ∨ t = 2) (k : ok_ X M d (pc + 1) ts l ((t, x) :: (t, x) :: st) μ P) : ok_ X M d pc ts l ((t, x) :: st) μ P := by
  refine ok_sk hd pl_dup (ab_al0 nb_dup (fun v => rfl)) ?_ (fun h => ab_sr_cons (ab_sr_hd h) h) k
  have hc : (ab_v t x).category = 1 := by
    rw [ab_cat x (by omega), if_neg (by omega)]
  show (if (ab_v t x).category = 1 then some (ab_v t x :: ab_v t x :: ab_sv st) else none) = _
  rw [if_pos hc]
  rfl
theorem ok_pop {t : Nat} {x : Int} (hd : decode M.2.1 pc = .ok (.pop, 1)) (ht : t = 0 ∨ t = 2) (k : ok_ X M d (pc + 1) ts l st μ P) : ok_ X M d pc ts l ((t, x) :: st) μ P := by
  refine ok_sk hd pl_pop (ab_al0 nb_pop (fun v => rfl)) ?_ (fun h => ab_sr_tl h) k
  have hc : (ab_v t x).category = 1 := by
    rw [ab_cat x (by omega), if_neg (by omega)]
  show (if (ab_v t x).category = 1 then some (ab_sv st) else none) = _
  rw [if_pos hc]
theorem ok_dup2 {t u : Nat} {x y : Int} (hd : decode M.2.1 pc = .ok (.dup2, 1)) (ht : t = 0 ∨ t = 2) (hu : u = 0 ∨ u = 2) (k : ok_ X M d (pc + 1) ts l ((t, x) :: (u, y) :: (t, x) :: (u, y) :: st) μ P) : ok_ X M d pc ts l ((t, x) :: (u, y) :: st) μ P := by
  refine ok_sk hd pl_dup2 (ab_al0 nb_dup2 (fun v => rfl)) ?_ (fun h => ab_sr_cons (ab_sr_hd h) (ab_sr_cons (ab_sr_hd (ab_sr_tl h)) h)) k
  have hc : (ab_v t x).category = 1 := by
    rw [ab_cat x (by omega), if_neg (by omega)]
  have hc2 : (ab_v u y).category = 1 := by
    rw [ab_cat y (by omega), if_neg (by omega)]
  show (if (ab_v t x).category = 2 then some (ab_v t x :: ab_v t x :: ab_v u y :: ab_sv st) else (if (ab_v t x).category = 1 ∧ (ab_v u y).category = 1 then some (ab_v t x :: ab_v u y :: ab_v t x :: ab_v u y :: ab_sv st) else none)) = _
  rw [if_neg (by rw [hc]; decide), if_pos ⟨hc, hc2⟩]
  rfl
theorem ok_dup_x1 {t u : Nat} {x y : Int} (hd : decode M.2.1 pc = .ok (.dup_x1, 1)) (ht : t = 0 ∨ t = 2) (hu : u = 0 ∨ u = 2) (k : ok_ X M d (pc + 1) ts l ((t, x) :: (u, y) :: (t, x) :: st) μ P) : ok_ X M d pc ts l ((t, x) :: (u, y) :: st) μ P := by
  refine ok_sk hd pl_dup_x1 (ab_al0 nb_dup_x1 (fun v => rfl)) ?_ (fun h => ab_sr_cons (ab_sr_hd h) (ab_sr_cons (ab_sr_hd (ab_sr_tl h)) (ab_sr_cons (ab_sr_hd h) (ab_sr_tl (ab_sr_tl h))))) k
  have hc : (ab_v t x).category = 1 := by
    rw [ab_cat x (by omega), if_neg (by omega)]
  have hc2 : (ab_v u y).category = 1 := by
    rw [ab_cat y (by omega), if_neg (by omega)]
  show (if (ab_v t x).category = 1 ∧ (ab_v u y).category = 1 then some (ab_v t x :: ab_v u y :: ab_v t x :: ab_sv st) else none) = _
  rw [if_pos ⟨hc, hc2⟩]
  rfl
theorem ok_lcmp {x y : Int} (hd : decode M.2.1 pc = .ok (.lcmp, 1)) (k : ok_ X M d (pc + 1) ts l ((0, ab_lcmp x y) :: st) μ P) : ok_ X M d pc ts l ((1, y) :: (1, x) :: st) μ P := by
  refine ok_al hd pl_lcmp ?_ (fun h => ab_sr_cons (ab_rgI _) (ab_sr_tl (ab_sr_tl h))) k
  show some (Value.int (lg_cmp (Int64.ofInt x) (Int64.ofInt y)) :: ab_sv st) = some (Value.int (Int32.ofInt (ab_lcmp x y)) :: ab_sv st)
  unfold ab_lcmp
  rw [ab_ofI]
/-- jumps -/
theorem ok_goto {off : Int} {pc' : Nat} (hd : decode M.2.1 pc = .ok (.goto off, 3)) (ho : jm_ok pc off = true) (hp : jm_at pc off = pc') (k : ok_ X M d pc' ts l st μ P) : ok_ X M d pc ts l st μ P := by
  refine ok_step hd (fun lv S a b c _ => ⟨lv, S, ?_, a, b, c, rfl⟩) k
  show (match (if jm_ok pc off = true then some (jm_at pc off, ab_sv st) else none) with
    | some q => some (q.1, lv, q.2, S, 0, 0)
    | none => _) = _
  rw [if_pos ho, hp]
def ab_cz (q : ClassFile.Cond) (x : Int) : Prop := match q with
  | .eq => x = 0
  | .ne => x ≠ 0
  | .lt => x < 0
  | .ge => 0 ≤ x
  | .gt => 0 < x
  | .le => x ≤ 0
def ab_cc (q : ClassFile.Cond) (x y : Int) : Prop := match q with
  | .eq => x = y
  | .ne => x ≠ y
  | .lt => x < y
  | .ge => y ≤ x
  | .gt => y < x
  | .le => x ≤ y
def ab_nq (q : ClassFile.Cond) : ClassFile.Cond := match q with
  | .eq => .ne
  | .ne => .eq
  | .lt => .ge
  | .ge => .lt
  | .gt => .le
  | .le => .gt
theorem ab_lt {x y : Int} (hx : ab_rg 0 x) (hy : ab_rg 0 y) : Int32.ofInt x < Int32.ofInt y ↔ x < y := by rw [Int32.lt_iff_toInt_lt, ab_toInt hx, ab_toInt hy]
theorem ab_le {x y : Int} (hx : ab_rg 0 x) (hy : ab_rg 0 y) : Int32.ofInt x ≤ Int32.ofInt y ↔ x ≤ y := by rw [Int32.le_iff_toInt_le, ab_toInt hx, ab_toInt hy]
theorem ab_eq {x y : Int} (hx : ab_rg 0 x) (hy : ab_rg 0 y) : Int32.ofInt x = Int32.ofInt y ↔ x = y := by rw [← Int32.toInt_inj, ab_toInt hx, ab_toInt hy]
theorem ab_cc_ok {q : ClassFile.Cond} {x y : Int} (hx : ab_rg 0 x) (hy : ab_rg 0 y) : jm_cc q (Int32.ofInt x) (Int32.ofInt y) = true ↔ ab_cc q x y := by
  cases q <;> simp only [jm_cc, ab_cc, decide_eq_true_eq, ab_lt hx hy, ab_le hx hy, ab_eq hx hy, ab_lt hy hx, ab_le hy hx, ne_eq]
theorem ab_cz_ok {q : ClassFile.Cond} {x : Int} (hx : ab_rg 0 x) : jm_cz q (Int32.ofInt x) = true ↔ ab_cz q x := by
  have h0 : ab_rg 0 0 := by simp only [ab_rg]; omega
  have e0 : (0 : Int32) = Int32.ofInt 0 := rfl
  cases q <;> simp only [jm_cz, ab_cz, decide_eq_true_eq, e0, ab_lt hx h0, ab_le hx h0, ab_eq hx h0, ab_lt h0 hx, ab_le h0 hx, ne_eq]
theorem ab_cc_n {q : ClassFile.Cond} {x y : Int} : ¬ ab_cc q x y ↔ ab_cc (ab_nq q) x y := by
  cases q <;> simp only [ab_cc, ab_nq] <;> omega
theorem ab_cz_n {q : ClassFile.Cond} {x : Int} : ¬ ab_cz q x ↔ ab_cz (ab_nq q) x := by
  cases q <;> simp only [ab_cz, ab_nq] <;> omega
theorem ok_if {q : ClassFile.Cond} {off x : Int} {pc' : Nat} (hd : decode M.2.1 pc = .ok (.ifCond q off, 3)) (ho : jm_ok pc off = true) (hp : jm_at pc off = pc') (k : (ab_cz q x → ok_ X M d pc' ts l st μ P) ∧ (ab_cz (ab_nq q) x → ok_ X M d (pc + 3) ts l st μ P)) : ok_ X M d pc ts l ((0, x) :: st) μ P := by
  refine ok_sr fun hs => ?_
  have hx := ab_sr_hd hs
  by_cases h : ab_cz q x
  · refine ok_step hd (fun lv S a b c _ => ⟨lv, S, ?_, a, ab_sr_tl b, c, rfl⟩) (k.1 h)
    show (match (if jm_ok pc off = true then some (if jm_cz q (Int32.ofInt x) = true then jm_at pc off else pc + 3, ab_sv st) else none) with
      | some q => some (q.1, lv, q.2, S, 0, 0)
      | none => _) = _
    rw [if_pos ho, if_pos ((ab_cz_ok hx).mpr h), hp]
  · refine ok_step hd (fun lv S a b c _ => ⟨lv, S, ?_, a, ab_sr_tl b, c, rfl⟩) (k.2 (ab_cz_n.mp h))
    show (match (if jm_ok pc off = true then some (if jm_cz q (Int32.ofInt x) = true then jm_at pc off else pc + 3, ab_sv st) else none) with
      | some q => some (q.1, lv, q.2, S, 0, 0)
      | none => _) = _
    rw [if_pos ho, if_neg (fun h1 => h ((ab_cz_ok hx).mp h1))]
theorem ok_icmp {q : ClassFile.Cond} {off x y : Int} {pc' : Nat} (hd : decode M.2.1 pc = .ok (.if_icmp q off, 3)) (ho : jm_ok pc off = true) (hp : jm_at pc off = pc') (k : (ab_cc q x y → ok_ X M d pc' ts l st μ P) ∧ (ab_cc (ab_nq q) x y → ok_ X M d (pc + 3) ts l st μ P)) : ok_ X M d pc ts l ((0, y) :: (0, x) :: st) μ P := by
  refine ok_sr fun hs => ?_
  have hy := ab_sr_hd hs
  have hx := ab_sr_hd (ab_sr_tl hs)
  by_cases h : ab_cc q x y
  · refine ok_step hd (fun lv S a b c _ => ⟨lv, S, ?_, a, ab_sr_tl (ab_sr_tl b), c, rfl⟩) (k.1 h)
    show (match (if jm_ok pc off = true then some (if jm_cc q (Int32.ofInt x) (Int32.ofInt y) = true then jm_at pc off else pc + 3, ab_sv st) else none) with
      | some q => some (q.1, lv, q.2, S, 0, 0)
      | none => _) = _
    rw [if_pos ho, if_pos ((ab_cc_ok hx hy).mpr h), hp]
  · refine ok_step hd (fun lv S a b c _ => ⟨lv, S, ?_, a, ab_sr_tl (ab_sr_tl b), c, rfl⟩) (k.2 (ab_cc_n.mp h))
    show (match (if jm_ok pc off = true then some (if jm_cc q (Int32.ofInt x) (Int32.ofInt y) = true then jm_at pc off else pc + 3, ab_sv st) else none) with
      | some q => some (q.1, lv, q.2, S, 0, 0)
      | none => _) = _
    rw [if_pos ho, if_neg (fun h1 => h ((ab_cc_ok hx hy).mp h1))]
end OK4
