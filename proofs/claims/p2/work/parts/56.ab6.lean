/-! THE ABSTRACT MACHINE, part 6: arrays -/
theorem ab_cellA {k t n : Nat} (f : Int → Int) (hL : ab_L k = (100 + t, n)) (ht : t ≠ 1) : ab_cell k f = .inl (t, n, .inl fun j => Int32.ofInt (f j)) := by
  unfold ab_cell
  rw [hL]
  rw [if_neg (by show ¬ 100 + t = 101; omega), if_pos (by show 100 ≤ 100 + t; omega)]
  show Sum.inl (100 + t - 100, n, Sum.inl fun (j : Nat) => Int32.ofInt (f j)) = _
  rw [Nat.add_sub_cancel_left]
theorem ab_cellJ {k n : Nat} (f : Int → Int) (hL : ab_L k = (101, n)) : ab_cell k f = .inl (1, n, .inr (.inl fun j => Int64.ofInt (f j))) := by
  unfold ab_cell
  rw [hL]
  rfl
theorem ab_tgA {k t n : Nat} {j : Int} (hL : ab_L k = (100 + t, n)) : ab_tg k j = ab_at t := by
  unfold ab_tg
  rw [hL]
  rw [if_pos (by show 100 ≤ 100 + t; omega)]
  show ab_at (100 + t - 100) = _
  rw [Nat.add_sub_cancel_left]
theorem ab_idx {i : Int} {n : Nat} (h0 : 0 ≤ i) (h1 : i < n) (hr : ab_rg 0 i) : jm_in (Int32.ofInt i) n = true ∧ (Int32.ofInt i).toNatClampNeg = i.toNat := by
  have h2 := ab_toInt hr
  have h3 : (Int32.ofInt i).toNatClampNeg = i.toNat := by
    rw [Int32.toNatClampNeg]
    show (Int32.ofInt i).toInt.toNat = i.toNat
    rw [h2]
  refine ⟨?_, h3⟩
  unfold jm_in
  rw [decide_eq_true_eq, h3, Int32.lt_iff_toInt_lt, h2]
  show ¬ (i < 0 ∨ n ≤ i.toNat)
  omega
theorem ab_sv2 (x : Nat × Int) (a : Nat) (st : List (Nat × Int)) : ab_sv (x :: (2, (a : Int)) :: st) = ab_v x.1 x.2 :: .ref a :: ab_sv st := by
  show ab_v x.1 x.2 :: (if (a : Int) < 0 then Value.null else Value.ref (a : Int).toNat) :: ab_sv st = _
  rw [if_neg (by omega), Int.toNat_natCast]
theorem ab_sv3 (x y : Nat × Int) (a : Nat) (st : List (Nat × Int)) : ab_sv (x :: y :: (2, (a : Int)) :: st) = ab_v x.1 x.2 :: ab_v y.1 y.2 :: .ref a :: ab_sv st := by
  show ab_v x.1 x.2 :: ab_v y.1 y.2 :: (if (a : Int) < 0 then Value.null else Value.ref (a : Int).toNat) :: ab_sv st = _
  rw [if_neg (by omega), Int.toNat_natCast]
section OK6
variable {X : jm_X} {M : jm_M} {d pc len : Nat} {i : Instr} {ts : ab_t} {l : ab_l} {st st0 st1 : List (Nat × Int)} {μ : ab_m} {P : Int → ab_m → Prop}
theorem ok_iald {a i : Int} {n : Nat} (hd : decode M.2.1 pc = .ok (.iaload, 1)) (ha : ab_arr 0 n a) (hi : 0 ≤ i ∧ i < n) (k : ok_ X M d (pc + 1) ts l ((0, μ a i) :: st) μ P) : ok_ X M d pc ts l ((0, i) :: (2, a) :: st) μ P := by
  obtain ⟨c, rfl, hc, hL⟩ := ha
  refine ok_step hd (fun lv S x b R _ => ?_) k
  obtain ⟨h1, h2⟩ := ab_idx hi.1 hi.2 (ab_sr_hd b)
  have hr := R.2.2 c i hc
  rw [ab_tgA hL] at hr
  refine ⟨lv, S, ?_, x, ab_sr_cons hr (ab_sr_tl (ab_sr_tl b)), R, rfl⟩
  rw [ab_sv2]
  show (match (if c < S.1 then (match jm_rd .iaload (Int32.ofInt i) (S.2 c) with
    | some v => some (v :: ab_sv st, S, 0, 0)
    | none => none) else _) with
    | some q => some (pc + 1, lv, q.1, q.2.1, q.2.2.1, q.2.2.2)
    | none => _) = _
  rw [if_pos (Nat.lt_of_lt_of_le hc R.1), R.2.1 c hc, ab_cellA _ hL (by decide)]
  show (match (match (if jm_in (Int32.ofInt i) n = true then some (Value.int (Int32.ofInt (μ c ((Int32.ofInt i).toNatClampNeg : Nat)))) else none) with
    | some v => some (v :: ab_sv st, S, 0, 0)
    | none => none) with
    | some q => some (pc + 1, lv, q.1, q.2.1, q.2.2.1, q.2.2.2)
    | none => _) = _
  rw [if_pos h1, h2, Int.toNat_of_nonneg hi.1]
  rfl
theorem ok_bald {a i : Int} {n t : Nat} (hd : decode M.2.1 pc = .ok (.baload, 1)) (ht : t = 2 ∨ t = 3) (ha : ab_arr t n a) (hi : 0 ≤ i ∧ i < n) (k : ok_ X M d (pc + 1) ts l ((0, μ a i) :: st) μ P) : ok_ X M d pc ts l ((0, i) :: (2, a) :: st) μ P := by
  obtain ⟨c, rfl, hc, hL⟩ := ha
  refine ok_step hd (fun lv S x b R _ => ?_) k
  obtain ⟨h1, h2⟩ := ab_idx hi.1 hi.2 (ab_sr_hd b)
  have hr := R.2.2 c i hc
  rw [ab_tgA hL] at hr
  have hr0 : ab_rg 0 (μ c i) := by
    rcases ht with rfl | rfl
    · have hr : 0 ≤ μ c i ∧ μ c i ≤ 1 := hr
      show -2147483648 ≤ μ c i ∧ μ c i ≤ 2147483647
      omega
    · have hr : -128 ≤ μ c i ∧ μ c i ≤ 127 := hr
      show -2147483648 ≤ μ c i ∧ μ c i ≤ 2147483647
      omega
  refine ⟨lv, S, ?_, x, ab_sr_cons hr0 (ab_sr_tl (ab_sr_tl b)), R, rfl⟩
  rw [ab_sv2]
  show (match (if c < S.1 then (match jm_rd .baload (Int32.ofInt i) (S.2 c) with
    | some v => some (v :: ab_sv st, S, 0, 0)
    | none => none) else _) with
    | some q => some (pc + 1, lv, q.1, q.2.1, q.2.2.1, q.2.2.2)
    | none => _) = _
  rw [if_pos (Nat.lt_of_lt_of_le hc R.1), R.2.1 c hc, ab_cellA _ hL (by omega)]
  have e : jm_rd .baload (Int32.ofInt i) (.inl (t, n, .inl fun (j : Nat) => Int32.ofInt (μ c j))) = (if jm_in (Int32.ofInt i) n = true then some (Value.int (Int32.ofInt (μ c ((Int32.ofInt i).toNatClampNeg : Nat)))) else none) := by
    rcases ht with rfl | rfl <;> rfl
  rw [e, if_pos h1, h2, Int.toNat_of_nonneg hi.1]
  rfl
theorem ok_lald {a i : Int} {n : Nat} (hd : decode M.2.1 pc = .ok (.laload, 1)) (ha : ab_arr 1 n a) (hi : 0 ≤ i ∧ i < n) (k : ok_ X M d (pc + 1) ts l ((1, μ a i) :: st) μ P) : ok_ X M d pc ts l ((0, i) :: (2, a) :: st) μ P := by
  obtain ⟨c, rfl, hc, hL⟩ := ha
  refine ok_step hd (fun lv S x b R _ => ?_) k
  obtain ⟨h1, h2⟩ := ab_idx hi.1 hi.2 (ab_sr_hd b)
  have hr := R.2.2 c i hc
  rw [ab_tgA (t := 1) hL] at hr
  refine ⟨lv, S, ?_, x, ab_sr_cons hr (ab_sr_tl (ab_sr_tl b)), R, rfl⟩
  rw [ab_sv2]
  show (match (if c < S.1 then (match jm_rd .laload (Int32.ofInt i) (S.2 c) with
    | some v => some (v :: ab_sv st, S, 0, 0)
    | none => none) else _) with
    | some q => some (pc + 1, lv, q.1, q.2.1, q.2.2.1, q.2.2.2)
    | none => _) = _
  rw [if_pos (Nat.lt_of_lt_of_le hc R.1), R.2.1 c hc, ab_cellJ _ hL]
  show (match (match (if jm_in (Int32.ofInt i) n = true then some (Value.long (Int64.ofInt (μ c ((Int32.ofInt i).toNatClampNeg : Nat)))) else none) with
    | some v => some (v :: ab_sv st, S, 0, 0)
    | none => none) with
    | some q => some (pc + 1, lv, q.1, q.2.1, q.2.2.1, q.2.2.2)
    | none => _) = _
  rw [if_pos h1, h2, Int.toNat_of_nonneg hi.1]
  rfl
theorem ab_ast_R {S : jm_S} {c t n : Nat} {i v : Int} {w : Int32} (R : ab_R μ S) (hc : c < 180) (hL : ab_L c = (100 + t, n)) (ht : t ≠ 1) (hi : 0 ≤ i) (hv : ab_rg (ab_at t) v) (hw : w = Int32.ofInt v) : ab_R (ab_mu μ c i v) (jm_up S c (.inl (t, n, .inl (upd (fun j => Int32.ofInt (μ c j)) i.toNat w)))) := by
  obtain ⟨c1, c2, c3⟩ := R
  refine ⟨c1, fun k hk => ?_, fun k j hk => ?_⟩
  · show va_up S.2 c _ k = _
    unfold va_up
    by_cases hka : k = c
    · subst hka
      rw [if_pos rfl, ab_cellA _ hL ht]
      congr 3
      congr 1
      funext j
      unfold upd ab_mu
      by_cases hj : j = i.toNat
      · rw [if_pos hj, if_pos (by omega), hw]
      · rw [if_neg hj, if_neg (by omega)]
    · rw [if_neg hka, c2 k hk]
      congr 1
      funext j
      unfold ab_mu
      rw [if_neg (by omega)]
  · unfold ab_mu
    split
    · rename_i h
      have : k = c := by omega
      subst this
      rw [ab_tgA hL]
      exact hv
    · exact c3 k j hk
theorem ab_lst_R {S : jm_S} {c n : Nat} {i v : Int} (R : ab_R μ S) (hc : c < 180) (hL : ab_L c = (101, n)) (hi : 0 ≤ i) (hv : ab_rg 1 v) : ab_R (ab_mu μ c i v) (jm_up S c (.inl (1, n, .inr (.inl (vp_updL (fun j => Int64.ofInt (μ c j)) i.toNat (Int64.ofInt v)))))) := by
  obtain ⟨c1, c2, c3⟩ := R
  refine ⟨c1, fun k hk => ?_, fun k j hk => ?_⟩
  · show va_up S.2 c _ k = _
    unfold va_up
    by_cases hka : k = c
    · subst hka
      rw [if_pos rfl, ab_cellJ _ hL]
      congr 3
      congr 2
      funext j
      unfold vp_updL ab_mu
      by_cases hj : j = i.toNat
      · rw [if_pos hj, if_pos (by omega)]
      · rw [if_neg hj, if_neg (by omega)]
    · rw [if_neg hka, c2 k hk]
      congr 1
      funext j
      unfold ab_mu
      rw [if_neg (by omega)]
  · unfold ab_mu
    split
    · rename_i h
      have : k = c := by omega
      subst this
      rw [ab_tgA (t := 1) hL]
      exact hv
    · exact c3 k j hk
theorem ok_iast {a i v : Int} {n : Nat} (hd : decode M.2.1 pc = .ok (.iastore, 1)) (ha : ab_arr 0 n a) (hi : 0 ≤ i ∧ i < n) (k : ok_ X M d (pc + 1) ts l st (ab_mu μ a i v) P) : ok_ X M d pc ts l ((0, v) :: (0, i) :: (2, a) :: st) μ P := by
  obtain ⟨c, rfl, hc, hL⟩ := ha
  refine ok_step hd (fun lv S x b R _ => ?_) k
  obtain ⟨h1, h2⟩ := ab_idx hi.1 hi.2 (ab_sr_hd (ab_sr_tl b))
  refine ⟨lv, _, ?_, x, ab_sr_tl (ab_sr_tl (ab_sr_tl b)), ab_ast_R R hc hL (by decide) hi.1 (ab_sr_hd b) rfl, rfl⟩
  rw [ab_sv3]
  show (match (if c < S.1 then (match jm_wr .iastore (.int (Int32.ofInt v)) (Int32.ofInt i) (S.2 c) with
    | some x => some (ab_sv st, jm_up S c x, 0, 0)
    | none => none) else none) with
    | some q => some (pc + 1, lv, q.1, q.2.1, q.2.2.1, q.2.2.2)
    | none => _) = _
  rw [if_pos (Nat.lt_of_lt_of_le hc R.1), R.2.1 c hc, ab_cellA _ hL (by decide)]
  show (match (match (if jm_in (Int32.ofInt i) n = true then some (Sum.inl (0, n, Sum.inl (upd (fun (j : Nat) => Int32.ofInt (μ c j)) (Int32.ofInt i).toNatClampNeg (Int32.ofInt v)))) else none) with
    | some x => some (ab_sv st, jm_up S c x, 0, 0)
    | none => none) with
    | some q => some (pc + 1, lv, q.1, q.2.1, q.2.2.1, q.2.2.2)
    | none => _) = _
  rw [if_pos h1, h2]
theorem ok_last {a i v : Int} {n : Nat} (hd : decode M.2.1 pc = .ok (.lastore, 1)) (ha : ab_arr 1 n a) (hi : 0 ≤ i ∧ i < n) (k : ok_ X M d (pc + 1) ts l st (ab_mu μ a i v) P) : ok_ X M d pc ts l ((1, v) :: (0, i) :: (2, a) :: st) μ P := by
  obtain ⟨c, rfl, hc, hL⟩ := ha
  refine ok_step hd (fun lv S x b R _ => ?_) k
  obtain ⟨h1, h2⟩ := ab_idx hi.1 hi.2 (ab_sr_hd (ab_sr_tl b))
  refine ⟨lv, _, ?_, x, ab_sr_tl (ab_sr_tl (ab_sr_tl b)), ab_lst_R R hc hL hi.1 (ab_sr_hd b), rfl⟩
  rw [ab_sv3]
  show (match (if c < S.1 then (match jm_wr .lastore (.long (Int64.ofInt v)) (Int32.ofInt i) (S.2 c) with
    | some x => some (ab_sv st, jm_up S c x, 0, 0)
    | none => none) else none) with
    | some q => some (pc + 1, lv, q.1, q.2.1, q.2.2.1, q.2.2.2)
    | none => _) = _
  rw [if_pos (Nat.lt_of_lt_of_le hc R.1), R.2.1 c hc, ab_cellJ _ hL]
  show (match (match (if jm_in (Int32.ofInt i) n = true then some (Sum.inl (1, n, Sum.inr (Sum.inl (vp_updL (fun (j : Nat) => Int64.ofInt (μ c j)) (Int32.ofInt i).toNatClampNeg (Int64.ofInt v))))) else none) with
    | some x => some (ab_sv st, jm_up S c x, 0, 0)
    | none => none) with
    | some q => some (pc + 1, lv, q.1, q.2.1, q.2.2.1, q.2.2.2)
    | none => _) = _
  rw [if_pos h1, h2]
theorem ab_one1 {v : Int} (hv : ab_rg 0 v) : Int32.ofInt v &&& 1 = Int32.ofInt (v % 2) := by
  apply Int32.toInt_inj.mp
  have h1 : ab_rg 0 (v % 2) := by simp only [ab_rg]; omega
  rw [ab_toInt h1]
  have h2 : (Int32.ofInt v &&& 1).toBitVec = (Int32.ofInt v).toBitVec &&& 1#32 := rfl
  have h3 : (Int32.ofInt v).toBitVec.toInt = v := ab_toInt hv
  show (Int32.ofInt v &&& 1).toBitVec.toInt = v % 2
  rw [h2, BitVec.toInt_eq_toNat_cond, BitVec.toNat_and]
  have h4 : ((Int32.ofInt v).toBitVec.toNat : Int) % 2 = v % 2 := by
    rw [BitVec.toInt_eq_toNat_cond] at h3
    split at h3 <;> omega
  have h5 : (Int32.ofInt v).toBitVec.toNat &&& (1#32).toNat = (Int32.ofInt v).toBitVec.toNat % 2 := Nat.and_one_is_mod _
  rw [h5]
  split <;> omega
/-- a boolean, laid into an array -/
theorem ok_zast {a i v : Int} {n : Nat} (hd : decode M.2.1 pc = .ok (.bastore, 1)) (ha : ab_arr 2 n a) (hi : 0 ≤ i ∧ i < n) (k : ok_ X M d (pc + 1) ts l st (ab_mu μ a i (v % 2)) P) : ok_ X M d pc ts l ((0, v) :: (0, i) :: (2, a) :: st) μ P := by
  obtain ⟨c, rfl, hc, hL⟩ := ha
  refine ok_step hd (fun lv S x b R _ => ?_) k
  obtain ⟨h1, h2⟩ := ab_idx hi.1 hi.2 (ab_sr_hd (ab_sr_tl b))
  refine ⟨lv, _, ?_, x, ab_sr_tl (ab_sr_tl (ab_sr_tl b)), ab_ast_R R hc hL (by decide) hi.1 (v := v % 2) (w := Int32.ofInt v &&& 1) (by show 0 ≤ v % 2 ∧ v % 2 ≤ 1; omega) (ab_one1 (ab_sr_hd b)), rfl⟩
  rw [ab_sv3]
  show (match (if c < S.1 then (match jm_wr .bastore (.int (Int32.ofInt v)) (Int32.ofInt i) (S.2 c) with
    | some x => some (ab_sv st, jm_up S c x, 0, 0)
    | none => none) else none) with
    | some q => some (pc + 1, lv, q.1, q.2.1, q.2.2.1, q.2.2.2)
    | none => _) = _
  rw [if_pos (Nat.lt_of_lt_of_le hc R.1), R.2.1 c hc, ab_cellA _ hL (by decide)]
  show (match (match (if jm_in (Int32.ofInt i) n = true then some (Sum.inl (2, n, Sum.inl (upd (fun (j : Nat) => Int32.ofInt (μ c j)) (Int32.ofInt i).toNatClampNeg (Int32.ofInt v &&& 1)))) else none) with
    | some x => some (ab_sv st, jm_up S c x, 0, 0)
    | none => none) with
    | some q => some (pc + 1, lv, q.1, q.2.1, q.2.2.1, q.2.2.2)
    | none => _) = _
  rw [if_pos h1, h2]
/-- a byte -/
theorem ok_bast {a i v : Int} {n : Nat} (hd : decode M.2.1 pc = .ok (.bastore, 1)) (ha : ab_arr 3 n a) (hi : 0 ≤ i ∧ i < n) (k : ok_ X M d (pc + 1) ts l st (ab_mu μ a i (ab_b v)) P) : ok_ X M d pc ts l ((0, v) :: (0, i) :: (2, a) :: st) μ P := by
  obtain ⟨c, rfl, hc, hL⟩ := ha
  refine ok_step hd (fun lv S x b R _ => ?_) k
  obtain ⟨h1, h2⟩ := ab_idx hi.1 hi.2 (ab_sr_hd (ab_sr_tl b))
  have hv := ab_sr_hd b
  have hb : ab_rg 0 (ab_b v) := by simp only [ab_rg, ab_b]; omega
  have hw : (Int32.ofInt v).toInt8.toInt32 = Int32.ofInt (ab_b v) := by
    apply Int32.toInt_inj.mp
    rw [Int8.toInt_toInt32, Int32.toInt_toInt8, ab_toInt hv, ab_toInt hb]
    unfold ab_b
    simp only [Int.bmod]
    omega
  refine ⟨lv, _, ?_, x, ab_sr_tl (ab_sr_tl (ab_sr_tl b)), ab_ast_R R hc hL (by decide) hi.1 (v := ab_b v) (w := (Int32.ofInt v).toInt8.toInt32) (by show -128 ≤ ab_b v ∧ ab_b v ≤ 127; unfold ab_b; omega) hw, rfl⟩
  rw [ab_sv3]
  show (match (if c < S.1 then (match jm_wr .bastore (.int (Int32.ofInt v)) (Int32.ofInt i) (S.2 c) with
    | some x => some (ab_sv st, jm_up S c x, 0, 0)
    | none => none) else none) with
    | some q => some (pc + 1, lv, q.1, q.2.1, q.2.2.1, q.2.2.2)
    | none => _) = _
  rw [if_pos (Nat.lt_of_lt_of_le hc R.1), R.2.1 c hc, ab_cellA _ hL (by decide)]
  show (match (match (if jm_in (Int32.ofInt i) n = true then some (Sum.inl (3, n, Sum.inl (upd (fun (j : Nat) => Int32.ofInt (μ c j)) (Int32.ofInt i).toNatClampNeg (Int32.ofInt v).toInt8.toInt32))) else none) with
    | some x => some (ab_sv st, jm_up S c x, 0, 0)
    | none => none) with
    | some q => some (pc + 1, lv, q.1, q.2.1, q.2.2.1, q.2.2.2)
    | none => _) = _
  rw [if_pos h1, h2]
end OK6
