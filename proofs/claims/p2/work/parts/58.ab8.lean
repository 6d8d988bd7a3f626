/-! THE ABSTRACT MACHINE, part 8: switches, constants of the pool, tables, lengths, copies -/
section OK8
variable {X : jm_X} {M N : jm_M} {d pc len : Nat} {i : Instr} {ts : ab_t} {l : ab_l} {st st0 st1 as : List (Nat × Int)} {μ : ab_m} {P : Int → ab_m → Prop}
/-- the ways of a tableswitch -/
def ab_tw (pc : Nat) (x : Int) (K : Nat → Prop) : List Int → Int → Prop
  | [], _ => True
  | off :: r, n => (x = n → K (jm_at pc off)) ∧ ab_tw pc x K r (n + 1)
theorem ab_tw_at {pc : Nat} {x : Int} {K : Nat → Prop} : ∀ {offs : List Int} {n : Int} {off : Int}, ab_tw pc x K offs n → n ≤ x → offs[(x - n).toNat]? = some off → K (jm_at pc off) := by
  intro offs
  induction offs with
  | nil => intro n off _ _ h; simp at h
  | cons o r ih =>
    intro n off h hx ho
    by_cases e : x = n
    · subst e
      rw [Int.sub_self] at ho
      cases ho
      exact h.1 rfl
    · refine ih h.2 (by omega) ?_
      have e2 : (x - n).toNat = (x - (n + 1)).toNat + 1 := by omega
      rw [e2] at ho
      exact ho
theorem ok_tsw {dflt lo hi x : Int} {offs : Array Int} {dp : Nat} (hd : decode M.2.1 pc = .ok (.tableswitch dflt lo hi offs, len)) (hlen : offs.toList.length = (hi - lo + 1).toNat) (hok : (dflt :: offs.toList).all (jm_ok pc) = true) (hp : jm_at pc dflt = dp)
    (k : ab_tw pc x (fun pc' => ok_ X M d pc' ts l st μ P) offs.toList lo ∧ (x < lo ∨ hi < x → ok_ X M d dp ts l st μ P)) : ok_ X M d pc ts l ((0, x) :: st) μ P := by
  refine ok_sr fun hs => ?_
  have hx := ab_toInt (ab_sr_hd hs)
  have hok2 := List.all_eq_true.mp hok
  by_cases h : x < lo ∨ hi < x
  · refine ok_step hd (fun lv S a b c _ => ⟨lv, S, ?_, a, ab_sr_tl b, c, rfl⟩) (k.2 h)
    show (match (if (Int32.ofInt x).toInt < lo ∨ hi < (Int32.ofInt x).toInt then (if jm_ok pc dflt = true then some (jm_at pc dflt, ab_sv st) else none) else (match offs[((Int32.ofInt x).toInt - lo).toNat]? with
      | some off => if jm_ok pc off = true then some (jm_at pc off, ab_sv st) else none
      | none => none)) with
      | some q => some (q.1, lv, q.2, S, 0, 0)
      | none => _) = _
    rw [hx, if_pos h, if_pos (hok2 _ List.mem_cons_self), hp]
  · have hlt : (x - lo).toNat < offs.toList.length := by omega
    obtain ⟨off, ho⟩ : ∃ off, offs.toList[(x - lo).toNat]? = some off := ⟨_, List.getElem?_eq_getElem hlt⟩
    have ho2 : offs[(x - lo).toNat]? = some off := by rw [← ho]; exact Array.getElem?_toList.symm
    refine ok_step hd (fun lv S a b c _ => ⟨lv, S, ?_, a, ab_sr_tl b, c, rfl⟩) (ab_tw_at k.1 (by omega) ho)
    show (match (if (Int32.ofInt x).toInt < lo ∨ hi < (Int32.ofInt x).toInt then (if jm_ok pc dflt = true then some (jm_at pc dflt, ab_sv st) else none) else (match offs[((Int32.ofInt x).toInt - lo).toNat]? with
      | some off => if jm_ok pc off = true then some (jm_at pc off, ab_sv st) else none
      | none => none)) with
      | some q => some (q.1, lv, q.2, S, 0, 0)
      | none => _) = _
    rw [hx, if_neg h, ho2]
    dsimp only
    rw [if_pos (hok2 _ (List.mem_cons_of_mem _ (List.mem_of_getElem? ho)))]
/-- the ways of a lookupswitch -/
def ab_lw (pc : Nat) (x : Int) (K : Nat → Prop) : List (Int × Int) → Prop
  | [] => True
  | q :: r => (x = q.1 → K (jm_at pc q.2)) ∧ ab_lw pc x K r
theorem ab_lw_at {pc : Nat} {x : Int} {K : Nat → Prop} : ∀ {ps : List (Int × Int)} {q : Int × Int}, ab_lw pc x K ps → q ∈ ps → x = q.1 → K (jm_at pc q.2) := by
  intro ps
  induction ps with
  | nil => intro q _ h; cases h
  | cons o r ih =>
    intro q h hq hx
    rcases List.mem_cons.mp hq with rfl | hq
    · exact h.1 hx
    · exact ih h.2 hq hx
theorem ab_ls_off : ∀ (ps : List (Int × Int)) (dflt x : Int), (∃ q ∈ ps, x = q.1 ∧ Op.lookupswitch.offset ps dflt x = q.2) ∨ ((∀ q ∈ ps, x ≠ q.1) ∧ Op.lookupswitch.offset ps dflt x = dflt) := by
  intro ps dflt x
  induction ps with
  | nil => exact Or.inr ⟨(fun q hq => by cases hq), rfl⟩
  | cons p r ih =>
    obtain ⟨a, o⟩ := p
    rw [Op.lookupswitch.offset_cons]
    by_cases h : x = a
    · refine Or.inl ⟨(a, o), List.mem_cons_self, h, ?_⟩
      simp [h]
    · rcases ih with ⟨q, q1, q2, q3⟩ | ⟨q1, q2⟩
      · refine Or.inl ⟨q, List.mem_cons_of_mem _ q1, q2, ?_⟩
        rw [← q3]
        simp [h, Ne.symm h]
      · refine Or.inr ⟨fun q hq => ?_, ?_⟩
        · rcases List.mem_cons.mp hq with rfl | hq
          · exact h
          · exact q1 q hq
        · rw [if_neg (Ne.symm h)]
          exact q2
theorem ok_lsw {dflt x : Int} {ps : Array (Int × Int)} {dp : Nat} (hd : decode M.2.1 pc = .ok (.lookupswitch dflt ps, len)) (hso : (ps.toList.zip (ps.toList.drop 1)).all (fun (a, next) => a.1 < next.1) = true) (hok : (dflt :: ps.toList.map (fun q => q.2)).all (jm_ok pc) = true) (hp : jm_at pc dflt = dp)
    (k : ab_lw pc x (fun pc' => ok_ X M d pc' ts l st μ P) ps.toList ∧ ((∀ q ∈ ps.toList, x ≠ q.1) → ok_ X M d dp ts l st μ P)) : ok_ X M d pc ts l ((0, x) :: st) μ P := by
  refine ok_sr fun hs => ?_
  have hx := ab_toInt (ab_sr_hd hs)
  have hok2 := List.all_eq_true.mp hok
  rcases ab_ls_off ps.toList dflt x with ⟨q, q1, q2, q3⟩ | ⟨q1, q2⟩
  · refine ok_step hd (fun lv S a b c _ => ⟨lv, S, ?_, a, ab_sr_tl b, c, rfl⟩) (ab_lw_at k.1 q1 q2)
    show (match (if (ps.toList.zip (ps.toList.drop 1)).all (fun (a, next) => a.1 < next.1) = true ∧ jm_ok pc (Op.lookupswitch.offset ps.toList dflt (Int32.ofInt x).toInt) = true then some (jm_at pc (Op.lookupswitch.offset ps.toList dflt (Int32.ofInt x).toInt), ab_sv st) else none) with
      | some q => some (q.1, lv, q.2, S, 0, 0)
      | none => _) = _
    rw [hx, q3, if_pos ⟨hso, hok2 _ (List.mem_cons_of_mem _ (List.mem_map.mpr ⟨q, q1, rfl⟩))⟩]
  · refine ok_step hd (fun lv S a b c _ => ⟨lv, S, ?_, a, ab_sr_tl b, c, rfl⟩) (k.2 q1)
    show (match (if (ps.toList.zip (ps.toList.drop 1)).all (fun (a, next) => a.1 < next.1) = true ∧ jm_ok pc (Op.lookupswitch.offset ps.toList dflt (Int32.ofInt x).toInt) = true then some (jm_at pc (Op.lookupswitch.offset ps.toList dflt (Int32.ofInt x).toInt), ab_sv st) else none) with
      | some q => some (q.1, lv, q.2, S, 0, 0)
      | none => _) = _
    rw [hx, q2, if_pos ⟨hso, hok2 _ List.mem_cons_self⟩, hp]
theorem ok_ldcI {idx : Nat} {x : Int} {z : Int32} (hd : decode M.2.1 pc = .ok (.ldc idx, 2)) (hk : jp_K (jm_q M) idx = some (.int z)) (hz : z = Int32.ofInt x) (hr : ab_rg 0 x) (k : ok_ X M d (pc + 2) ts l ((0, x) :: st) μ P) : ok_ X M d pc ts l st μ P := by
  refine ok_step hd (fun lv S a b c _ => ⟨lv, S, ?_, a, ab_sr_cons hr b, c, rfl⟩) k
  show (match (match jp_K (jm_q M) idx with
    | some (.int x) => some (pc + 2, lv, Value.int x :: ab_sv st)
    | _ => none) with
    | some q => some (q.1, q.2.1, q.2.2, S, 0, 0)
    | none => none) = _
  rw [hk, hz]
  rfl
theorem ok_ldcW {idx : Nat} {x : Int} {z : Int32} (hd : decode M.2.1 pc = .ok (.ldc_w idx, 3)) (hk : jp_K (jm_q M) idx = some (.int z)) (hz : z = Int32.ofInt x) (hr : ab_rg 0 x) (k : ok_ X M d (pc + 3) ts l ((0, x) :: st) μ P) : ok_ X M d pc ts l st μ P := by
  refine ok_step hd (fun lv S a b c _ => ⟨lv, S, ?_, a, ab_sr_cons hr b, c, rfl⟩) k
  show (match (match jp_K (jm_q M) idx with
    | some (.int x) => some (pc + 3, lv, Value.int x :: ab_sv st)
    | _ => none) with
    | some q => some (q.1, q.2.1, q.2.2, S, 0, 0)
    | none => none) = _
  rw [hk, hz]
  rfl
theorem ok_ldcL {idx : Nat} {x : Int} {z : Int64} (hd : decode M.2.1 pc = .ok (.ldc2_w idx, 3)) (hk : jp_K (jm_q M) idx = some (.long z)) (hz : z = Int64.ofInt x) (hr : ab_rg 1 x) (k : ok_ X M d (pc + 3) ts l ((1, x) :: st) μ P) : ok_ X M d pc ts l st μ P := by
  refine ok_step hd (fun lv S a b c _ => ⟨lv, S, ?_, a, ab_sr_cons hr b, c, rfl⟩) k
  show (match (match jp_K (jm_q M) idx with
    | some (.long x) => some (pc + 3, lv, Value.long x :: ab_sv st)
    | _ => none) with
    | some q => some (q.1, q.2.1, q.2.2, S, 0, 0)
    | none => none) = _
  rw [hk, hz]
  rfl
theorem ok_gets {idx a : Nat} (hd : decode M.2.1 pc = .ok (.getstatic idx, 3)) (hk : jp_S (jm_q M) idx = some a) (k : ok_ X M d (pc + 3) ts l ((2, (a : Int)) :: st) μ P) : ok_ X M d pc ts l st μ P := by
  refine ok_step hd (fun lv S x b c _ => ⟨lv, S, ?_, x, ab_sr_cons (t := 2) (x := (a : Int)) trivial b, c, rfl⟩) k
  show (match (match jp_S (jm_q M) idx with
    | some a => some (Value.ref a :: ab_sv st, S, 0, 0)
    | none => none) with
    | some q => some (pc + 3, lv, q.1, q.2.1, q.2.2.1, q.2.2.2)
    | none => _) = _
  rw [hk]
  show some (pc + 3, lv, Value.ref a :: ab_sv st, S, 0, 0) = some (pc + 3, lv, (if (a : Int) < 0 then Value.null else Value.ref (a : Int).toNat) :: ab_sv st, S, 0, 0)
  rw [if_neg (by omega), Int.toNat_natCast]
def ab_key (i : Int) : Int := (jp_KEYS.getD i.toNat 0).toInt
def ab_str (i : Int) : Int := (jp_STR.getD i.toNat 0).toInt
theorem ok_keys {i : Int} (hd : decode M.2.1 pc = .ok (.laload, 1)) (hi : 0 ≤ i ∧ i < 12) (k : ok_ X M d (pc + 1) ts l ((1, ab_key i) :: st) μ P) : ok_ X M d pc ts l ((0, i) :: (2, 1000001) :: st) μ P := by
  refine ok_step hd (fun lv S x b R hlim => ?_) k
  obtain ⟨h1, h2⟩ := ab_idx (n := 12) hi.1 hi.2 (ab_sr_hd b)
  refine ⟨lv, S, ?_, x, ab_sr_cons (ab_rgL _) (ab_sr_tl (ab_sr_tl b)), R, rfl⟩
  rw [show (1000001 : Int) = ((1000001 : Nat) : Int) from rfl, ab_sv2]
  have hlim : S.1 ≤ 1000000 := hlim
  show (match (if 1000001 < S.1 then _ else (match jm_sa X 1000001 with
    | some x => (match jm_rs .laload (Int32.ofInt i) x with
      | some v => some (v :: ab_sv st, S, 0, 0)
      | none => none)
    | none => none)) with
    | some q => some (pc + 1, lv, q.1, q.2.1, q.2.2.1, q.2.2.2)
    | none => _) = _
  rw [if_neg (by omega)]
  show (match (match (if jm_in (Int32.ofInt i) 12 = true then some (Value.long (jp_KEYS.getD (Int32.ofInt i).toNatClampNeg 0)) else none) with
      | some v => some (v :: ab_sv st, S, 0, 0)
      | none => none) with
    | some q => some (pc + 1, lv, q.1, q.2.1, q.2.2.1, q.2.2.2)
    | none => _) = some (pc + 1, lv, Value.long (Int64.ofInt (ab_key i)) :: ab_sv st, S, 0, 0)
  unfold ab_key
  rw [if_pos h1, h2, ab_ofL]
theorem ok_strs {i : Int} (hd : decode M.2.1 pc = .ok (.iaload, 1)) (hi : 0 ≤ i ∧ i < 27) (k : ok_ X M d (pc + 1) ts l ((0, ab_str i) :: st) μ P) : ok_ X M d pc ts l ((0, i) :: (2, 1000002) :: st) μ P := by
  refine ok_step hd (fun lv S x b R hlim => ?_) k
  obtain ⟨h1, h2⟩ := ab_idx (n := 27) hi.1 hi.2 (ab_sr_hd b)
  refine ⟨lv, S, ?_, x, ab_sr_cons (ab_rgI _) (ab_sr_tl (ab_sr_tl b)), R, rfl⟩
  rw [show (1000002 : Int) = ((1000002 : Nat) : Int) from rfl, ab_sv2]
  have hlim : S.1 ≤ 1000000 := hlim
  show (match (if 1000002 < S.1 then _ else (match jm_sa X 1000002 with
    | some x => (match jm_rs .iaload (Int32.ofInt i) x with
      | some v => some (v :: ab_sv st, S, 0, 0)
      | none => none)
    | none => none)) with
    | some q => some (pc + 1, lv, q.1, q.2.1, q.2.2.1, q.2.2.2)
    | none => _) = _
  rw [if_neg (by omega)]
  show (match (match (if jm_in (Int32.ofInt i) 27 = true then some (Value.int (jp_STR.getD (Int32.ofInt i).toNatClampNeg 0)) else none) with
      | some v => some (v :: ab_sv st, S, 0, 0)
      | none => none) with
    | some q => some (pc + 1, lv, q.1, q.2.1, q.2.2.1, q.2.2.2)
    | none => _) = some (pc + 1, lv, Value.int (Int32.ofInt (ab_str i)) :: ab_sv st, S, 0, 0)
  unfold ab_str
  rw [if_pos h1, h2, ab_ofI]
theorem ok_keysn (hd : decode M.2.1 pc = .ok (.arraylength, 1)) (k : ok_ X M d (pc + 1) ts l ((0, 12) :: st) μ P) : ok_ X M d pc ts l ((2, 1000001) :: st) μ P := by
  refine ok_step hd (fun lv S x b R hlim => ⟨lv, S, ?_, x, ab_sr_cons (by simp only [ab_rg]; omega) (ab_sr_tl b), R, rfl⟩) k
  have hlim : S.1 ≤ 1000000 := hlim
  show (match (if 1000001 < S.1 then _ else (match jm_sa X 1000001 with
    | some x => some (Value.int (Int32.ofNat x.2.1) :: ab_sv st, S, 0, 0)
    | none => none)) with
    | some q => some (pc + 1, lv, q.1, q.2.1, q.2.2.1, q.2.2.2)
    | none => _) = _
  rw [if_neg (by omega)]
  rfl
theorem ok_alen {a : Int} {t n : Nat} (hd : decode M.2.1 pc = .ok (.arraylength, 1)) (ha : ab_arr t n a) (ht : t < 4) (hn : n ≤ 1000000) (k : ok_ X M d (pc + 1) ts l ((0, (n : Int)) :: st) μ P) : ok_ X M d pc ts l ((2, a) :: st) μ P := by
  obtain ⟨c, rfl, hc, hL⟩ := ha
  refine ok_step hd (fun lv S x b R _ => ⟨lv, S, ?_, x, ab_sr_cons (by simp only [ab_rg]; omega) (ab_sr_tl b), R, rfl⟩) k
  have e1 : ab_sv ((2, (c : Int)) :: st) = .ref c :: ab_sv st := by
    show (if (c : Int) < 0 then Value.null else Value.ref (c : Int).toNat) :: ab_sv st = _
    rw [if_neg (by omega), Int.toNat_natCast]
  rw [e1]
  show (match (if c < S.1 then (match jm_ln (S.2 c) with
    | some z => some (Value.int z :: ab_sv st, S, 0, 0)
    | none => none) else _) with
    | some q => some (pc + 1, lv, q.1, q.2.1, q.2.2.1, q.2.2.2)
    | none => _) = _
  rw [if_pos (Nat.lt_of_lt_of_le hc R.1), R.2.1 c hc]
  have e2 : jm_ln (ab_cell c (μ c)) = some (Int32.ofNat n) := by
    by_cases h1 : t = 1
    · subst h1
      rw [ab_cellJ _ hL]
      rfl
    · rw [ab_cellA _ hL h1]
      show (if t < 4 then some (Int32.ofNat n) else none) = _
      rw [if_pos ht]
  rw [e2]
  show some (pc + 1, lv, Value.int (Int32.ofNat n) :: ab_sv st, S, 0, 0) = some (pc + 1, lv, Value.int (Int32.ofInt (n : Int)) :: ab_sv st, S, 0, 0)
  rw [Int32.ofInt_eq_ofNat]
/-- Math.max, Math.min -/
theorem ok_max {idx : Nat} {x y : Int} (hd : decode M.2.1 pc = .ok (.invokestatic idx, 3)) (hk : jp_max (jm_q M) idx = some ()) (hc : ((ab_sv st).map fun v => v.category).sum ≤ 8) (k : ok_ X M (d + 1) (pc + 3) ts l ((0, if x < y then y else x) :: st) μ P) : ok_ X M (d + 1) pc ts l ((0, y) :: (0, x) :: st) μ P := by
  intro lv S h1 h2 h3 h4
  have hy := ab_sr_hd h2
  have hx := ab_sr_hd (ab_sr_tl h2)
  obtain ⟨v, r, μ', S', g1, g2⟩ := k lv S h1 (ab_sr_cons (by split; exact hy; exact hx) (ab_sr_tl (ab_sr_tl h2))) h3 h4
  refine ⟨v, r, μ', S', jg_obj hd (r := ab_sv ((0, if x < y then y else x) :: st)) ?_ g1, g2⟩
  show (if 1 ≤ d + 1 ∧ ((ab_sv st).map fun v => v.category).sum ≤ 8 then (match jp_max (jm_q M) idx with
    | some _ => some (Value.int (if Int32.ofInt x < Int32.ofInt y then Int32.ofInt y else Int32.ofInt x) :: ab_sv st)
    | none => _) else none) = some (Value.int (Int32.ofInt (if x < y then y else x)) :: ab_sv st)
  rw [if_pos ⟨by omega, hc⟩, hk]
  dsimp only
  congr 3
  by_cases h : x < y
  · rw [if_pos h, if_pos ((ab_lt hx hy).mpr h)]
  · rw [if_neg h, if_neg (fun h9 => h ((ab_lt hx hy).mp h9))]
theorem ok_min {idx : Nat} {x y : Int} (hd : decode M.2.1 pc = .ok (.invokestatic idx, 3)) (hm : jp_max (jm_q M) idx = none) (hk : jp_min (jm_q M) idx = some ()) (hc : ((ab_sv st).map fun v => v.category).sum ≤ 8) (k : ok_ X M (d + 1) (pc + 3) ts l ((0, if y < x then y else x) :: st) μ P) : ok_ X M (d + 1) pc ts l ((0, y) :: (0, x) :: st) μ P := by
  intro lv S h1 h2 h3 h4
  have hy := ab_sr_hd h2
  have hx := ab_sr_hd (ab_sr_tl h2)
  obtain ⟨v, r, μ', S', g1, g2⟩ := k lv S h1 (ab_sr_cons (by split; exact hy; exact hx) (ab_sr_tl (ab_sr_tl h2))) h3 h4
  refine ⟨v, r, μ', S', jg_obj hd (r := ab_sv ((0, if y < x then y else x) :: st)) ?_ g1, g2⟩
  show (if 1 ≤ d + 1 ∧ ((ab_sv st).map fun v => v.category).sum ≤ 8 then (match jp_max (jm_q M) idx with
    | some _ => _
    | none => match jp_min (jm_q M) idx with
      | some _ => some (Value.int (if Int32.ofInt y < Int32.ofInt x then Int32.ofInt y else Int32.ofInt x) :: ab_sv st)
      | none => none) else none) = some (Value.int (Int32.ofInt (if y < x then y else x)) :: ab_sv st)
  rw [if_pos ⟨by omega, hc⟩, hm, hk]
  dsimp only
  congr 3
  by_cases h : y < x
  · rw [if_pos h, if_pos ((ab_lt hy hx).mpr h)]
  · rw [if_neg h, if_neg (fun h9 => h ((ab_lt hy hx).mp h9))]
end OK8
