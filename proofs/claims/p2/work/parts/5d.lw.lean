/-! THE ABSTRACT MACHINE, part 13: throws, wrappers, the law -/
section LW
variable {X : jm_X} {M N : jm_M} {d pc len m : Nat} {i : Instr} {ts : ab_t} {l : ab_l} {st st0 st1 : List (Nat × Int)} {μ : ab_m} {P : Int → ab_m → Prop} {T : Nat → Prop} {hh : jm_Hh}
/-- the call's own equation -/
theorem ab_invq {S : jm_S} {idx a : Nat} (as : List (Nat × Int)) (hN : jp_M (jm_q M) idx = some (N, 0)) (hn : jm_n N = as.length) (ha : a < 180) (hL : ab_L a = (jm_q N, 0)) (hc13 : jm_q N < 13) (h3 : ab_R μ S) (hc : ((ab_sv st).map fun v => v.category).sum ≤ 8) (hl : (lg_sl (ab_sv ((2, (a : Int)) :: as))).length ≤ N.2.2.1) : jm_inv M (.invokevirtual idx) 3 (ab_sv (as.reverse ++ (2, (a : Int)) :: st)) S = some (N, 0, ab_sv ((2, (a : Int)) :: as), ab_sv st) := by
  have e0 : ab_sv ((2, (a : Int)) :: as) = .ref a :: ab_sv as := by
    show (if (a : Int) < 0 then Value.null else Value.ref (a : Int).toNat) :: ab_sv as = _
    rw [if_neg (by omega), Int.toNat_natCast]
  have e1 : ab_sv (as.reverse ++ (2, (a : Int)) :: st) = (ab_sv as).reverse ++ .ref a :: ab_sv st := by
    rw [ab_sv_app, ab_sv_rev]
    show (ab_sv as).reverse ++ (if (a : Int) < 0 then Value.null else Value.ref (a : Int).toNat) :: ab_sv st = _
    rw [if_neg (by omega), Int.toNat_natCast]
  have e2 : (ab_sv as).reverse.length = jm_n N := by rw [List.length_reverse, hn]; exact List.length_map _
  rw [e0] at hl ⊢
  rw [e1]
  generalize hst : (ab_sv as).reverse ++ Value.ref a :: ab_sv st = stk
  have d1 : stk.drop (jm_n N) = Value.ref a :: ab_sv st := by rw [← hst, ← e2, List.drop_left]
  have d2 : (stk.take (jm_n N)).reverse = ab_sv as := by rw [← hst, ← e2, List.take_left, List.reverse_reverse]
  simp only [jm_inv, hN, d1, d2]
  rw [if_pos ⟨Nat.lt_of_lt_of_le ha h3.1, hc13, hc, hl⟩, h3.2.1 a ha, ab_cellO _ hL hc13]
  dsimp only
  rw [if_pos rfl]
theorem ab_argr {o : Int} {as : List (Nat × Int)} (ht : ∀ q ∈ as, q.1 < 3) (h2 : ab_sr (as.reverse ++ (2, o) :: st)) : (∀ q ∈ ((2, o) :: as), q.1 < 3) ∧ (∀ q ∈ ((2, o) :: as), ab_rg q.1 q.2) ∧ ab_sr st := by
  obtain ⟨s1, s2⟩ := ab_sr_app h2
  refine ⟨fun q hq => ?_, fun q hq => ?_, ab_sr_tl s2⟩
  · rcases List.mem_cons.mp hq with rfl | hq
    · show 2 < 3
      decide
    · exact ht q hq
  · rcases List.mem_cons.mp hq with rfl | hq
    · trivial
    · exact s1 q (List.mem_reverse.mpr hq)
/-- the walk throws -/
def KT (X : jm_X) (M : jm_M) (d : Nat) (T : Nat → Prop) : Nat → jm_L → List Value → jm_S → Prop := fun pc lv st S => ∃ ex, ex < 3 ∧ jm_goesT X M d pc lv st S ex ∧ T ex
def ot_ (X : jm_X) (M : jm_M) (d pc : Nat) (ts : ab_t) (l : ab_l) (st : List (Nat × Int)) (μ : ab_m) (T : Nat → Prop) : Prop := og_ (KT X M d T) pc ts l st μ
theorem cT_ : cl_ true X M (KT X M d T) := by
  intro i len pc lv st S pc1 lv1 st1 S1 hd h1 h2 h3 ⟨ex, k1, k2, k3⟩
  obtain ⟨g1, rfl⟩ := h3 rfl
  exact ⟨ex, k1, jgT_step hd g1 k2, k3⟩
theorem ot_thr {ex : Nat} (hd : decode M.2.1 pc = .ok (i, len)) (hex : jm_thr M i len pc = some ex) (h3 : ex < 3) (h6 : 6 ≤ d) (hst : ((ab_sv st).map fun v => v.category).sum ≤ 4) (h : T ex) : og_ (KT X M d T) pc ts l st μ := fun _ _ _ _ _ _ => ⟨ex, h3, jgT_thr hd hex h6 hst, h⟩
theorem ot_thrW {ex : Nat} (hd : decode M.2.1 pc = .ok (i, len)) (hex : jm_thrW M i len pc = some ex) (h3 : ex < 3) (h6 : 6 ≤ d) (hst : ((ab_sv st).map fun v => v.category).sum ≤ 4) (h : T ex) : og_ (KT X M d T) pc ts l st μ := fun _ _ _ _ _ _ => ⟨ex, h3, jgT_thrW hd hex h6 hst, h⟩
theorem ot_iv {idx : Nat} {o : Int} (as : List (Nat × Int)) (hd : decode M.2.1 pc = .ok (.invokevirtual idx, 3)) (hN : jp_M (jm_q M) idx = some (N, 0)) (hn : jm_n N = as.length) (ho : ab_is (jm_q N) o) (hst : st0 = as.reverse ++ (2, o) :: st) (hb : ab_ik ((2, o) :: as) st N.2.2.1 = true)
    (k : ot_ X N d 0 (ab_ty (ab_en 0 ((2, o) :: as))) (ab_la (ab_xs ((2, o) :: as))) [] μ T) : og_ (KT X M (d + 1) T) pc ts l st0 μ := by
  obtain ⟨b1, b2, b3⟩ := ab_ik_ok hb
  subst hst
  obtain ⟨a, rfl, ha, hL, hc13⟩ := ab_is_L ho
  intro lv S h1 h2 h3 h4
  obtain ⟨q1, q2, q3⟩ := ab_argr (fun q hq => b1 q (List.mem_cons_of_mem _ hq)) h2
  obtain ⟨ex, k1, k2, k3⟩ := k _ S (ab_LR_args q1 q2) (fun q hq => by cases hq) h3 h4
  exact ⟨ex, k1, jgT_inv hd (ab_invq as hN hn ha hL hc13 h3 b2 b3) k2, k3⟩
/-- a wrapper's walk returns; at most one exception is made -/
def KW (X : jm_X) (M : jm_M) (hh : jm_Hh) (d : Nat) (P : Int → ab_m → Prop) : Nat → jm_L → List Value → jm_S → Prop := fun pc lv st S => ∃ (r : Int) (μ' : ab_m) (S' : jm_S) (k n : Nat), jm_goesW X M hh d pc lv st S (some (.int (Int32.ofInt r))) S' k n ∧ ab_rg 0 r ∧ ab_R μ' S' ∧ S'.1 ≤ S.1 + k ∧ k ≤ 1 ∧ n ≤ 6 ∧ P r μ'
theorem cW_ : cl_ true X M (KW X M hh d P) := by
  intro i len pc lv st S pc1 lv1 st1 S1 hd h1 h2 h3 ⟨r, μ', S', k, n, k1, k2⟩
  obtain ⟨g1, rfl⟩ := h3 rfl
  exact ⟨r, μ', S', k, n, jgW_step hd g1 k1, k2⟩
def jw_ (X : jm_X) (N : jm_M × jm_Hh) (d : Nat) (as : List (Nat × Int)) (μ : ab_m) (P : Int → ab_m → Prop) : Prop := ∀ S : jm_S, ab_R μ S → S.1 < jm_lim → (∀ q ∈ as, ab_rg q.1 q.2) → KW X N.1 N.2 d P 0 (lv_args 0 (ab_sv as)) [] S
theorem jw_ok {N : jm_M × jm_Hh} {as : List (Nat × Int)} (hr : N.1.2.2.2.1 = some .int) (ht : ∀ q ∈ as, q.1 < 3) (h : ok_ X N.1 d 0 (ab_ty (ab_en 0 as)) (ab_la (ab_xs as)) [] μ P) : jw_ X N d as μ P := by
  intro S h1 h2 h3
  obtain ⟨v, r, μ', S', g1, g2, g3, g4, g5⟩ := h _ S (ab_LR_args ht h3) (fun q hq => by cases hq) h1 (Nat.le_of_lt h2)
  rw [hr] at g2
  obtain ⟨rfl, g6⟩ : v = some (.int (Int32.ofInt r)) ∧ ab_rg 0 r := g2
  exact ⟨r, μ', S', 0, 0, g1.w _, g6, g4, by omega, by omega, by omega, g5⟩
theorem jw_thr {N : jm_M × jm_Hh} {as : List (Nat × Int)} (ht : ∀ q ∈ as, q.1 < 3) (h : og_ (KW X N.1 N.2 d P) 0 (ab_ty (ab_en 0 as)) (ab_la (ab_xs as)) [] μ) : jw_ X N d as μ P := fun S h1 h2 h3 => h _ S (ab_LR_args ht h3) (fun q hq => by cases hq) h1 h2
theorem ab_R_add {S : jm_S} {x : jm_c} (h : ab_R μ S) : ab_R μ (jm_add S x) := by
  obtain ⟨h1, h2, h3⟩ := h
  refine ⟨Nat.le_succ_of_le h1, fun k hk => ?_, h3⟩
  rw [← h2 k hk]
  show (if k = S.1 then x else S.2 k) = S.2 k
  rw [if_neg (by omega)]
theorem ow_iv {idx : Nat} {o : Int} (as : List (Nat × Int)) (hd : decode M.2.1 pc = .ok (.invokevirtual idx, 3)) (hN : jp_M (jm_q M) idx = some (N, 0)) (hn : jm_n N = as.length) (ho : ab_is (jm_q N) o) (hst : st0 = as.reverse ++ (2, o) :: st) (hb : ab_ik ((2, o) :: as) st N.2.2.1 = true) (h13 : jm_q M = 13) (hr : M.2.2.2.1 = some .int)
    (k : ot_ X N d 0 (ab_ty (ab_en 0 ((2, o) :: as))) (ab_la (ab_xs ((2, o) :: as))) [] μ fun ex => ∃ hp, jm_find hh pc ex = some hp ∧ ∀ x : Int, 0 ≤ x → ok_ X M (d + 1) hp ts l [(2, x)] μ P) : og_ (KW X M hh (d + 1) P) pc ts l st0 μ := by
  obtain ⟨b1, b2, b3⟩ := ab_ik_ok hb
  subst hst
  obtain ⟨a, rfl, ha, hL, hc13⟩ := ab_is_L ho
  intro lv S h1 h2 h3 h4
  obtain ⟨q1, q2, q3⟩ := ab_argr (fun q hq => b1 q (List.mem_cons_of_mem _ hq)) h2
  obtain ⟨ex, k1, k2, hp, k3, k4⟩ := k _ S (ab_LR_args q1 q2) (fun q hq => by cases hq) h3 h4
  obtain ⟨v, r, μ', S', g1, g2, g3, g4, g5⟩ := k4 S.1 (by omega) lv (jm_add S (.inr (jp_nobj + ex, []))) h1 (fun q hq => by rw [List.mem_singleton.mp hq]; trivial) (ab_R_add h3) h4
  rw [hr] at g2
  obtain ⟨rfl, g6⟩ : v = some (.int (Int32.ofInt r)) ∧ ab_rg 0 r := g2
  have e9 : ab_sv [(2, (S.1 : Int))] = [.ref S.1] := by
    show [if (S.1 : Int) < 0 then Value.null else Value.ref (S.1 : Int).toNat] = _
    rw [if_neg (by omega), Int.toNat_natCast]
  rw [e9] at g1
  have g3' : S'.1 = S.1 + 1 := g3
  exact ⟨r, μ', S', 1 + 0, 6 + 0, jgW_catch hd (ab_invq as hN hn ha hL hc13 h3 b2 b3) h4 h13 k1 k3 k2 g1, g6, g4, by omega, by omega, by omega, g5⟩
/-- the law's walk ends well; m: how many exceptions it may make yet -/
def KL (X : jm_X) (d m : Nat) : Nat → jm_L → List Value → jm_S → Prop := fun pc lv st S => S.1 + m < jm_lim → ∃ (S' : jm_S) (k n : Nat), jm_goesL X mL_law d pc lv st S (some (.int 1)) S' k n ∧ k ≤ m ∧ n ≤ 6 * m
theorem cL_ : cl_ false X mL_law (KL X d m) := by
  intro i len pc lv st S pc1 lv1 st1 S1 hd h1 h2 _ h3 h4
  obtain ⟨S', k, n, k1, k2, k3⟩ := h3 (by omega)
  exact ⟨S', 0 + k, 0 + n, jgL_step hd h1 k1, by omega, by omega⟩
theorem og_up (h : og_ (KL X d m) pc ts l st μ) : og_ (KL X d (m + 1)) pc ts l st μ := fun lv S a b c e h5 => by
  obtain ⟨S', k, n, k1, k2, k3⟩ := h lv S a b c e (by omega)
  exact ⟨S', k, n, k1, by omega, by omega⟩
theorem og_lret (hd : decode mL_law.2.1 pc = .ok (.ireturn, 1)) : og_ (KL X d m) pc ts l [(0, 1)] μ := fun lv S a b c e h5 => ⟨S, 0, 0, jgL_ret hd rfl, by omega, by omega⟩
theorem og_liv {idx : Nat} {o : Int} (as : List (Nat × Int)) (hd : decode mL_law.2.1 pc = .ok (.invokevirtual idx, 3)) (hN : jp_M (jm_q mL_law) idx = some (N, 0)) (hn : jm_n N = as.length) (ho : ab_is (jm_q N) o) (hst : st0 = as.reverse ++ (2, o) :: st) (hb : ab_ik ((2, o) :: as) st N.2.2.1 = true)
    (k : ok_ X N d 0 (ab_ty (ab_en 0 ((2, o) :: as))) (ab_la (ab_xs ((2, o) :: as))) [] μ fun r μ' => og_ (KL X (d + 1) m) (pc + 3) ts l (ab_rs N.2.2.2.1 r ++ st) μ') : og_ (KL X (d + 1) m) pc ts l st0 μ := by
  obtain ⟨b1, b2, b3⟩ := ab_ik_ok hb
  subst hst
  obtain ⟨a, rfl, ha, hL, hc13⟩ := ab_is_L ho
  intro lv S h1 h2 h3 h4 h5
  obtain ⟨q1, q2, q3⟩ := ab_argr (fun q hq => b1 q (List.mem_cons_of_mem _ hq)) h2
  obtain ⟨v1, r, μ1, S1, g1, g2, g3, g4, g5⟩ := k _ S (ab_LR_args q1 q2) (fun q hq => by cases hq) h3 (Nat.le_of_lt h4)
  have hv := ab_rt_rs g2
  obtain ⟨S', k, n, k1, k2, k3⟩ := g5 lv S1 h1 (by
    intro q hq
    rcases List.mem_append.mp hq with hq | hq
    · exact hv.2 q hq
    · exact q3 q hq) g4 (by omega) (by omega)
  exact ⟨S', 0 + k, 0 + n, jgL_inv hd (ab_invq as hN hn ha hL hc13 h3 b2 b3) g1 (by rw [hv.1, ← ab_sv_app]; exact k1), by omega, by omega⟩
/-- a call of a wrapper -/
theorem og_wv {N : jm_M × jm_Hh} {idx : Nat} (as : List (Nat × Int)) (hd : decode mL_law.2.1 pc = .ok (.invokestatic idx, 3)) (hN : jp_V idx = some N) (hn : jm_n N.1 = as.length) (hst : st0 = as.reverse ++ st) (hb : ab_ik as st N.1.2.2.1 = true)
    (k : jw_ X N d as μ fun r μ' => og_ (KL X (d + 1) m) (pc + 3) ts l ((0, r) :: st) μ') : og_ (KL X (d + 1) (m + 1)) pc ts l st0 μ := by
  obtain ⟨b1, b2, b3⟩ := ab_ik_ok hb
  subst hst
  intro lv S h1 h2 h3 h4 h5
  obtain ⟨s1, s2⟩ := ab_sr_app h2
  obtain ⟨r, μ', S', k1, n1, g1, g2, g3, g4, g5, g6, g7⟩ := k S h3 h4 fun q hq => s1 q (List.mem_reverse.mpr hq)
  obtain ⟨S'', k2, n2, e1, e2, e3⟩ := g7 lv S' h1 (ab_sr_cons g2 s2) g3 (by omega) (by omega)
  refine ⟨S'', k1 + k2, n1 + n2, jgL_winv (as := ab_sv as) (r := ab_sv st) hd ?_ g1 e1, by omega, by omega⟩
  have e2 : (ab_sv as).reverse.length = jm_n N.1 := by rw [List.length_reverse, hn]; exact List.length_map _
  rw [ab_sv_app, ab_sv_rev]
  generalize hst : (ab_sv as).reverse ++ ab_sv st = stk
  have d1 : stk.drop (jm_n N.1) = ab_sv st := by rw [← hst, ← e2, List.drop_left]
  have d2 : (stk.take (jm_n N.1)).reverse = ab_sv as := by rw [← hst, ← e2, List.take_left, List.reverse_reverse]
  have d3 : jm_n N.1 ≤ stk.length := by rw [← hst, List.length_append, ← e2]; omega
  show (if jm_q mL_law = 13 then (match jp_V idx with
    | some N => if jm_n N.1 ≤ stk.length ∧ ((stk.drop (jm_n N.1)).map fun v => v.category).sum ≤ 8 ∧ (lg_sl (stk.take (jm_n N.1)).reverse).length ≤ N.1.2.2.1 then some (N, (stk.take (jm_n N.1)).reverse, stk.drop (jm_n N.1)) else none
    | none => none) else none) = _
  rw [if_pos (show jm_q mL_law = 13 from rfl), hN]
  dsimp only
  rw [d1, d2, if_pos ⟨d3, b2, b3⟩]
/-- the script -/
noncomputable def ab_scr (X : jm_X) (i : Int) : Int := (X.2 i.toNat).toInt
theorem og_scr {j : Int} (hd : decode mL_law.2.1 pc = .ok (.iaload, 1)) (hi : 0 ≤ j ∧ j < X.1) (k : og_ (KL X d m) (pc + 1) ts l ((0, ab_scr X j) :: st) μ) : og_ (KL X d m) pc ts l ((0, j) :: (2, 1000000) :: st) μ := by
  refine og_step cL_ hd (fun h => by cases h) (fun lv S x b R hlim => ?_) k
  obtain ⟨h1, h2⟩ := ab_idx (n := X.1) hi.1 hi.2 (ab_sr_hd b)
  refine ⟨lv, S, ?_, x, ab_sr_cons (ab_rgI _) (ab_sr_tl (ab_sr_tl b)), R, rfl⟩
  rw [show (1000000 : Int) = ((1000000 : Nat) : Int) from rfl, ab_sv2]
  have hlim : S.1 ≤ 1000000 := hlim
  show (match (if 1000000 < S.1 then _ else (match jm_sa X 1000000 with
    | some x => (match jm_rs .iaload (Int32.ofInt j) x with
      | some v => some (v :: ab_sv st, S, 0, 0)
      | none => none)
    | none => none)) with
    | some q => some (pc + 1, lv, q.1, q.2.1, q.2.2.1, q.2.2.2)
    | none => _) = _
  rw [if_neg (by omega)]
  show (match (match (if jm_in (Int32.ofInt j) X.1 = true then some (Value.int (X.2 (Int32.ofInt j).toNatClampNeg)) else none) with
      | some v => some (v :: ab_sv st, S, 0, 0)
      | none => none) with
    | some q => some (pc + 1, lv, q.1, q.2.1, q.2.2.1, q.2.2.2)
    | none => _) = some (pc + 1, lv, Value.int (Int32.ofInt (ab_scr X j)) :: ab_sv st, S, 0, 0)
  unfold ab_scr
  rw [if_pos h1, h2, ab_ofI]
theorem og_scn (hd : decode mL_law.2.1 pc = .ok (.arraylength, 1)) (hX : X.1 ≤ 2048) (k : og_ (KL X d m) (pc + 1) ts l ((0, (X.1 : Int)) :: st) μ) : og_ (KL X d m) pc ts l ((2, 1000000) :: st) μ := by
  refine og_step cL_ hd (fun h => by cases h) (fun lv S x b R hlim => ?_) k
  refine ⟨lv, S, ?_, x, ab_sr_cons (by simp only [ab_rg]; omega) (ab_sr_tl b), R, rfl⟩
  have hlim : S.1 ≤ 1000000 := hlim
  show (match (if 1000000 < S.1 then _ else (match jm_sa X 1000000 with
    | some x => some (Value.int (Int32.ofNat x.2.1) :: ab_sv st, S, 0, 0)
    | none => none)) with
    | some q => some (pc + 1, lv, q.1, q.2.1, q.2.2.1, q.2.2.2)
    | none => _) = _
  rw [if_neg (by omega)]
  show some (pc + 1, lv, Value.int (Int32.ofNat X.1) :: ab_sv st, S, 0, 0) = some (pc + 1, lv, Value.int (Int32.ofInt (X.1 : Int)) :: ab_sv st, S, 0, 0)
  rw [Int32.ofInt_eq_ofNat]
end LW
