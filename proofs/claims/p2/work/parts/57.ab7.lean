/-! THE ABSTRACT MACHINE, part 7: calls, ends, switches, constants of the pool, tables -/
/-- a method's arguments: types of its locals, their values -/
def ab_en : Nat → List (Nat × Int) → List (Nat × Nat)
  | _, [] => []
  | i, q :: r => (i, q.1) :: ab_en (if q.1 = 1 then i + 2 else i + 1) r
def ab_xs : List (Nat × Int) → List Int
  | [] => []
  | q :: r => if q.1 = 1 then q.2 :: 0 :: ab_xs r else q.2 :: ab_xs r
def ab_la (xs : List Int) : ab_l := fun n => xs.getD n 0
def ab_rs (t : Option FieldType) (r : Int) : List (Nat × Int) := match t with
  | none => []
  | some .long => [(1, r)]
  | some _ => [(0, r)]
theorem ab_args_get : ∀ (as : List (Nat × Int)) (i n t : Nat) (ys : List Int), (∀ q ∈ as, q.1 < 3) → (∀ q ∈ as, ab_rg q.1 q.2) → ys.length = i → ab_ty (ab_en i as) n = some t → jm_get (lv_args i (ab_sv as)) n = some (ab_v t ((ys ++ ab_xs as).getD n 0)) ∧ ab_rg t ((ys ++ ab_xs as).getD n 0) ∧ t < 3 ∧ i ≤ n := by
  intro as
  induction as with
  | nil => intro i n t ys h1 h2 h3 h; cases h
  | cons q r ih =>
    intro i n t ys h1 h2 h3 h
    have hq := h1 q List.mem_cons_self
    have hc := ab_cat q.2 hq
    show jm_get ((i, ab_v q.1 q.2) :: lv_args (if (ab_v q.1 q.2).category = 2 then i + 2 else i + 1) (ab_sv r)) n = _ ∧ _
    have hi : (if (ab_v q.1 q.2).category = 2 then i + 2 else i + 1) = if q.1 = 1 then i + 2 else i + 1 := by
      rw [hc]
      by_cases h9 : q.1 = 1
      · rw [if_pos h9, if_pos rfl, if_pos h9]
      · rw [if_neg h9, if_neg (by decide), if_neg h9]
    rw [hi]
    unfold ab_en ab_ty at h
    by_cases hn : i = n
    · subst hn
      rw [Nat.beq_refl] at h
      cases h
      have hx : (ys ++ ab_xs (q :: r)).getD i 0 = q.2 := by
        unfold ab_xs
        split
        · rw [List.getD_eq_getElem?_getD, List.getElem?_append_right (by omega)]
          simp [h3]
        · rw [List.getD_eq_getElem?_getD, List.getElem?_append_right (by omega)]
          simp [h3]
      rw [hx]
      refine ⟨by simp [jm_get], h2 q List.mem_cons_self, hq, Nat.le_refl _⟩
    · have e : Nat.beq i n = false := ab_bne hn
      rw [e] at h
      dsimp only [cond_false] at h
      have hne : (i == n) = false := by simpa using hn
      by_cases h9 : q.1 = 1
      · rw [if_pos h9] at h ⊢
        have := ih (i + 2) n t (ys ++ [q.2, 0]) (fun x hx => h1 x (List.mem_cons_of_mem _ hx)) (fun x hx => h2 x (List.mem_cons_of_mem _ hx)) (by simp [h3]) h
        obtain ⟨g1, g2, g3, g4⟩ := this
        have ex : ys ++ [q.2, 0] ++ ab_xs r = ys ++ ab_xs (q :: r) := by
          conv => rhs; unfold ab_xs
          rw [if_pos h9]
          simp
        rw [ex] at g1 g2
        refine ⟨?_, g2, g3, by omega⟩
        unfold jm_get at g1 ⊢
        rw [List.find?_cons]
        dsimp only
        rw [hne]
        exact g1
      · rw [if_neg h9] at h ⊢
        have := ih (i + 1) n t (ys ++ [q.2]) (fun x hx => h1 x (List.mem_cons_of_mem _ hx)) (fun x hx => h2 x (List.mem_cons_of_mem _ hx)) (by simp [h3]) h
        obtain ⟨g1, g2, g3, g4⟩ := this
        have ex : ys ++ [q.2] ++ ab_xs r = ys ++ ab_xs (q :: r) := by
          conv => rhs; unfold ab_xs
          rw [if_neg h9]
          simp
        rw [ex] at g1 g2
        refine ⟨?_, g2, g3, by omega⟩
        unfold jm_get at g1 ⊢
        rw [List.find?_cons]
        dsimp only
        rw [hne]
        exact g1
theorem ab_LR_args {as : List (Nat × Int)} (h1 : ∀ q ∈ as, q.1 < 3) (h2 : ∀ q ∈ as, ab_rg q.1 q.2) : ab_LR (ab_ty (ab_en 0 as)) (ab_la (ab_xs as)) (lv_args 0 (ab_sv as)) := by
  intro n t ht
  obtain ⟨g1, g2, g3, -⟩ := ab_args_get as 0 n t [] h1 h2 rfl ht
  exact ⟨g1, g2, g3⟩
section OK7
variable {X : jm_X} {M N : jm_M} {d pc len : Nat} {i : Instr} {ts : ab_t} {l : ab_l} {st st0 st1 as : List (Nat × Int)} {μ : ab_m} {P : Int → ab_m → Prop}
theorem ab_sv_app (x y : List (Nat × Int)) : ab_sv (x ++ y) = ab_sv x ++ ab_sv y := List.map_append
theorem ab_sv_rev (x : List (Nat × Int)) : ab_sv x.reverse = (ab_sv x).reverse := List.map_reverse
theorem ab_sr_app {x y : List (Nat × Int)} (h : ab_sr (x ++ y)) : ab_sr x ∧ ab_sr y := ⟨fun q hq => h q (List.mem_append_left _ hq), fun q hq => h q (List.mem_append_right _ hq)⟩
theorem ab_rt_rs {t : Option FieldType} {r : Int} {v : Option Value} (hr : ab_rt t r v) : v.toList = ab_sv (ab_rs t r) ∧ ab_sr (ab_rs t r) := by
  cases t with
  | none =>
    have hr : v = none := hr
    rw [hr]
    exact ⟨rfl, fun q hq => by cases hq⟩
  | some ft =>
    by_cases h1 : ft = .long
    · subst h1
      have hr : v = some (.long (Int64.ofInt r)) ∧ ab_rg 1 r := hr
      rw [hr.1]
      exact ⟨rfl, ab_sr_cons hr.2 (fun q hq => by cases hq)⟩
    · have h2 : v = some (.int (Int32.ofInt r)) ∧ ab_rg 0 r ∧ ab_rs (some ft) r = [(0, r)] := by
        cases ft with
        | long => exact absurd rfl h1
        | boolean =>
          have hr : v = some (.int (Int32.ofInt r)) ∧ (0 ≤ r ∧ r ≤ 1) := hr
          refine ⟨hr.1, ?_, rfl⟩
          simp only [ab_rg]
          omega
        | _ => exact ⟨hr.1, hr.2, rfl⟩
      rw [h2.1, h2.2.2]
      exact ⟨rfl, ab_sr_cons h2.2.1 (fun q hq => by cases hq)⟩
theorem ab_inv_back {S : jm_S} {lv : jm_L} {v1 : Option Value} {μ1 : ab_m} {S1 : jm_S} {r : Int} {k : Nat} (hl : ab_LR ts l lv) (hs : ab_sr st) (hlim : S.1 ≤ jm_lim) (hr : ab_rt N.2.2.2.1 r v1) (e1 : S1.1 = S.1) (hR1 : ab_R μ1 S1) (hd : decode M.2.1 pc = .ok (i, 3)) {as1 : List Value} (hq : jm_inv M i 3 (ab_sv st0) S = some (N, k, as1, ab_sv st)) (hb : jm_goes X N d 0 (lv_args 0 as1) [] S v1 S1 0 0)
    (k : ok_ X M (d + 1) (pc + 3) ts l (ab_rs N.2.2.2.1 r ++ st) μ1 P) : ∃ (v : Option Value) (r : Int) (μ' : ab_m) (S' : jm_S), jm_goes X M (d + 1) pc lv (ab_sv st0) S v S' 0 0 ∧ ab_rt M.2.2.2.1 r v ∧ S'.1 = S.1 ∧ ab_R μ' S' ∧ P r μ' := by
  have hv := ab_rt_rs hr
  obtain ⟨v, r', μ', S', g1, g2, g3, g4, g5⟩ := k lv S1 hl (by
    intro q hq
    rcases List.mem_append.mp hq with hq | hq
    · exact hv.2 q hq
    · exact hs q hq) hR1 (by omega)
  refine ⟨v, r', μ', S', ?_, g2, by omega, g4, g5⟩
  have g6 := jg_inv (k := 0) (j := 0) (lv := lv) (v := v) (S' := S') hd hq hb (by rw [hv.1, ← ab_sv_app]; exact g1)
  exact g6
/-- a call of a method of an object -/
theorem ok_inv {idx : Nat} {o : Int} (as : List (Nat × Int)) (hd : decode M.2.1 pc = .ok (.invokevirtual idx, 3)) (hN : jp_M (jm_q M) idx = some (N, 0)) (hn : jm_n N = as.length) (ho : ab_is (jm_q N) o) (hst : st0 = as.reverse ++ (2, o) :: st) (hc : ((ab_sv st).map fun v => v.category).sum ≤ 8) (hl : (lg_sl (ab_sv ((2, o) :: as))).length ≤ N.2.2.1) (ht : ∀ q ∈ as, q.1 < 3)
    (k : ok_ X N d 0 (ab_ty (ab_en 0 ((2, o) :: as))) (ab_la (ab_xs ((2, o) :: as))) [] μ fun r μ' => ok_ X M (d + 1) (pc + 3) ts l (ab_rs N.2.2.2.1 r ++ st) μ' P) : ok_ X M (d + 1) pc ts l st0 μ P := by
  subst hst
  obtain ⟨a, rfl, ha, hL, hc13⟩ := ab_is_L ho
  intro lv S h1 h2 h3 h4
  obtain ⟨s1, s2⟩ := ab_sr_app h2
  have hsr : ∀ q ∈ ((2, (a : Int)) :: as), ab_rg q.1 q.2 := by
    intro q hq
    rcases List.mem_cons.mp hq with rfl | hq
    · trivial
    · exact s1 q (List.mem_reverse.mpr hq)
  have htt : ∀ q ∈ ((2, (a : Int)) :: as), q.1 < 3 := by
    intro q hq
    rcases List.mem_cons.mp hq with rfl | hq
    · show 2 < 3
      decide
    · exact ht q hq
  obtain ⟨v1, r, μ1, S1, g1, g2, g3, g4, g5⟩ := k (lv_args 0 (ab_sv ((2, (a : Int)) :: as))) S (ab_LR_args htt hsr) (fun q hq => by cases hq) h3 h4
  have e0 : ab_sv ((2, (a : Int)) :: as) = .ref a :: ab_sv as := by
    show (if (a : Int) < 0 then Value.null else Value.ref (a : Int).toNat) :: ab_sv as = _
    rw [if_neg (by omega), Int.toNat_natCast]
  have e1 : ab_sv (as.reverse ++ (2, (a : Int)) :: st) = (ab_sv as).reverse ++ .ref a :: ab_sv st := by
    rw [ab_sv_app, ab_sv_rev]
    show (ab_sv as).reverse ++ (if (a : Int) < 0 then Value.null else Value.ref (a : Int).toNat) :: ab_sv st = _
    rw [if_neg (by omega), Int.toNat_natCast]
  have e2 : (ab_sv as).reverse.length = jm_n N := by rw [List.length_reverse, hn]; exact List.length_map _
  refine ab_inv_back h1 (ab_sr_tl s2) h4 g2 g3 g4 hd (k := 0) (as1 := ab_sv ((2, (a : Int)) :: as)) ?_ g1 g5
  rw [e0] at hl ⊢
  rw [e1]
  generalize hst : (ab_sv as).reverse ++ Value.ref a :: ab_sv st = stk
  have d1 : stk.drop (jm_n N) = Value.ref a :: ab_sv st := by rw [← hst, ← e2, List.drop_left]
  have d2 : (stk.take (jm_n N)).reverse = ab_sv as := by rw [← hst, ← e2, List.take_left, List.reverse_reverse]
  simp only [jm_inv, hN, d1, d2]
  rw [if_pos ⟨Nat.lt_of_lt_of_le ha h3.1, hc13, hc, hl⟩, h3.2.1 a ha, ab_cellO _ hL hc13]
  dsimp only
  rw [if_pos rfl]
/-- a call of a static method -/
theorem ok_invS {idx kd : Nat} (as : List (Nat × Int)) (hd : decode M.2.1 pc = .ok (.invokestatic idx, 3)) (hN : jp_M (jm_q M) idx = some (N, kd)) (hk : kd = 1 ∨ kd = 3) (hn : jm_n N = as.length) (hst : st0 = as.reverse ++ st) (hc : ((ab_sv st).map fun v => v.category).sum ≤ 8) (hl : (lg_sl (ab_sv as)).length ≤ N.2.2.1) (ht : ∀ q ∈ as, q.1 < 3)
    (k : ok_ X N d 0 (ab_ty (ab_en 0 as)) (ab_la (ab_xs as)) [] μ fun r μ' => ok_ X M (d + 1) (pc + 3) ts l (ab_rs N.2.2.2.1 r ++ st) μ' P) : ok_ X M (d + 1) pc ts l st0 μ P := by
  subst hst
  intro lv S h1 h2 h3 h4
  obtain ⟨s1, s2⟩ := ab_sr_app h2
  obtain ⟨v1, r, μ1, S1, g1, g2, g3, g4, g5⟩ := k (lv_args 0 (ab_sv as)) S (ab_LR_args ht (fun q hq => s1 q (List.mem_reverse.mpr hq))) (fun q hq => by cases hq) h3 h4
  have e2 : (ab_sv as).reverse.length = jm_n N := by rw [List.length_reverse, hn]; exact List.length_map _
  refine ab_inv_back h1 s2 h4 g2 g3 g4 hd (k := kd) (as1 := ab_sv as) ?_ g1 g5
  rw [ab_sv_app, ab_sv_rev]
  generalize hst : (ab_sv as).reverse ++ ab_sv st = stk
  have d1 : stk.drop (jm_n N) = ab_sv st := by rw [← hst, ← e2, List.drop_left]
  have d2 : (stk.take (jm_n N)).reverse = ab_sv as := by rw [← hst, ← e2, List.take_left, List.reverse_reverse]
  simp only [jm_inv, hN, d1, d2]
  rw [if_pos ⟨hk, by rw [← hst, List.length_append]; omega, hc, hl⟩]
/-! ends -/
theorem ok_iret {r : Int} (hd : decode M.2.1 pc = .ok (.ireturn, 1)) (hM : M.2.2.2.1 = some .int) (k : P r μ) : ok_ X M d pc ts l [(0, r)] μ P := by
  intro lv S h1 h2 h3 h4
  refine ⟨some (.int (Int32.ofInt r)), r, μ, S, jg_ret hd (by rw [hM]; rfl), ?_, rfl, h3, k⟩
  rw [hM]
  exact ⟨rfl, ab_sr_hd h2⟩
theorem ok_zret {r : Int} (hd : decode M.2.1 pc = .ok (.ireturn, 1)) (hM : M.2.2.2.1 = some .boolean) (hr : 0 ≤ r ∧ r ≤ 1) (k : P r μ) : ok_ X M d pc ts l [(0, r)] μ P := by
  intro lv S h1 h2 h3 h4
  refine ⟨some (.int (Int32.ofInt r)), r, μ, S, jg_ret hd ?_, ?_, rfl, h3, k⟩
  · rw [hM]
    have : r = 0 ∨ r = 1 := by omega
    rcases this with rfl | rfl <;> rfl
  · rw [hM]
    exact ⟨rfl, hr⟩
theorem ok_lret {r : Int} (hd : decode M.2.1 pc = .ok (.lreturn, 1)) (hM : M.2.2.2.1 = some .long) (k : P r μ) : ok_ X M d pc ts l [(1, r)] μ P := by
  intro lv S h1 h2 h3 h4
  refine ⟨some (.long (Int64.ofInt r)), r, μ, S, jg_ret hd (by rw [hM]; rfl), ?_, rfl, h3, k⟩
  rw [hM]
  exact ⟨rfl, ab_sr_hd h2⟩
theorem ok_vret (hd : decode M.2.1 pc = .ok (.return_, 1)) (hM : M.2.2.2.1 = none) (k : P 0 μ) : ok_ X M d pc ts l [] μ P := by
  intro lv S h1 h2 h3 h4
  refine ⟨none, 0, μ, S, jg_ret hd (by rw [hM]; rfl), ?_, rfl, h3, k⟩
  rw [hM]
  rfl
end OK7
