/-! THE ABSTRACT MACHINE, part 10: words for the blocks -/
theorem ab_is_nn {ci : Nat} {o : Int} (h : ab_is ci o) : 0 ≤ o := by
  obtain ⟨k, rfl, -⟩ := ab_is_L h
  omega
theorem ab_arr_nn {t n : Nat} {a : Int} (h : ab_arr t n a) : 0 ≤ a := by
  obtain ⟨k, rfl, -⟩ := h
  omega
def ab_cs (st : List (Nat × Int)) : Nat := (st.map fun q => bif Nat.beq q.1 1 then 2 else 1).sum
def ab_t3 (st : List (Nat × Int)) : Bool := st.all fun q => Nat.blt q.1 3
theorem ab_t3_ok {st : List (Nat × Int)} (h : ab_t3 st = true) : ∀ q ∈ st, q.1 < 3 := by
  intro q hq
  have := List.all_eq_true.mp h q hq
  exact Nat.le_of_ble_eq_true this
theorem ab_cats {st : List (Nat × Int)} (h : ∀ q ∈ st, q.1 < 3) : ((ab_sv st).map fun v => v.category).sum = ab_cs st := by
  induction st with
  | nil => rfl
  | cons q r ih =>
    show (ab_v q.1 q.2).category + ((ab_sv r).map fun v => v.category).sum = (bif Nat.beq q.1 1 then 2 else 1) + ab_cs r
    rw [ih (fun x hx => h x (List.mem_cons_of_mem _ hx)), ab_cat q.2 (h q List.mem_cons_self)]
    congr 1
    by_cases h1 : q.1 = 1
    · rw [if_pos h1, h1]
      rfl
    · rw [if_neg h1, ab_bne h1]
      rfl
theorem ab_lgl {st : List (Nat × Int)} (h : ∀ q ∈ st, q.1 < 3) : (lg_sl (ab_sv st)).length = ab_cs st := by
  rw [← ab_cats h]
  unfold lg_sl
  induction st with
  | nil => rfl
  | cons q r ih =>
    have ih' := ih (fun x hx => h x (List.mem_cons_of_mem _ hx))
    have e : ab_sv (q :: r) = ab_v q.1 q.2 :: ab_sv r := rfl
    rw [e, List.flatMap_cons, List.length_append, List.map_cons, List.sum_cons, ih']
    congr 1
    have hc := ab_cat q.2 (h q List.mem_cons_self)
    by_cases h1 : q.1 = 1
    · rw [if_pos h1] at hc
      simp [hc]
    · rw [if_neg h1] at hc
      simp [hc]
/-- what is looked at before a call -/
def ab_ik (as st : List (Nat × Int)) (n : Nat) : Bool := ab_t3 as && (ab_t3 st && (Nat.ble (ab_cs st) 8 && Nat.ble (ab_cs as) n))
theorem ab_ik_ok {as st : List (Nat × Int)} {n : Nat} (h : ab_ik as st n = true) : (∀ q ∈ as, q.1 < 3) ∧ ((ab_sv st).map fun v => v.category).sum ≤ 8 ∧ (lg_sl (ab_sv as)).length ≤ n := by
  unfold ab_ik at h
  simp only [Bool.and_eq_true] at h
  obtain ⟨h1, h2, h3, h4⟩ := h
  refine ⟨ab_t3_ok h1, ?_, ?_⟩
  · rw [ab_cats (ab_t3_ok h2)]
    exact Nat.le_of_ble_eq_true h3
  · rw [ab_lgl (ab_t3_ok h1)]
    exact Nat.le_of_ble_eq_true h4
section OKA
variable {X : jm_X} {M N : jm_M} {d pc len : Nat} {i : Instr} {ts : ab_t} {l : ab_l} {st st0 st1 : List (Nat × Int)} {μ : ab_m} {P : Int → ab_m → Prop}
theorem ok_iv {idx : Nat} {o : Int} (as : List (Nat × Int)) (hd : decode M.2.1 pc = .ok (.invokevirtual idx, 3)) (hN : jp_M (jm_q M) idx = some (N, 0)) (hn : jm_n N = as.length) (ho : ab_is (jm_q N) o) (hst : st0 = as.reverse ++ (2, o) :: st) (hb : ab_ik ((2, o) :: as) st N.2.2.1 = true)
    (k : ok_ X N d 0 (ab_ty (ab_en 0 ((2, o) :: as))) (ab_la (ab_xs ((2, o) :: as))) [] μ fun r μ' => ok_ X M (d + 1) (pc + 3) ts l (ab_rs N.2.2.2.1 r ++ st) μ' P) : ok_ X M (d + 1) pc ts l st0 μ P := by
  obtain ⟨h1, h2, h3⟩ := ab_ik_ok hb
  exact ok_inv as hd hN hn ho hst h2 h3 (fun q hq => h1 q (List.mem_cons_of_mem _ hq)) k
theorem ok_is {idx kd : Nat} (as : List (Nat × Int)) (hd : decode M.2.1 pc = .ok (.invokestatic idx, 3)) (hN : jp_M (jm_q M) idx = some (N, kd)) (hk : (Nat.beq kd 1 || Nat.beq kd 3) = true) (hn : jm_n N = as.length) (hst : st0 = as.reverse ++ st) (hb : ab_ik as st N.2.2.1 = true)
    (k : ok_ X N d 0 (ab_ty (ab_en 0 as)) (ab_la (ab_xs as)) [] μ fun r μ' => ok_ X M (d + 1) (pc + 3) ts l (ab_rs N.2.2.2.1 r ++ st) μ' P) : ok_ X M (d + 1) pc ts l st0 μ P := by
  obtain ⟨h1, h2, h3⟩ := ab_ik_ok hb
  refine ok_invS as hd hN ?_ hn hst h2 h3 h1 k
  simpa using hk
theorem ok_mx {idx : Nat} {x y : Int} (hd : decode M.2.1 pc = .ok (.invokestatic idx, 3)) (hk : jp_max (jm_q M) idx = some ()) (hb : ab_ik [] st 0 = true) (k : ok_ X M (d + 1) (pc + 3) ts l ((0, if x < y then y else x) :: st) μ P) : ok_ X M (d + 1) pc ts l ((0, y) :: (0, x) :: st) μ P :=
  ok_max hd hk (ab_ik_ok hb).2.1 k
theorem ok_mn {idx : Nat} {x y : Int} (hd : decode M.2.1 pc = .ok (.invokestatic idx, 3)) (hm : jp_max (jm_q M) idx = none) (hk : jp_min (jm_q M) idx = some ()) (hb : ab_ik [] st 0 = true) (k : ok_ X M (d + 1) (pc + 3) ts l ((0, if y < x then y else x) :: st) μ P) : ok_ X M (d + 1) pc ts l ((0, y) :: (0, x) :: st) μ P :=
  ok_min hd hm hk (ab_ik_ok hb).2.1 k
theorem ok_ac {idx : Nat} {a sp b dp n : Int} {n0 n1 t : Nat} (hd : decode M.2.1 pc = .ok (.invokestatic idx, 3)) (hk : jp_A (jm_q M) idx = some ()) (hb : ab_ik [] st 0 = true) (ht : (Nat.beq t 0 || Nat.beq t 1) = true) (ha : ab_arr t n0 a) (hb2 : ab_arr t n1 b) (hg : 0 ≤ sp ∧ 0 ≤ dp ∧ 0 ≤ n ∧ sp + n ≤ n0 ∧ dp + n ≤ n1)
    (k : ∀ μ1, μ1 = ab_cp μ a sp b dp n → ok_ X M (d + 1) (pc + 3) ts l st μ1 P) : ok_ X M (d + 1) pc ts l ((0, n) :: (0, dp) :: (2, b) :: (0, sp) :: (2, a) :: st) μ P :=
  ok_cp hd hk (ab_ik_ok hb).2.1 (by simpa using ht) ha hb2 hg (k _ rfl)
def ab_rb (t : Nat) (x : Int) : Bool := match t with
  | 0 => decide (-2147483648 ≤ x) && decide (x ≤ 2147483647)
  | _ => decide (-9223372036854775808 ≤ x) && decide (x ≤ 9223372036854775807)
theorem ab_rb0 {x : Int} (h : ab_rb 0 x = true) : ab_rg 0 x := by
  simp only [ab_rb, Bool.and_eq_true, decide_eq_true_eq] at h
  exact h
theorem ab_rb1 {x : Int} (h : ab_rb 1 x = true) : ab_rg 1 x := by
  simp only [ab_rb, Bool.and_eq_true, decide_eq_true_eq] at h
  exact h
theorem ok_iasM {a i v : Int} {n : Nat} (hd : decode M.2.1 pc = .ok (.iastore, 1)) (ha : ab_arr 0 n a) (hi : 0 ≤ i ∧ i < n) (k : ∀ μ1, μ1 = ab_mu μ a i v → ok_ X M d (pc + 1) ts l st μ1 P) : ok_ X M d pc ts l ((0, v) :: (0, i) :: (2, a) :: st) μ P := ok_iast hd ha hi (k _ rfl)
theorem ok_lasM {a i v : Int} {n : Nat} (hd : decode M.2.1 pc = .ok (.lastore, 1)) (ha : ab_arr 1 n a) (hi : 0 ≤ i ∧ i < n) (k : ∀ μ1, μ1 = ab_mu μ a i v → ok_ X M d (pc + 1) ts l st μ1 P) : ok_ X M d pc ts l ((1, v) :: (0, i) :: (2, a) :: st) μ P := ok_last hd ha hi (k _ rfl)
theorem ok_zasM {a i v : Int} {n : Nat} (hd : decode M.2.1 pc = .ok (.bastore, 1)) (ha : ab_arr 2 n a) (hi : 0 ≤ i ∧ i < n) (k : ∀ μ1, μ1 = ab_mu μ a i (v % 2) → ok_ X M d (pc + 1) ts l st μ1 P) : ok_ X M d pc ts l ((0, v) :: (0, i) :: (2, a) :: st) μ P := ok_zast hd ha hi (k _ rfl)
theorem ok_basM {a i v : Int} {n : Nat} (hd : decode M.2.1 pc = .ok (.bastore, 1)) (ha : ab_arr 3 n a) (hi : 0 ≤ i ∧ i < n) (k : ∀ μ1, μ1 = ab_mu μ a i (ab_b v) → ok_ X M d (pc + 1) ts l st μ1 P) : ok_ X M d pc ts l ((0, v) :: (0, i) :: (2, a) :: st) μ P := ok_bast hd ha hi (k _ rfl)
theorem ok_ptiM {idx ci j : Nat} {o v : Int} (hd : decode M.2.1 pc = .ok (.putfield idx, 3)) (hf : jp_F (jm_q M) idx = some (ci, j, 0)) (hq : (ab_F ci)[j]? = some (0, 0)) (hy : jp_ty ci j = .int) (ho : ab_is ci o) (k : ∀ μ1, μ1 = ab_mu μ o j v → ok_ X M d (pc + 3) ts l st μ1 P) : ok_ X M d pc ts l ((0, v) :: (2, o) :: st) μ P := ok_puti hd hf hq hy ho (k _ rfl)
theorem ok_ptzM {idx ci j : Nat} {o v : Int} (hd : decode M.2.1 pc = .ok (.putfield idx, 3)) (hf : jp_F (jm_q M) idx = some (ci, j, 0)) (hq : (ab_F ci)[j]? = some (4, 0)) (hy : jp_ty ci j = .boolean) (ho : ab_is ci o) (hv : 0 ≤ v ∧ v ≤ 1) (k : ∀ μ1, μ1 = ab_mu μ o j v → ok_ X M d (pc + 3) ts l st μ1 P) : ok_ X M d pc ts l ((0, v) :: (2, o) :: st) μ P := ok_putz hd hf hq hy ho hv (k _ rfl)
theorem ok_ptaM {idx ci j : Nat} {o v : Int} (hd : decode M.2.1 pc = .ok (.putfield idx, 3)) (hf : jp_F (jm_q M) idx = some (ci, j, 0)) (hq : (ab_F ci)[j]? = some (2, 0)) (hy : (∃ s, jp_ty ci j = .object s) ∨ (∃ s, jp_ty ci j = .array s)) (ho : ab_is ci o) (hv : 0 ≤ v) (k : ∀ μ1, μ1 = ab_mu μ o j v → ok_ X M d (pc + 3) ts l st μ1 P) : ok_ X M d pc ts l ((2, v) :: (2, o) :: st) μ P := ok_puta hd hf hq hy ho hv (k _ rfl)
def ab_ln (x : Int) : List (Int × Int) → Prop
  | [] => True
  | q :: r => x ≠ q.1 ∧ ab_ln x r
theorem ab_ln_of {x : Int} : ∀ {ps : List (Int × Int)}, (∀ q ∈ ps, x ≠ q.1) → ab_ln x ps := by
  intro ps
  induction ps with
  | nil => intro _; trivial
  | cons q r ih => intro h; exact ⟨h q List.mem_cons_self, ih (fun p hp => h p (List.mem_cons_of_mem _ hp))⟩
theorem ok_lsx {dflt x : Int} {ps : Array (Int × Int)} {dp : Nat} (hd : decode M.2.1 pc = .ok (.lookupswitch dflt ps, len)) (hso : (ps.toList.zip (ps.toList.drop 1)).all (fun (a, next) => a.1 < next.1) = true) (hok : (dflt :: ps.toList.map (fun q => q.2)).all (jm_ok pc) = true) (hp : jm_at pc dflt = dp)
    (k : ab_lw pc x (fun pc' => ok_ X M d pc' ts l st μ P) ps.toList ∧ (ab_ln x ps.toList → ok_ X M d dp ts l st μ P)) : ok_ X M d pc ts l ((0, x) :: st) μ P :=
  ok_lsw hd hso hok hp ⟨k.1, fun h => k.2 (ab_ln_of h)⟩
theorem ab_upd (l : ab_l) (n : Nat) (x : Int) (m : Nat) : ab_up l n x m = if m = n then x else l m := rfl
theorem ab_mud (μ : ab_m) (o j v a i : Int) : ab_mu μ o j v a i = if a = o ∧ i = j then v else μ a i := rfl
end OKA
