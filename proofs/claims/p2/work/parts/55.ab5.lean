/-! THE ABSTRACT MACHINE, part 5: cells -/
def ab_mu (μ : ab_m) (o j v : Int) : ab_m := fun a i => if a = o ∧ i = j then v else μ a i
def ab_arr (t n : Nat) (a : Int) : Prop := ∃ k : Nat, a = (k : Int) ∧ k < 180 ∧ ab_L k = (100 + t, n)
theorem ab_is_L {ci : Nat} {o : Int} (h : ab_is ci o) : ∃ k : Nat, o = (k : Int) ∧ k < 180 ∧ ab_L k = (ci, 0) ∧ ci < 13 := by
  unfold ab_is at h
  split at h
  all_goals first | exact h.elim | skip
  all_goals first
    | (rcases h with rfl | rfl <;> exact ⟨_, rfl, by decide, rfl, by decide⟩)
    | (subst h; exact ⟨_, rfl, by decide, rfl, by decide⟩)
theorem ab_offs : ∀ k, k < 180 → (ab_L k).1 < 100 → ∀ q ∈ ab_F (ab_L k).1, q.1 = 3 → 0 ≤ (k : Int) + q.2 := by decide +kernel
/-- a field: its type on the stack, its value -/
def ab_ft (ci j : Nat) : Nat := match ((ab_F ci).getD j (0, 0)).1 with
  | 0 => 0
  | 1 => 1
  | 4 => 0
  | _ => 2
def ab_fv (ci j : Nat) (o : Int) (μ : ab_m) : Int := match (ab_F ci).getD j (0, 0) with
  | (3, q) => o + q
  | _ => μ o j
theorem ab_cellO {k ci : Nat} (f : Int → Int) (hL : ab_L k = (ci, 0)) (hc : ci < 13) : ab_cell k f = .inr (ci, (ab_F ci).mapIdx (ab_fl k f)) := by
  unfold ab_cell
  rw [hL]
  rw [if_neg (by show ¬ ci = 101; omega), if_neg (by show ¬ 100 ≤ ci; omega)]
theorem ab_tgO {k ci j : Nat} {q : Nat × Int} (hL : ab_L k = (ci, 0)) (hc : ci < 13) (hj : (ab_F ci)[j]? = some q) : ab_tg k (j : Int) = q.1 := by
  unfold ab_tg
  rw [hL]
  rw [if_neg (by show ¬ 100 ≤ ci; omega)]
  show ((ab_F ci).getD (j : Int).toNat (2, 0)).1 = q.1
  rw [Int.toNat_natCast, List.getD_eq_getElem?_getD, hj]
  rfl
theorem ab_tags : ∀ ci, ci < 13 → ∀ q ∈ ab_F ci, q.1 = 0 ∨ q.1 = 2 ∨ q.1 = 3 ∨ q.1 = 4 := by decide +kernel
section OK5
variable {X : jm_X} {M : jm_M} {d pc len : Nat} {i : Instr} {ts : ab_t} {l : ab_l} {st st0 st1 : List (Nat × Int)} {μ : ab_m} {P : Int → ab_m → Prop}
theorem ok_get {idx ci j fin : Nat} {o : Int} {q : Nat × Int} (hd : decode M.2.1 pc = .ok (.getfield idx, 3)) (hf : jp_F (jm_q M) idx = some (ci, j, fin)) (hq : (ab_F ci)[j]? = some q) (ho : ab_is ci o) (k : ok_ X M d (pc + 3) ts l ((ab_ft ci j, ab_fv ci j o μ) :: st) μ P) : ok_ X M d pc ts l ((2, o) :: st) μ P := by
  obtain ⟨a, rfl, ha, hL, hc⟩ := ab_is_L ho
  refine ok_step hd (fun lv S x b c _ => ?_) k
  obtain ⟨c1, c2, c3⟩ := c
  have hqm : q ∈ ab_F ci := List.mem_of_getElem? hq
  have hg : (ab_F ci).getD j (0, 0) = q := by rw [List.getD_eq_getElem?_getD, hq]; rfl
  have hrg := c3 a (j : Int) ha
  rw [ab_tgO hL hc hq] at hrg
  have hval : ab_fl a (μ a) j q = ab_v (ab_ft ci j) (ab_fv ci j a μ) ∧ ab_rg (ab_ft ci j) (ab_fv ci j a μ) := by
    unfold ab_ft ab_fv ab_fl
    rw [hg]
    have h3 := ab_offs a ha (by rw [hL]; show ci < 100; omega) q (by rw [hL]; exact hqm)
    obtain ⟨t, z⟩ := q
    rcases ab_tags ci hc _ hqm with h | h | h | h
    · dsimp only at h hrg; subst h
      exact ⟨rfl, hrg⟩
    · dsimp only at h hrg; subst h
      exact ⟨rfl, trivial⟩
    · dsimp only at h hrg; subst h
      refine ⟨?_, trivial⟩
      have h4 := h3 rfl
      dsimp only at h4
      show Value.ref ((a : Int) + z).toNat = if (a : Int) + z < 0 then Value.null else Value.ref ((a : Int) + z).toNat
      rw [if_neg (by omega)]
    · dsimp only at h hrg; subst h
      refine ⟨rfl, ?_⟩
      have hrg : 0 ≤ μ a j ∧ μ a j ≤ 1 := hrg
      show -2147483648 ≤ μ a j ∧ μ a j ≤ 2147483647
      omega
  refine ⟨lv, S, ?_, x, ab_sr_cons hval.2 (ab_sr_tl b), ⟨c1, c2, c3⟩, rfl⟩
  have e1 : ab_sv ((2, (a : Int)) :: st) = .ref a :: ab_sv st := by
    show (if (a : Int) < 0 then Value.null else Value.ref (a : Int).toNat) :: ab_sv st = _
    rw [if_neg (by omega), Int.toNat_natCast]
  rw [e1]
  show (match (match jp_F (jm_q M) idx with
    | some f => if a < S.1 then (match S.2 a with
      | .inr o => if o.1 = f.1 then (match o.2[f.2.1]? with
        | some v => some (v :: ab_sv st, S, 0, 0)
        | none => none) else none
      | .inl _ => none) else none
    | none => none) with
    | some q => some (pc + 3, lv, q.1, q.2.1, q.2.2.1, q.2.2.2)
    | none => _) = _
  rw [hf]
  dsimp only
  rw [if_pos (by omega), c2 a ha, ab_cellO _ hL hc]
  dsimp only
  rw [if_pos rfl, List.getElem?_mapIdx, hq]
  dsimp only [Option.map_some]
  rw [hval.1]
  rfl
theorem ab_put_R {S : jm_S} {a ci j : Nat} {q : Nat × Int} {v : Int} (c : ab_R μ S) (ha : a < 180) (hL : ab_L a = (ci, 0)) (hc : ci < 13) (hq : (ab_F ci)[j]? = some q) (h3 : q.1 ≠ 3) (hv : ab_rg q.1 v) : ab_R (ab_mu μ a j v) (jm_up S a (.inr (ci, ((ab_F ci).mapIdx (ab_fl a (μ a))).set j (ab_v q.1 v)))) := by
  obtain ⟨c1, c2, c3⟩ := c
  refine ⟨c1, fun k hk => ?_, fun k i hk => ?_⟩
  · show va_up S.2 a _ k = _
    unfold va_up
    by_cases hka : k = a
    · subst hka
      rw [if_pos rfl, ab_cellO _ hL hc]
      congr 2
      apply List.ext_getElem?
      intro n
      rw [List.getElem?_set, List.getElem?_mapIdx, List.getElem?_mapIdx]
      by_cases hn : j = n
      · subst hn
        rw [if_pos rfl, List.length_mapIdx, if_pos (List.getElem?_eq_some_iff.mp hq).1, hq]
        show some (ab_v q.1 v) = some (ab_fl k (ab_mu μ k j v k) j q)
        unfold ab_fl ab_mu
        rw [if_neg h3, if_pos ⟨rfl, rfl⟩]
      · rw [if_neg hn]
        cases h9 : (ab_F ci)[n]? with
        | none => rfl
        | some p =>
          show some (ab_fl k (μ k) n p) = some (ab_fl k (ab_mu μ k j v k) n p)
          unfold ab_fl ab_mu
          rw [if_neg (c := (k : Int) = (k : Int) ∧ (n : Int) = (j : Int)) (by omega)]
    · rw [if_neg hka, c2 k hk]
      congr 1
      funext i
      unfold ab_mu
      rw [if_neg (by omega)]
  · unfold ab_mu
    split
    · rename_i h
      have : k = a := by omega
      subst this
      rw [h.2, ab_tgO hL hc hq]
      exact hv
    · exact c3 k i hk
theorem ok_put {idx ci j t : Nat} {o v : Int} {q : Nat × Int} (hd : decode M.2.1 pc = .ok (.putfield idx, 3)) (hf : jp_F (jm_q M) idx = some (ci, j, 0)) (hq : (ab_F ci)[j]? = some q) (h3 : q.1 ≠ 3) (ho : ab_is ci o) (hv : ab_rg t v → ab_rg q.1 v ∧ ab_v t v = ab_v q.1 v ∧ jm_fit (jp_ty ci j) (ab_v q.1 v) = true) (k : ok_ X M d (pc + 3) ts l st (ab_mu μ o j v) P) : ok_ X M d pc ts l ((t, v) :: (2, o) :: st) μ P := by
  obtain ⟨a, rfl, ha, hL, hc⟩ := ab_is_L ho
  refine ok_step hd (fun lv S x b c _ => ?_) k
  obtain ⟨v1, v2, v3⟩ := hv (ab_sr_hd b)
  have hR := ab_put_R c ha hL hc hq h3 v1
  obtain ⟨c1, c2, c3⟩ := c
  refine ⟨lv, _, ?_, x, ab_sr_tl (ab_sr_tl b), hR, rfl⟩
  have e1 : ab_sv ((t, v) :: (2, (a : Int)) :: st) = ab_v q.1 v :: .ref a :: ab_sv st := by
    show ab_v t v :: (if (a : Int) < 0 then Value.null else Value.ref (a : Int).toNat) :: ab_sv st = _
    rw [if_neg (by omega), Int.toNat_natCast, v2]
  rw [e1]
  show (match (match jp_F (jm_q M) idx with
    | some f => if a < S.1 ∧ (f.2.2 = 0 ∨ (M.2.2.2.2.2.2 = 1 ∧ jm_q M = f.1)) ∧ jm_fit (jp_ty f.1 f.2.1) (ab_v q.1 v) = true then (match S.2 a with
      | .inr o => if o.1 = f.1 ∧ f.2.1 < o.2.length then some (ab_sv st, jm_up S a (.inr (o.1, o.2.set f.2.1 (ab_v q.1 v))), 0, 0) else none
      | .inl _ => none) else none
    | none => none) with
    | some q => some (pc + 3, lv, q.1, q.2.1, q.2.2.1, q.2.2.2)
    | none => _) = _
  rw [hf]
  dsimp only
  rw [if_pos ⟨by omega, Or.inl rfl, v3⟩, c2 a ha, ab_cellO _ hL hc]
  dsimp only
  rw [if_pos ⟨rfl, by rw [List.length_mapIdx]; exact (List.getElem?_eq_some_iff.mp hq).1⟩]
theorem ok_puti {idx ci j : Nat} {o v : Int} (hd : decode M.2.1 pc = .ok (.putfield idx, 3)) (hf : jp_F (jm_q M) idx = some (ci, j, 0)) (hq : (ab_F ci)[j]? = some (0, 0)) (hy : jp_ty ci j = .int) (ho : ab_is ci o) (k : ok_ X M d (pc + 3) ts l st (ab_mu μ o j v) P) : ok_ X M d pc ts l ((0, v) :: (2, o) :: st) μ P :=
  ok_put hd hf hq (by decide) ho (fun h => ⟨h, rfl, by rw [hy]; rfl⟩) k
theorem ok_putz {idx ci j : Nat} {o v : Int} (hd : decode M.2.1 pc = .ok (.putfield idx, 3)) (hf : jp_F (jm_q M) idx = some (ci, j, 0)) (hq : (ab_F ci)[j]? = some (4, 0)) (hy : jp_ty ci j = .boolean) (ho : ab_is ci o) (hv : 0 ≤ v ∧ v ≤ 1) (k : ok_ X M d (pc + 3) ts l st (ab_mu μ o j v) P) : ok_ X M d pc ts l ((0, v) :: (2, o) :: st) μ P := by
  refine ok_put hd hf hq (by decide) ho (fun h => ⟨hv, rfl, ?_⟩) k
  rw [hy]
  have : v = 0 ∨ v = 1 := by omega
  rcases this with rfl | rfl <;> rfl
theorem ok_puta {idx ci j : Nat} {o v : Int} (hd : decode M.2.1 pc = .ok (.putfield idx, 3)) (hf : jp_F (jm_q M) idx = some (ci, j, 0)) (hq : (ab_F ci)[j]? = some (2, 0)) (hy : (∃ s, jp_ty ci j = .object s) ∨ (∃ s, jp_ty ci j = .array s)) (ho : ab_is ci o) (hv : 0 ≤ v) (k : ok_ X M d (pc + 3) ts l st (ab_mu μ o j v) P) : ok_ X M d pc ts l ((2, v) :: (2, o) :: st) μ P := by
  refine ok_put hd hf hq (by decide) ho (fun h => ⟨trivial, rfl, ?_⟩) k
  have e : ab_v 2 v = .ref v.toNat := by
    show (if v < 0 then Value.null else Value.ref v.toNat) = _
    rw [if_neg (by omega)]
  show jm_fit (jp_ty ci j) (ab_v 2 v) = true
  rw [e]
  rcases hy with ⟨s, hy⟩ | ⟨s, hy⟩ <;> rw [hy] <;> rfl
end OK5
