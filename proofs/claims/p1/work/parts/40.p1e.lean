/-! PROMISE 1's ROW, part 5: every script of at most four ints -/
theorem p1_nil (ρ : js_R) : js_true ρ ([], []) := ⟨fun _ h => (List.not_mem_nil h).elim, fun _ h => (List.not_mem_nil h).elim⟩
def p1_G (X : jm_X) : Prop := ∃ (S0 : Nat → jm_c) (S' : jm_S) (k j : Nat), jm_goesL X mL_law 20 0 [(0, .ref 1000000)] [] (0, S0) (some (.int 1)) S' k j ∧ k ≤ 600002 ∧ j ≤ 7302232
theorem p1_one {ρ : js_R} {X : jm_X} {c : q1_C} (hA : js_true ρ c.2.1) (hX : js_scr ρ X (some c.1)) (hm : jf_true ρ c.2.2) (hc : p1_chk c = true) : p1_G X := by
  unfold p1_chk at hc
  split at hc
  · rename_i x D' c' k' hr
    simp only [Bool.and_eq_true, decide_eq_true_eq] at hc
    obtain ⟨hx, h1, h2⟩ := hc
    subst hx
    obtain ⟨a, b, e1, e2, h3⟩ := js_law_ok hA hX (jf_mac_ok X hm) 5000 _ _ _ _ _ _ _ _ _ _ _ _ _ _ _ jde_ok_1 hr
    obtain ⟨a0, b0, e3, e4, h4⟩ := js_law_ok (p1_nil ρ) (L := none) (X := X) (fun l h => by cases h) (js_mno_ok ρ X) 23 _ _ _ _ _ _ _ _ _ _ _ _ _ _ _ jde_ok_1 p1_pre
    have h5 := h4 _ _ _ _ h3
    have q1 := Nat.le_of_ble_eq_true h1
    have q2 := Nat.le_of_ble_eq_true h2
    exact ⟨(js_abs ρ []).2, _, _, _, h5, by omega, by omega⟩
  · cases hc
def q1_ct (ρ : js_R) (l : List (Nat × Nat × Int × Bool)) : Prop := ∀ r ∈ l, ∀ q, js_qn q = r.1 → jm_cc q (ρ.1 r.2.1) (Int32.ofInt r.2.2.1) = r.2.2.2
theorem q1_ct_nil (ρ : js_R) : q1_ct ρ [] := fun r h => by cases h
theorem q1_ct_app {ρ : js_R} {l m : List (Nat × Nat × Int × Bool)} (h1 : q1_ct ρ l) (h2 : q1_ct ρ m) : q1_ct ρ (l ++ m) := fun r hr => (List.mem_append.mp hr).elim (h1 r) (h2 r)
section Q1
variable {ρ : js_R} {k : Nat} {c : Int}
theorem q1_lt_ok (h : ρ.1 k < Int32.ofInt c) : q1_ct ρ (q1_lt k c) := by
  intro r hr q hq
  rcases List.mem_cons.mp hr with rfl | hr
  · cases q <;> first | exact decide_eq_true h | (simp [js_qn] at hq; done)
  · rcases List.mem_cons.mp hr with rfl | hr
    · cases q <;> first | exact decide_eq_false (Int32.not_le.mpr h) | (simp [js_qn] at hq; done)
    · cases hr
theorem q1_ge_ok (h : ¬ ρ.1 k < Int32.ofInt c) : q1_ct ρ (q1_ge k c) := by
  intro r hr q hq
  rcases List.mem_cons.mp hr with rfl | hr
  · cases q <;> first | exact decide_eq_false h | (simp [js_qn] at hq; done)
  · rcases List.mem_cons.mp hr with rfl | hr
    · cases q <;> first | exact decide_eq_true (Int32.not_lt.mp h) | (simp [js_qn] at hq; done)
    · cases hr
theorem q1_gt_ok (h : Int32.ofInt c < ρ.1 k) : q1_ct ρ (q1_gt k c) := by
  intro r hr q hq
  rcases List.mem_cons.mp hr with rfl | hr
  · cases q <;> first | exact decide_eq_true h | (simp [js_qn] at hq; done)
  · rcases List.mem_cons.mp hr with rfl | hr
    · cases q <;> first | exact decide_eq_false (Int32.not_le.mpr h) | (simp [js_qn] at hq; done)
    · cases hr
theorem q1_le_ok (h : ¬ Int32.ofInt c < ρ.1 k) : q1_ct ρ (q1_le k c) := by
  intro r hr q hq
  rcases List.mem_cons.mp hr with rfl | hr
  · cases q <;> first | exact decide_eq_false h | (simp [js_qn] at hq; done)
  · rcases List.mem_cons.mp hr with rfl | hr
    · cases q <;> first | exact decide_eq_true (Int32.not_lt.mp h) | (simp [js_qn] at hq; done)
    · cases hr
theorem q1_eq_ok {b : Bool} (h : decide (ρ.1 k = Int32.ofInt c) = b) : q1_ct ρ (q1_eq k c b) := by
  intro r hr q hq
  rcases List.mem_cons.mp hr with rfl | hr
  · cases q <;> first | exact h | (simp [js_qn] at hq; done)
  · rcases List.mem_cons.mp hr with rfl | hr
    · cases q <;> first | (subst h; exact decide_not) | (simp [js_qn] at hq; done)
    · cases hr
end Q1
theorem q1_lo (a : Nat → Int32) {k : Nat} (h : k < 10) : (q1_ρ a).1 k = a k := if_pos h
section Q1A
variable {a : Nat → Int32}
theorem q1_lt_a (k : Nat) (c : Int) (hk : k < 10) (h : a k < Int32.ofInt c) : q1_ct (q1_ρ a) (q1_lt k c) := q1_lt_ok (by rw [q1_lo a hk]; exact h)
theorem q1_ge_a (k : Nat) (c : Int) (hk : k < 10) (h : ¬ a k < Int32.ofInt c) : q1_ct (q1_ρ a) (q1_ge k c) := q1_ge_ok (by rw [q1_lo a hk]; exact h)
theorem q1_gt_a (k : Nat) (c : Int) (hk : k < 10) (h : Int32.ofInt c < a k) : q1_ct (q1_ρ a) (q1_gt k c) := q1_gt_ok (by rw [q1_lo a hk]; exact h)
theorem q1_le_a (k : Nat) (c : Int) (hk : k < 10) (h : ¬ Int32.ofInt c < a k) : q1_ct (q1_ρ a) (q1_le k c) := q1_le_ok (by rw [q1_lo a hk]; exact h)
end Q1A
theorem q1_scr {ρ : js_R} {X : jm_X} {v0 v1 v2 v3 : js_V} (hX : X.1 = 4) (h0 : js_v ρ v0 = .int (X.2 0)) (h1 : js_v ρ v1 = .int (X.2 1)) (h2 : js_v ρ v2 = .int (X.2 2)) (h3 : js_v ρ v3 = .int (X.2 3)) : js_scr ρ X (some (q1_s v0 v1 v2 v3)) := by
  intro l hl
  cases hl
  refine ⟨hX, fun j v hv => ?_⟩
  match j, hv with
  | 0, hv => have hv : some v0 = some v := hv; cases hv; exact h0
  | 1, hv => have hv : some v1 = some v := hv; cases hv; exact h1
  | 2, hv => have hv : some v2 = some v := hv; cases hv; exact h2
  | 3, hv => have hv : some v3 = some v := hv; cases hv; exact h3
  | j + 4, hv => have hv : none = some v := hv; cases hv
theorem q1_k_ok (a : Nat → Int32) {i : Nat} (h : a 0 &&& Int32.ofInt 15 = Int32.ofNat i) : js_fact (q1_ρ a) (q1_k i) := congrArg (fun z => some (Value.int z)) h
section Q1G
variable {a : Nat → Int32} {i w : Nat} {f : List (Nat × Nat × Int × Bool)}
theorem q1_plain_go (h : a 0 &&& Int32.ofInt 15 = Int32.ofNat i) (hf : q1_ct (q1_ρ a) f) (hc : p1_chk (q1_plain i f) = true) : p1_G (4, a) :=
  p1_one (ρ := q1_ρ a) (c := q1_plain i f) ⟨hf, List.forall_mem_cons.mpr ⟨q1_k_ok a h, fun _ h => by cases h⟩⟩ (q1_scr rfl rfl rfl rfl rfl) (fun r h => by cases h) hc
theorem q1_lit1_go (h : a 0 &&& Int32.ofInt 15 = Int32.ofNat i) (hw : a 1 = Int32.ofNat w) (hf : q1_ct (q1_ρ a) f) (hc : p1_chk (q1_lit1 i w f) = true) : p1_G (4, a) :=
  p1_one (ρ := q1_ρ a) (c := q1_lit1 i w f) ⟨hf, List.forall_mem_cons.mpr ⟨q1_k_ok a h, fun _ h => by cases h⟩⟩ (q1_scr rfl rfl (congrArg Value.int hw.symm) rfl rfl) (fun r h => by cases h) hc
theorem q1_out_go {l m : List (Nat × Nat × Int × Bool)} (h : a 0 &&& Int32.ofInt 15 = Int32.ofNat 0) (hl : q1_ct (q1_ρ a) l) (hm : q1_ct (q1_ρ a) m) (hc : p1_chk (q1_out l m) = true) : p1_G (4, a) :=
  p1_one (ρ := q1_ρ a) (c := q1_out l m) ⟨q1_ct_app hl hm, List.forall_mem_cons.mpr ⟨q1_k_ok a h, q1_row_ok a⟩⟩ (q1_scr rfl rfl rfl rfl rfl) (fun r h => by cases h) hc
theorem q1_feed_go {n m : Nat} (h : a 0 &&& Int32.ofInt 15 = Int32.ofNat 0) (hn : n ≤ 8) (h3 : a 3 = Int32.ofNat n) (hm : ∀ k, k < min (m + 1) n → jf_fine ((q1_ρ a).1 (20 + k)) = Nat.blt k m) (hc : p1_chk (q1_feed n m) = true) : p1_G (4, a) := by
  refine p1_one (ρ := q1_ρ a) (c := q1_feed n m) ⟨q1_ct_nil _, List.forall_mem_cons.mpr ⟨q1_k_ok a h, fun r hr => ?_⟩⟩ (q1_scr rfl rfl rfl rfl (congrArg Value.int h3.symm)) (fun r hr => ?_) hc
  · rcases List.mem_append.mp hr with hr | hr
    · exact q1_row_ok a r hr
    · obtain ⟨k, hk, hr⟩ := List.mem_flatMap.mp hr
      exact q1_byte_ok a k (by have := List.mem_range.mp hk; omega) r hr
  · obtain ⟨k, hk, rfl⟩ := List.mem_map.mp hr
    have hk := List.mem_range.mp hk
    refine ⟨?_, hm k hk⟩
    show Nat.blt (20 + k) 100 = true
    rw [Nat.blt_eq]
    omega
end Q1G
theorem p1_r {c : q1_C} (i : Nat) (h : q1_rest[i]? = some c) : p1_chk c = true := p1_rest c (List.mem_of_getElem? h)
theorem q1_lt01 {x : Int32} (h : x < Int32.ofInt 1) : ¬ Int32.ofInt 0 < x := by
  intro h2
  have e1 : x.toInt < 1 := Int32.lt_iff_toInt_lt.mp h
  have e2 : 0 < x.toInt := Int32.lt_iff_toInt_lt.mp h2
  omega
theorem q1_gt08 {x : Int32} (h : Int32.ofInt 8 < x) : Int32.ofInt 0 < x := by
  have e1 : 8 < x.toInt := Int32.lt_iff_toInt_lt.mp h
  exact Int32.lt_iff_toInt_lt.mpr (show 0 < x.toInt by omega)
theorem p1_feed_all {a : Nat → Int32} (h : a 0 &&& Int32.ofInt 15 = Int32.ofNat 0) : p1_G (4, a) := by
  by_cases h1 : a 3 < Int32.ofInt 1
  · exact q1_out_go (l := q1_lt 3 1) (m := q1_le 3 0) h (q1_lt_a 3 1 (by decide) h1) (q1_le_a 3 0 (by decide) (q1_lt01 h1)) (p1_r 0 rfl)
  · by_cases h2 : Int32.ofInt 8 < a 3
    · exact q1_out_go (l := q1_ge 3 1) (m := q1_gt 3 8 ++ q1_gt 3 0) h (q1_ge_a 3 1 (by decide) h1) (q1_ct_app (q1_gt_a 3 8 (by decide) h2) (q1_gt_a 3 0 (by decide) (q1_gt08 h2))) (p1_r 1 rfl)
    · obtain ⟨n, hn, h3⟩ := q1_small (a 3) h1 h2
      obtain ⟨m, hm, hp⟩ := q1_first (fun k => jf_fine ((q1_ρ a).1 (20 + k))) (n + 1)
      refine q1_feed_go (n := n + 1) (m := m) h (by omega) h3 hp (p1_feeds _ ?_)
      exact List.mem_flatMap.mpr ⟨n, List.mem_range.mpr hn, List.mem_map.mpr ⟨m, List.mem_range.mpr (by omega), rfl⟩⟩
theorem p1_flag {a : Nat → Int32} {i j : Nat} (h : a 0 &&& Int32.ofInt 15 = Int32.ofNat i) (h1 : q1_rest[j]? = some (q1_plain i (q1_eq 1 0 true))) (h2 : q1_rest[j + 1]? = some (q1_plain i (q1_eq 1 0 false))) : p1_G (4, a) := by
  cases hb : decide ((q1_ρ a).1 1 = Int32.ofInt 0) with
  | true => exact q1_plain_go (f := q1_eq 1 0 true) h (q1_eq_ok hb) (p1_r j h1)
  | false => exact q1_plain_go (f := q1_eq 1 0 false) h (q1_eq_ok hb) (p1_r (j + 1) h2)
theorem p1_run3 {a : Nat → Int32} {w : Nat} (j : Nat) (h : a 0 &&& Int32.ofInt 15 = Int32.ofNat 12) (hw : a 1 = Int32.ofNat w) (h1 : q1_rest[j]? = some (q1_lit1 12 w (q1_lt 2 0))) (h2 : q1_rest[j + 1]? = some (q1_lit1 12 w (q1_ge 2 0 ++ q1_gt 2 100000))) (h3 : q1_rest[j + 2]? = some (q1_lit1 12 w (q1_ge 2 0 ++ q1_le 2 100000))) : p1_G (4, a) := by
  by_cases e1 : a 2 < Int32.ofInt 0
  · exact q1_lit1_go (f := q1_lt 2 0) h hw (q1_lt_a 2 0 (by decide) e1) (p1_r j h1)
  · by_cases e2 : Int32.ofInt 100000 < a 2
    · exact q1_lit1_go (f := q1_ge 2 0 ++ q1_gt 2 100000) h hw (q1_ct_app (q1_ge_a 2 0 (by decide) e1) (q1_gt_a 2 100000 (by decide) e2)) (p1_r (j + 1) h2)
    · exact q1_lit1_go (f := q1_ge 2 0 ++ q1_le 2 100000) h hw (q1_ct_app (q1_ge_a 2 0 (by decide) e1) (q1_le_a 2 100000 (by decide) e2)) (p1_r (j + 2) h3)
theorem p1_four (a : Nat → Int32) : p1_G (4, a) := by
  obtain ⟨i, hi, h⟩ := q1_kind (a 0)
  match i, hi, h with
  | 0, _, h => exact p1_feed_all h
  | 1, _, h => exact q1_plain_go (f := []) h (q1_ct_nil _) (p1_r 2 rfl)
  | 2, _, h => exact q1_plain_go (f := []) h (q1_ct_nil _) (p1_r 3 rfl)
  | 3, _, h => exact q1_plain_go (f := []) h (q1_ct_nil _) (p1_r 4 rfl)
  | 4, _, h => exact q1_plain_go (f := []) h (q1_ct_nil _) (p1_r 5 rfl)
  | 5, _, h => exact p1_flag (j := 12) h rfl rfl
  | 6, _, h => exact q1_plain_go (f := []) h (q1_ct_nil _) (p1_r 6 rfl)
  | 7, _, h => exact q1_plain_go (f := []) h (q1_ct_nil _) (p1_r 7 rfl)
  | 8, _, h => exact p1_flag (j := 14) h rfl rfl
  | 9, _, h => exact q1_plain_go (f := []) h (q1_ct_nil _) (p1_r 8 rfl)
  | 10, _, h => exact q1_plain_go (f := []) h (q1_ct_nil _) (p1_r 9 rfl)
  | 11, _, h => exact q1_plain_go (f := []) h (q1_ct_nil _) (p1_r 10 rfl)
  | 12, _, h =>
    by_cases e1 : a 1 < Int32.ofInt 0
    · exact q1_plain_go (f := q1_lt 1 0) h (q1_lt_a 1 0 (by decide) e1) (p1_r 16 rfl)
    · by_cases e2 : Int32.ofInt 3 < a 1
      · exact q1_plain_go (f := q1_ge 1 0 ++ q1_gt 1 3) h (q1_ct_app (q1_ge_a 1 0 (by decide) e1) (q1_gt_a 1 3 (by decide) e2)) (p1_r 17 rfl)
      · obtain ⟨w, hw, hv⟩ := q1_upto (a 1) 3 (by omega) e1 e2
        match w, hw, hv with
        | 0, _, hv => exact p1_run3 18 h hv rfl rfl rfl
        | 1, _, hv => exact p1_run3 21 h hv rfl rfl rfl
        | 2, _, hv => exact p1_run3 24 h hv rfl rfl rfl
        | 3, _, hv => exact p1_run3 27 h hv rfl rfl rfl
        | w + 4, hw, _ => exact absurd hw (by omega)
  | 13, _, h =>
    by_cases e1 : a 1 < Int32.ofInt 0
    · exact q1_plain_go (f := q1_lt 1 0) h (q1_lt_a 1 0 (by decide) e1) (p1_r 30 rfl)
    · exact q1_plain_go (f := q1_ge 1 0) h (q1_ge_a 1 0 (by decide) e1) (p1_r 31 rfl)
  | 14, _, h =>
    by_cases e1 : a 1 < Int32.ofInt 0
    · exact q1_plain_go (f := q1_lt 1 0) h (q1_lt_a 1 0 (by decide) e1) (p1_r 32 rfl)
    · by_cases e2 : Int32.ofInt 7 < a 1
      · exact q1_plain_go (f := q1_ge 1 0 ++ q1_gt 1 7) h (q1_ct_app (q1_ge_a 1 0 (by decide) e1) (q1_gt_a 1 7 (by decide) e2)) (p1_r 33 rfl)
      · obtain ⟨w, hw, hv⟩ := q1_upto (a 1) 7 (by omega) e1 e2
        match w, hw, hv with
        | 0, _, hv => exact q1_lit1_go (f := []) h hv (q1_ct_nil _) (p1_r 34 rfl)
        | 1, _, hv => exact q1_lit1_go (f := []) h hv (q1_ct_nil _) (p1_r 35 rfl)
        | 2, _, hv => exact q1_lit1_go (f := []) h hv (q1_ct_nil _) (p1_r 36 rfl)
        | 3, _, hv => exact q1_lit1_go (f := []) h hv (q1_ct_nil _) (p1_r 37 rfl)
        | 4, _, hv => exact q1_lit1_go (f := []) h hv (q1_ct_nil _) (p1_r 38 rfl)
        | 5, _, hv => exact q1_lit1_go (f := []) h hv (q1_ct_nil _) (p1_r 39 rfl)
        | 6, _, hv => exact q1_lit1_go (f := []) h hv (q1_ct_nil _) (p1_r 40 rfl)
        | 7, _, hv => exact q1_lit1_go (f := []) h hv (q1_ct_nil _) (p1_r 41 rfl)
        | w + 8, hw, _ => exact absurd hw (by omega)
  | 15, _, h => exact q1_plain_go (f := []) h (q1_ct_nil _) (p1_r 11 rfl)
  | i + 16, hi, _ => exact absurd hi (by omega)
theorem p1_less (a : Nat → Int32) (n : Nat) (hn : n < 4) : p1_G (n, a) := by
  refine p1_one (ρ := q1_ρ a) (c := p1_short n) (p1_nil _) ?_ (fun r h => by cases h) (p1_len n hn)
  intro l hl
  cases hl
  refine ⟨by simp [p1_short], fun j v hv => ?_⟩
  obtain ⟨k, hk, rfl⟩ := List.getElem?_map.symm.trans hv |> (Option.map_eq_some_iff.mp ·)
  obtain ⟨h1, h2⟩ := List.getElem?_eq_some_iff.mp hk
  rw [List.getElem_range] at h2
  subst h2
  rw [List.length_range] at h1
  match j, h1 with
  | 0, _ => rfl
  | 1, _ => rfl
  | 2, _ => rfl
  | j + 3, h1 =>
    have : j = 0 := by omega
    subst this
    rfl
/-- every script of at most four ints -/
theorem p1_go (a : Nat → Int32) (n : Nat) (hn : n ≤ 4) : p1_G (n, a) := by
  by_cases h : n < 4
  · exact p1_less a n h
  · have : n = 4 := by omega
    subst this
    exact p1_four a
