/-! THE LAW, part l91: the store behind both constructors, and the whole run -/
section L91
/-- the picture of the store behind both constructors -/
def mu0 : ab_m := fun a j => if a = 108 ∧ 0 ≤ j ∧ j < 300 then j else if a = 0 ∧ j = 3 then 16 else if a = 0 ∧ j = 4 then 26 else if (a = 0 ∧ j = 6) ∨ (a = 2 ∧ j = 2) ∨ (a = 3 ∧ j = 4) ∨ (a = 36 ∧ (j = 0 ∨ j = 1)) ∨ (a = 109 ∧ j = 45) then -1 else 0
theorem mu0_z {a j : Int} (h : a ≠ 108 ∧ a ≠ 0 ∧ a ≠ 2 ∧ a ≠ 3 ∧ a ≠ 36 ∧ a ≠ 109) : mu0 a j = 0 := by
  unfold mu0
  rw [if_neg (by omega), if_neg (by omega), if_neg (by omega), if_neg (by omega)]
def c0_ (k : Nat) (x : js_C) : Bool := match x with
  | .inl (t, n, us) => us.isEmpty && (!(Nat.beq k 108) && (!(Nat.beq k 0) && (!(Nat.beq k 2) && (!(Nat.beq k 3) && (!(Nat.beq k 36) && (!(Nat.beq k 109) && decide (ab_L k = (100 + t, n))))))))
  | .inr (ci, fs) => decide (ab_L k = (ci, 0)) && (Nat.blt ci 13 && decide (fs = ((ab_F ci).mapIdx (ab_fl k (mu0 k))).map Sum.inl))
theorem c0_ok {ρ : js_R} {k : Nat} {x : js_C} (h : c0_ k x = true) : js_c ρ x = ab_cell k (mu0 k) := by
  unfold c0_ at h
  split at h
  · rename_i t n us
    simp only [Bool.and_eq_true, Bool.not_eq_true', decide_eq_true_eq, List.isEmpty_iff] at h
    obtain ⟨h1, h2, h3, h4, h5, h6, h7, h8⟩ := h
    have ne : ∀ {a b : Nat}, Nat.beq a b = false → a ≠ b := fun {a b} e q => by rw [q, Nat.beq_refl] at e; cases e
    have q2 := ne h2; have q3 := ne h3; have q4 := ne h4; have q5 := ne h5; have q6 := ne h6; have q7 := ne h7
    have z : ∀ j : Int, mu0 (k : Int) j = 0 := fun j => mu0_z (by omega)
    subst h1
    unfold ab_cell
    rw [h8]
    show (if t = 1 then _ else _) = _
    by_cases t1 : t = 1
    · subst t1
      rw [if_pos rfl, if_pos rfl]
      have : (fun j : Nat => Int64.ofInt (mu0 (k : Int) (j : Int))) = fun _ => 0 := by funext j; rw [z]; rfl
      rw [this]
      rfl
    · rw [if_neg t1, if_neg (by show ¬ 100 + t = 101; omega), if_pos (by show 100 ≤ 100 + t; omega)]
      have : (fun j : Nat => Int32.ofInt (mu0 (k : Int) (j : Int))) = fun _ => 0 := by funext j; rw [z]; rfl
      rw [this]
      show Sum.inl (t, n, _) = Sum.inl (100 + t - 100, n, _)
      rw [show 100 + t - 100 = t by omega]
      rfl
  · rename_i ci fs
    simp only [Bool.and_eq_true, decide_eq_true_eq] at h
    obtain ⟨h1, h2, h3⟩ := h
    have c13 : ci < 13 := by simpa [Nat.blt_eq] using h2
    unfold ab_cell
    rw [h1, if_neg (by show ¬ ci = 101; omega), if_neg (by show ¬ 100 ≤ ci; omega)]
    show Sum.inr (ci, fs.map (js_v ρ)) = _
    rw [h3, List.map_map]
    congr 2
    exact (List.map_congr_left (fun x _ => rfl)).trans (List.map_id _)
theorem c0_all : (List.range 180).all (fun k => Nat.beq k 108 || (match p1_D1[k]? with
    | some x => c0_ k x
    | none => false)) = true := by decide +kernel
def us0 : List (Nat × js_V) := (List.range 300).reverse.map fun i => (i, p1i (i : Int))
theorem c0_108 : (match p1_D1[108]? with
    | some x => p1_ceq x (.inl (0, 300, us0))
    | none => false) = true := by decide +kernel
theorem c0_len : p1_D1.length = 180 := by decide +kernel
theorem us_fi (ρ : js_R) : ∀ (n j : Nat), js_fi ρ ((List.range n).reverse.map fun i => (i, p1i (i : Int))) j = if j < n then Int32.ofInt (j : Int) else 0 := by
  intro n
  induction n with
  | zero => intro j; rfl
  | succ n ih =>
    intro j
    rw [List.range_succ, List.reverse_append]
    show (if j = n then Int32.ofInt (n : Int) else js_fi ρ ((List.range n).reverse.map fun i => (i, p1i (i : Int))) j) = _
    rw [ih j]
    by_cases q : j = n
    · subst q; rw [if_pos rfl, if_pos (by omega)]
    · rw [if_neg q]
      by_cases w : j < n
      · rw [if_pos w, if_pos (by omega)]
      · rw [if_neg w, if_neg (by omega)]
theorem us_e (ρ : js_R) : js_fi ρ us0 = fun j : Nat => Int32.ofInt (mu0 108 (j : Int)) := by
  funext j
  unfold us0
  rw [us_fi ρ 300 j]
  unfold mu0
  by_cases w : j < 300
  · rw [if_pos w, if_pos (by omega)]
  · rw [if_neg w, if_neg (by omega), if_neg (by omega), if_neg (by omega), if_neg (by omega)]
    rfl
theorem c0_R (ρ : js_R) : ab_R mu0 (js_abs ρ p1_D1) := by
  refine ⟨by show 180 ≤ p1_D1.length; rw [c0_len]; decide, fun k hk => ?_, fun k j hk => ?_⟩
  · show (match p1_D1[k]? with
      | some x => js_c ρ x
      | none => .inr (0, [])) = _
    by_cases q : k = 108
    · subst q
      have h := c0_108
      split at h
      · rename_i x hx
        rw [p1_ceq_ok h]
        show Sum.inl (0, 300, Sum.inl (js_fi ρ us0)) = Sum.inl (0, 300, Sum.inl fun j : Nat => Int32.ofInt (mu0 108 (j : Int)))
        rw [us_e]
      · cases h
    · have h := List.all_eq_true.mp c0_all k (List.mem_range.mpr hk)
      rw [Bool.or_eq_true] at h
      rcases h with h | h
      · exact absurd (Nat.eq_of_beq_eq_true h) q
      · split at h
        · exact c0_ok h
        · cases h
  · have z0 : ∀ t, ab_rg t 0 := fun t => by
      unfold ab_rg
      split <;> first | trivial | decide
    unfold mu0
    split
    · rename_i h
      have : k = 108 := by omega
      subst this
      show -2147483648 ≤ j ∧ j ≤ 2147483647
      omega
    · split
      · rename_i h
        have : k = 0 := by omega
        subst this
        rw [h.2]
        trivial
      · split
        · rename_i h
          have : k = 0 := by omega
          subst this
          rw [h.2]
          trivial
        · split
          · rename_i h
            rcases h with h | h | h | h | h
            · have : k = 0 := by omega
              subst this
              rw [h.2]
              show -2147483648 ≤ (-1 : Int) ∧ (-1 : Int) ≤ 2147483647
              decide
            · have : k = 2 := by omega
              subst this
              rw [h.2]
              trivial
            · have : k = 3 := by omega
              subst this
              rw [h.2]
              trivial
            · have : k = 36 := by omega
              subst this
              rcases h.2 with e | e
              · rw [e]; trivial
              · rw [e]; trivial
            · have : k = 109 := by omega
              subst this
              rw [h.2]
              show -2147483648 ≤ (-1 : Int) ∧ (-1 : Int) ≤ 2147483647
              decide
          · exact z0 _
theorem mu0_I : gI mu0 := by
  have z : ∀ {a j : Int}, mu0 a j = 0 → ¬ (mu0 a j ≠ 0) := fun h q => q h
  refine ⟨⟨by decide, ⟨Or.inl rfl, Or.inr rfl, by decide⟩, fun q => absurd rfl q, fun q => absurd rfl q, fun q => absurd rfl q, by decide, by decide, by decide, by decide, fun k a b => ?_, fun r a b => ?_, fun t a b => ?_⟩, ⟨⟨Or.inl rfl, fun j a b => ?_, fun q => absurd rfl q, fun q => absurd rfl q, fun q => absurd rfl q⟩, by decide, by decide, by decide⟩, rfl⟩
  · rw [mu0_z (by decide)]; exact Int.le_refl _
  · unfold mu0; rw [if_pos ⟨rfl, a, b⟩]
  · rw [mu0_z (by decide)]; exact Int.le_refl _
  · rw [mu0_z (by decide)]; decide
theorem p12_nil (ρ : js_R) : js_true ρ ([], []) := ⟨fun _ h => (List.not_mem_nil h).elim, fun _ h => (List.not_mem_nil h).elim⟩
/-- every script -/
theorem law_go (X : jm_X) (hX : X.1 ≤ 2048) : ∃ (S0 : Nat → jm_c) (S' : jm_S) (k j : Nat), jm_goesL X mL_law 101 0 [(0, .ref 1000000)] [] (0, S0) (some (.int 1)) S' k j ∧ k ≤ 700 ∧ j ≤ 1000000 := by
  have h := law_loop (d := 0) hX 512 (ab_la [1000000, 0, 109, 179, 0]) mu0 0 rfl rfl rfl rfl rfl (by decide) (by decide) (by omega) ⟨mu0_I, rfl⟩
  have R := c0_R js_0
  have e1 : (js_abs js_0 p1_D1).1 = 180 := c0_len
  obtain ⟨S', k, n, g1, g2, g3⟩ := h (js_lv js_0 p1_lv1) (js_abs js_0 p1_D1) (fun n t ht => by
    have hm := ab_ty_mem ht
    unfold tL_ at hm
    simp only [List.mem_cons, Prod.mk.injEq, List.not_mem_nil, or_false] at hm
    rcases hm with ⟨rfl, rfl⟩ | ⟨rfl, rfl⟩ | ⟨rfl, rfl⟩ | ⟨rfl, rfl⟩ | ⟨rfl, rfl⟩
    · exact ⟨rfl, trivial, by decide⟩
    · exact ⟨rfl, trivial, by decide⟩
    · exact ⟨rfl, trivial, by decide⟩
    · exact ⟨rfl, trivial, by decide⟩
    · exact ⟨rfl, by show -2147483648 ≤ (0 : Int) ∧ (0 : Int) ≤ 2147483647; decide, by decide⟩) (fun q hq => by cases hq) R (by rw [e1]; decide) (by rw [e1]; decide)
  obtain ⟨a0, b0, e3, e4, h4⟩ := js_law_ok (p12_nil js_0) (L := none) (X := X) (fun l h => by cases h) (js_mno_ok js_0 X) 23 _ _ _ _ _ _ _ _ _ _ _ _ _ _ _ jde_ok_1 p1_pre
  have h5 := h4 _ _ _ _ g1
  exact ⟨(js_abs js_0 []).2, _, _, _, h5, by omega, by omega⟩
end L91
