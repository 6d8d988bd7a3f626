/-! THE CLASS, part k24: the Reader's steps -/
section K24
variable {X : jm_X} {d : Nat} {P : Int → ab_m → Prop} {μ μ' μ0 μ1 : ab_m} {s t τ ζ δ b H H' κ κ' o k : Int} {Z Z' : Int → Prop} {Γ : scG} {Lb Ln : List Int}
end K24
/-- a step may be put down -/
def zA (μ : ab_m) (s ζ δ : Int) (Z : Int → Prop) (op arg H H' κ κ' : Int) : Prop := (scHv op (μ (s + 9) arg) H H') ∧ (0 ≤ H') ∧ (κ ≤ 30) ∧ (op = 31 → κ + 1 ≤ κ') ∧ (op = 0 ∨ op = 35 → κ ≤ κ') ∧ (0 ≤ κ') ∧ (op = 1 ∨ op = 23 ∨ op = 29 ∨ op = 30 → 0 ≤ arg ∧ arg < 3000) ∧ (op = 1 ∨ op = 23 ∨ op = 29 → zNa μ s ζ δ arg) ∧ ((25 ≤ op ∧ op ≤ 27) ∨ op = 36 ∨ op = 37 → -1 ≤ arg ∧ arg ≤ μ s 4) ∧ ((25 ≤ op ∧ op ≤ 27) ∨ op = 36 ∨ op = 37 → 0 ≤ arg ∨ Z (μ s 4)) ∧ (op = 21 ∨ op = 22 → 0 ≤ arg ∧ arg < μ s 8) ∧ (op = 32 → 0 ≤ arg ∧ arg < rho μ s δ) ∧ (op = 33 → arg = rho μ s δ ∧ rho μ s δ < μ s 10) ∧ (op = 38 → (0 ≤ arg ∧ arg < 3002) ∧ ∃ j, ζ ≤ j ∧ j < μ s 4 ∧ wOn μ s j arg) ∧ (op = 35 → ζ < μ s 4 ∧ μ (s + 1) (μ s 4 - 1) = 32)
theorem zA.hv {μ : ab_m} {s ζ δ : Int} {Z : Int → Prop} {op arg H H' κ κ' : Int} (h'' : zA μ s ζ δ Z op arg H H' κ κ') : scHv op (μ (s + 9) arg) H H' := h''.1
theorem zA.h0 {μ : ab_m} {s ζ δ : Int} {Z : Int → Prop} {op arg H H' κ κ' : Int} (h'' : zA μ s ζ δ Z op arg H H' κ κ') : 0 ≤ H' := h''.2.1
theorem zA.k30 {μ : ab_m} {s ζ δ : Int} {Z : Int → Prop} {op arg H H' κ κ' : Int} (h'' : zA μ s ζ δ Z op arg H H' κ κ') : κ ≤ 30 := h''.2.2.1
theorem zA.q1 {μ : ab_m} {s ζ δ : Int} {Z : Int → Prop} {op arg H H' κ κ' : Int} (h'' : zA μ s ζ δ Z op arg H H' κ κ') : op = 31 → κ + 1 ≤ κ' := h''.2.2.2.1
theorem zA.q2 {μ : ab_m} {s ζ δ : Int} {Z : Int → Prop} {op arg H H' κ κ' : Int} (h'' : zA μ s ζ δ Z op arg H H' κ κ') : op = 0 ∨ op = 35 → κ ≤ κ' := h''.2.2.2.2.1
theorem zA.q3 {μ : ab_m} {s ζ δ : Int} {Z : Int → Prop} {op arg H H' κ κ' : Int} (h'' : zA μ s ζ δ Z op arg H H' κ κ') : 0 ≤ κ' := h''.2.2.2.2.2.1
theorem zA.nm {μ : ab_m} {s ζ δ : Int} {Z : Int → Prop} {op arg H H' κ κ' : Int} (h'' : zA μ s ζ δ Z op arg H H' κ κ') : op = 1 ∨ op = 23 ∨ op = 29 ∨ op = 30 → 0 ≤ arg ∧ arg < 3000 := h''.2.2.2.2.2.2.1
theorem zA.td {μ : ab_m} {s ζ δ : Int} {Z : Int → Prop} {op arg H H' κ κ' : Int} (h'' : zA μ s ζ δ Z op arg H H' κ κ') : op = 1 ∨ op = 23 ∨ op = 29 → zNa μ s ζ δ arg := h''.2.2.2.2.2.2.2.1
theorem zA.jp {μ : ab_m} {s ζ δ : Int} {Z : Int → Prop} {op arg H H' κ κ' : Int} (h'' : zA μ s ζ δ Z op arg H H' κ κ') : (25 ≤ op ∧ op ≤ 27) ∨ op = 36 ∨ op = 37 → -1 ≤ arg ∧ arg ≤ μ s 4 := h''.2.2.2.2.2.2.2.2.1
theorem zA.mi {μ : ab_m} {s ζ δ : Int} {Z : Int → Prop} {op arg H H' κ κ' : Int} (h'' : zA μ s ζ δ Z op arg H H' κ κ') : (25 ≤ op ∧ op ≤ 27) ∨ op = 36 ∨ op = 37 → 0 ≤ arg ∨ Z (μ s 4) := h''.2.2.2.2.2.2.2.2.2.1
theorem zA.rw {μ : ab_m} {s ζ δ : Int} {Z : Int → Prop} {op arg H H' κ κ' : Int} (h'' : zA μ s ζ δ Z op arg H H' κ κ') : op = 21 ∨ op = 22 → 0 ≤ arg ∧ arg < μ s 8 := h''.2.2.2.2.2.2.2.2.2.2.1
theorem zA.cl {μ : ab_m} {s ζ δ : Int} {Z : Int → Prop} {op arg H H' κ κ' : Int} (h'' : zA μ s ζ δ Z op arg H H' κ κ') : op = 32 → 0 ≤ arg ∧ arg < rho μ s δ := h''.2.2.2.2.2.2.2.2.2.2.2.1
theorem zA.rt {μ : ab_m} {s ζ δ : Int} {Z : Int → Prop} {op arg H H' κ κ' : Int} (h'' : zA μ s ζ δ Z op arg H H' κ κ') : op = 33 → arg = rho μ s δ ∧ rho μ s δ < μ s 10 := h''.2.2.2.2.2.2.2.2.2.2.2.2.1
theorem zA.tr {μ : ab_m} {s ζ δ : Int} {Z : Int → Prop} {op arg H H' κ κ' : Int} (h'' : zA μ s ζ δ Z op arg H H' κ κ') : op = 38 → (0 ≤ arg ∧ arg < 3002) ∧ ∃ j, ζ ≤ j ∧ j < μ s 4 ∧ wOn μ s j arg := h''.2.2.2.2.2.2.2.2.2.2.2.2.2.1
theorem zA.dr {μ : ab_m} {s ζ δ : Int} {Z : Int → Prop} {op arg H H' κ κ' : Int} (h'' : zA μ s ζ δ Z op arg H H' κ κ') : op = 35 → ζ < μ s 4 ∧ μ (s + 1) (μ s 4 - 1) = 32 := h''.2.2.2.2.2.2.2.2.2.2.2.2.2.2
theorem zA.of {μ : ab_m} {s ζ δ : Int} {Z : Int → Prop} {op arg H H' κ κ' : Int} (hv'' : scHv op (μ (s + 9) arg) H H') (h0'' : 0 ≤ H') (k30'' : κ ≤ 30) (q1'' : op = 31 → κ + 1 ≤ κ' := by omega) (q2'' : op = 0 ∨ op = 35 → κ ≤ κ' := by omega) (q3'' : 0 ≤ κ' := by omega) (nm'' : op = 1 ∨ op = 23 ∨ op = 29 ∨ op = 30 → 0 ≤ arg ∧ arg < 3000 := by omega) (td'' : op = 1 ∨ op = 23 ∨ op = 29 → zNa μ s ζ δ arg := by omega) (jp'' : (25 ≤ op ∧ op ≤ 27) ∨ op = 36 ∨ op = 37 → -1 ≤ arg ∧ arg ≤ μ s 4 := by omega) (mi'' : (25 ≤ op ∧ op ≤ 27) ∨ op = 36 ∨ op = 37 → 0 ≤ arg ∨ Z (μ s 4) := by omega) (rw'' : op = 21 ∨ op = 22 → 0 ≤ arg ∧ arg < μ s 8 := by omega) (cl'' : op = 32 → 0 ≤ arg ∧ arg < rho μ s δ := by omega) (rt'' : op = 33 → arg = rho μ s δ ∧ rho μ s δ < μ s 10 := by omega) (tr'' : op = 38 → (0 ≤ arg ∧ arg < 3002) ∧ ∃ j, ζ ≤ j ∧ j < μ s 4 ∧ wOn μ s j arg := by omega) (dr'' : op = 35 → ζ < μ s 4 ∧ μ (s + 1) (μ s 4 - 1) = 32 := by omega) : zA μ s ζ δ Z op arg H H' κ κ' := ⟨hv'', h0'', k30'', q1'', q2'', q3'', nm'', td'', jp'', mi'', rw'', cl'', rt'', tr'', dr''⟩
section K24
variable {X : jm_X} {d : Nat} {P : Int → ab_m → Prop} {μ μ' μ0 μ1 : ab_m} {s t τ ζ δ b H H' κ κ' o k : Int} {Z Z' : Int → Prop} {Γ : scG} {Lb Ln : List Int}
theorem ol1 (s : Int) : s + 8 ≤ s + 9 ∧ s + 9 ≤ s + 9 ∧ s + 8 ≤ s + 8 ∧ s + 8 ≤ s + 9 := by omega
theorem ol2 {j k n : Int} (a : j < k) (c : k < n) : j < n := by omega
theorem ol3 {k n : Int} (c : k < n) : k - 1 < n := by omega
theorem ol4 {x n : Int} (c : x ≤ n) : x ≤ n + 1 := by omega
theorem ol5 {k n : Int} (c : k ≤ n) : ¬ k = n + 1 := by omega
theorem ol6 {x : Int} (c : x = 0 ∨ x = 35) : ¬ x = 31 := by omega
theorem ol7 {op x c κ' : Int} (a1 : op = 31 → c + 1 ≤ κ') (a2 : op = 0 ∨ op = 35 → c ≤ κ') (a3 : 0 ≤ κ') (x0 : 0 ≤ x ∧ x ≤ c) : 0 ≤ (if op = 31 then x + 1 else if op = 0 ∨ op = 35 then x else 0) ∧ (if op = 31 then x + 1 else if op = 0 ∨ op = 35 then x else 0) ≤ κ' := by
  split
  · rename_i q; have := a1 q; omega
  · split
    · rename_i q; have := a2 q; omega
    · omega
/-- a step that stood before another was put down -/
theorem zK.on {n : Int} {G : scG} (h : zK μ s Γ k) (kn : 0 ≤ k ∧ k < n) (hn : μ s 4 = n) (en : μ' s 4 = n + 1) (ek : ∀ k, k < n → μ' (s + 1) k = μ (s + 1) k ∧ μ' (s + 2) k = μ (s + 2) k) (e6 : μ' s 6 = μ s 6) (e8 : μ' s 8 = μ s 8) (e10 : μ' s 10 = μ s 10) (ea : ∀ c j, s + 8 ≤ c → c ≤ s + 9 → μ' c j = μ c j) (gh : ∀ k, k ≤ n → G.1 k = Γ.1 k) (gr : ∀ k, k ≤ n → G.2.1 k = Γ.2.1 k) (gz : ∀ k, k ≤ n → G.2.2.1 k = Γ.2.2.1 k) (gq : ∀ k, k ≤ n → G.2.2.2.1 k = Γ.2.2.2.1 k) (hw : wOk μ' s k) (hm : ∀ j x, 0 ≤ j → j < n → wOn μ s j x → wOn μ' s j x) : zK μ' s G k := by
  have ek1 := (ek k kn.2).1
  have ek2 := (ek k kn.2).2
  have k1 : k ≤ n := by omega
  have k2 : k + 1 ≤ n := by omega
  have r0 := gr k k1
  obtain ⟨mv, qq, n', td, jp, rw', cl, rt, tr, dr, wr⟩ := h
  refine ⟨?_, by rw [gq k k1]; exact qq, by rw [ek1, ek2]; exact n', ?_, ?_, by rw [ek1, ek2, e8]; exact rw', by rw [ek1, ek2, r0]; exact cl, by rw [ek1, ek2, r0, e10]; exact rt, ?_, ?_, hw⟩
  · rw [ek1, ek2, gh k k1, gh (k + 1) k2, r0, gr (k + 1) k2, gz k k1, gz (k + 1) k2, gq k k1, gq (k + 1) k2, ea (s + 9) _ (ol1 s).1 (ol1 s).2.1]
    exact mv
  · rw [ek1, ek2]
    intro q
    rcases td q with w | w | ⟨j, w1, w2, w3, w4⟩
    · exact Or.inl (by rw [e6]; exact w)
    · refine Or.inr (Or.inl ?_)
      rw [r0, e10, ea (s + 8) _ (ol1 s).2.2.1 (ol1 s).2.2.2, ea (s + 9) _ (ol1 s).1 (ol1 s).2.1]
      exact w
    · have j1 : j < n := ol2 w2 kn.2
      exact Or.inr (Or.inr ⟨j, w1, w2, by rw [gr j (Int.le_of_lt j1), r0]; exact w3, by rw [(ek j j1).1, (ek j j1).2]; exact w4⟩)
  · rw [ek1, ek2, en, r0]
    intro q
    have := jp q
    rw [hn] at this
    refine ⟨this.1, ol4 this.2.1, ?_⟩
    rw [gr _ this.2.1]
    exact this.2.2
  · rw [ek1, ek2]
    intro q
    obtain ⟨t1, j, t2, t3, t4, t5⟩ := tr q
    have j1 : j < n := ol2 t3 kn.2
    exact ⟨t1, j, t2, t3, by rw [gr j (Int.le_of_lt j1), r0]; exact t4, hm j _ t2 j1 t5⟩
  · rw [ek1]
    intro q
    have := dr q
    have k3 : k - 1 < n := ol3 kn.2
    exact ⟨this.1, by rw [(ek (k - 1) k3).1]; exact this.2.1, by rw [gr _ (Int.le_of_lt k3), r0]; exact this.2.2⟩
set_option maxHeartbeats 1000000 in
theorem zGG.addW {op arg : Int} (h : zGG μ s Γ ζ δ b Z H κ) (a : zA μ s ζ δ Z op arg H H' κ κ') (n0 : 0 ≤ μ s 4) (en : μ' s 4 = μ s 4 + 1) (eo : μ' (s + 1) (μ s 4) = op) (eg : μ' (s + 2) (μ s 4) = arg) (ek : ∀ k, k < μ s 4 → μ' (s + 1) k = μ (s + 1) k ∧ μ' (s + 2) k = μ (s + 2) k) (e : ∀ j, j ≠ 4 → μ' s j = μ s j) (ea : ∀ c j, s + 5 ≤ c → c ≤ s + 9 → μ' c j = μ c j) (e7 : μ' 7 3 = μ 7 3) (e9 : ∀ c j, c = 9 ∨ c = 10 → μ' c j = μ c j) (hw : ∀ j, 0 ≤ j → j ≤ μ s 4 → wOk μ' s j) (hm : ∀ j x, 0 ≤ j → j < μ s 4 → wOn μ s j x → wOn μ' s j x) : zG μ' s ζ δ b Z H' κ' := by
  obtain ⟨z, b0, cu, rz, rm, st, mi, df, cd, nm, hb, ro⟩ := h
  have e6 := e 6 (by decide)
  have e8 := e 8 (by decide)
  have e10 := e 10 (by decide)
  have er : rho μ' s δ = rho μ s δ := by unfold rho; rw [e10]
  have na : ∀ x, zNa μ s ζ δ x → zNa μ' s ζ δ x := by
    intro x q
    unfold zNa
    rw [e6, ea _ _ (by omega) (by omega), ea _ _ (by omega) (by omega)]
    rcases q with q | q | ⟨j, q1, q2, q3⟩
    · exact Or.inl q
    · exact Or.inr (Or.inl q)
    · refine Or.inr (Or.inr ⟨j, q1, by omega, ?_⟩)
      rw [(ek j q2).1, (ek j q2).2]; exact q3
  generalize hn : μ s 4 = n at *
  obtain ⟨qn, hqn⟩ : ∃ qn : Int, qn = if op = 31 then Γ.2.2.2.1 n + 1 else if op = 0 ∨ op = 35 then Γ.2.2.2.1 n else 0 := ⟨_, rfl⟩
  obtain ⟨G, gh, gr, gz, gq, gh1, gr1, gz1, gq1⟩ : ∃ G : scG, (∀ k, k ≤ n → G.1 k = Γ.1 k) ∧ (∀ k, k ≤ n → G.2.1 k = Γ.2.1 k) ∧ (∀ k, k ≤ n → G.2.2.1 k = Γ.2.2.1 k) ∧ (∀ k, k ≤ n → G.2.2.2.1 k = Γ.2.2.2.1 k) ∧ G.1 (n + 1) = H' ∧ G.2.1 (n + 1) = rho μ s δ ∧ G.2.2.1 (n + 1) = ζ ∧ G.2.2.2.1 (n + 1) = qn :=
    ⟨⟨fun k => if k = n + 1 then H' else Γ.1 k, fun k => if k = n + 1 then rho μ s δ else Γ.2.1 k, fun k => if k = n + 1 then ζ else Γ.2.2.1 k, fun k => if k = n + 1 then qn else Γ.2.2.2.1 k, Γ.2.2.2.2⟩, fun k q => if_neg (ol5 q), fun k q => if_neg (ol5 q), fun k q => if_neg (ol5 q), fun k q => if_neg (ol5 q), if_pos rfl, if_pos rfl, if_pos rfl, if_pos rfl⟩
  have rzn := rz n z.2.1 (Int.le_refl _)
  have qb : 0 ≤ qn ∧ qn ≤ κ' := by
    have a1 := a.q1; have a2 := a.q2; have a3 := a.q3
    have c4 := cu.2.2
    rw [hqn]
    exact ol7 a1 a2 a3 c4
  refine ⟨G, ⟨z.1, by omega, by rw [gh ζ z.2.1]; exact z.2.2⟩, ⟨by rw [gh 0 n0]; exact b0.1, by rw [gr 0 n0]; exact b0.2.1, by rw [gz 0 n0]; exact b0.2.2⟩, by rw [en, gh1, gq1]; exact ⟨rfl, a.h0, qb⟩, fun k x y => ?_, fun k x y => by rw [gr k (by omega), er]; exact rm k x y, fun k x y => ?_, fun k x y q => ?_, fun x p q => ?_, by rw [e10, ea _ _ (by omega) (by omega), ea _ _ (by omega) (by omega)]; exact cd, fun i x y => ?_, by rw [e7]; exact hb, fun x p q => by rw [ea _ _ (by omega) (by omega)]; exact ro x p (by omega)⟩
  · rw [en] at y
    rw [er]
    by_cases q : k = n + 1
    · rw [q, gr1, gz1]; exact ⟨rfl, rfl⟩
    · rw [gr k (by omega), gz k (by omega)]; exact rz k x (by omega)
  · rw [en] at y
    by_cases q : k = n
    · subst q
      have gr2 := gr k (Int.le_refl _)
      rw [rzn.1] at gr2
      have qk := gq k (Int.le_refl _)
      have c4 := cu.2.2
      refine ⟨?_, ?_, by rw [eo, eg]; exact a.nm, ?_, ?_, by rw [eo, eg, e8]; exact a.rw, by rw [eo, eg, gr2]; exact a.cl, by rw [eo, eg, gr2, e10]; exact a.rt, ?_, ?_, hw k x (Int.le_refl _)⟩
      · rw [eo, eg, gh k (Int.le_refl _), cu.1, gh1, gr1, gr2, gz1, gz k (Int.le_refl _), rzn.2, gq1, qk, ea _ _ (by omega) (by omega)]
        refine Or.inr ⟨a.hv, rfl, rfl, fun q => by rw [hqn]; exact if_pos q, fun q => ?_⟩
        rw [hqn, if_neg (ol6 q), if_pos q]
      · rw [qk]; have := a.k30; omega
      · rw [eo, eg]
        intro q
        have g : ∀ j, ζ ≤ j → j < k → G.2.1 j = G.2.1 k := fun j u v => by rw [gr j (by omega), gr2]; exact (rz j u (by omega)).1
        rcases a.td q with w | w | ⟨j, w1, w2, w3⟩
        · exact Or.inl (by rw [e6]; exact w)
        · refine Or.inr (Or.inl ?_)
          have ed : rho μ s δ = δ := by unfold rho; rw [if_neg w.1]
          rw [gr2, ed, e10, ea _ _ (by omega) (by omega), ea _ _ (by omega) (by omega)]
          refine ⟨?_, w.2⟩
          rcases cd with c | c
          · exact absurd c w.1
          · omega
        · rw [hn] at w2
          exact Or.inr (Or.inr ⟨j, by omega, w2, g j w1 w2, by rw [(ek j w2).1, (ek j w2).2]; exact w3⟩)
      · rw [eo, eg]
        intro q
        have := a.jp q
        rw [hn] at this
        exact ⟨this.1, by omega, Or.inl (by omega)⟩
      · rw [eo, eg]
        intro q
        obtain ⟨t1, j, t2, t3, t4⟩ := a.tr q
        rw [hn] at t3
        exact ⟨t1, j, by omega, t3, by rw [gr j (by omega), gr2]; exact (rz j t2 (by omega)).1, hm j _ (by omega) t3 t4⟩
      · rw [eo]
        intro q
        have := a.dr q
        rw [hn] at this
        exact ⟨by omega, by rw [(ek (k - 1) (by omega)).1]; exact this.2, by rw [gr _ (by omega), gr2]; exact (rz _ (by omega) (by omega)).1⟩
    · exact (st k x (by omega)).on (by omega) hn en ek e6 e8 e10 (fun c j p q => ea c j (by omega) q) gh gr gz gq (hw k x (by omega)) hm
  · rw [en] at y
    by_cases c : k = n
    · subst c
      rw [eo] at q
      rw [eg]
      have := a.mi q
      rw [hn] at this
      exact this
    · rw [(ek k (by omega)).2]
      rw [(ek k (by omega)).1] at q
      exact mi k x (by omega) q
  · rw [er] at q
    obtain ⟨b1, b2, b3⟩ := df x p q
    rw [hn] at b1 b2
    have f : ∀ c, s + 6 ≤ c → c ≤ s + 9 → μ' c x = μ c x := fun c u v => ea c x (by omega) v
    refine ⟨?_, ?_, ?_⟩
    · rw [f _ (by omega) (by omega), en, gr _ (by omega), gh _ (by omega), gz _ (by omega)]; exact ⟨by omega, b1.2⟩
    · rw [f _ (by omega) (by omega), en, gr _ (by omega)]; exact ⟨by omega, b2.2⟩
    · rw [f _ (by omega) (by omega), f _ (by omega) (by omega)]; exact b3
  · obtain ⟨n1, n2, n3⟩ := nm i x (by omega)
    have q9 := e9 9 i (Or.inl rfl)
    have q10 := e9 10 i (Or.inr rfl)
    refine ⟨?_, by rw [q9, q10, e8]; exact n2, by rw [q9, q10, er]; exact n3⟩
    rw [q9, q10, e6]
    intro q
    refine ⟨(n1 q).1, ?_⟩
    rcases (n1 q).2 with w | w
    · exact Or.inl w
    · exact Or.inr ⟨w.1, na _ w.2⟩
end K24
/-- a step is put down -/
def zS (s : Int) (μ μ' : ab_m) (op arg : Int) : Prop := (μ' s 4 = μ s 4 + 1) ∧ (μ' (s + 1) (μ s 4) = op) ∧ (μ' (s + 2) (μ s 4) = arg) ∧ (μ' (s + 3) (μ s 4) = -1 ∧ μ' (s + 4) (μ s 4) = -1) ∧ (∀ c j, ¬ (c = s ∧ j = 4) → ¬ (s + 1 ≤ c ∧ c ≤ s + 4 ∧ j = μ s 4) → μ' c j = μ c j)
theorem zS.n {s : Int} {μ μ' : ab_m} {op arg : Int} (h'' : zS s μ μ' op arg) : μ' s 4 = μ s 4 + 1 := h''.1
theorem zS.o {s : Int} {μ μ' : ab_m} {op arg : Int} (h'' : zS s μ μ' op arg) : μ' (s + 1) (μ s 4) = op := h''.2.1
theorem zS.g {s : Int} {μ μ' : ab_m} {op arg : Int} (h'' : zS s μ μ' op arg) : μ' (s + 2) (μ s 4) = arg := h''.2.2.1
theorem zS.w {s : Int} {μ μ' : ab_m} {op arg : Int} (h'' : zS s μ μ' op arg) : μ' (s + 3) (μ s 4) = -1 ∧ μ' (s + 4) (μ s 4) = -1 := h''.2.2.2.1
theorem zS.f {s : Int} {μ μ' : ab_m} {op arg : Int} (h'' : zS s μ μ' op arg) : ∀ c j, ¬ (c = s ∧ j = 4) → ¬ (s + 1 ≤ c ∧ c ≤ s + 4 ∧ j = μ s 4) → μ' c j = μ c j := h''.2.2.2.2
section K24
variable {X : jm_X} {d : Nat} {P : Int → ab_m → Prop} {μ μ' μ0 μ1 : ab_m} {s t τ ζ δ b H H' κ κ' o k : Int} {Z Z' : Int → Prop} {Γ : scG} {Lb Ln : List Int}
theorem zGG.add {op arg : Int} (hs : s = 16 ∨ s = 26) (h : zGG μ s Γ ζ δ b Z H κ) (a : zA μ s ζ δ Z op arg H H' κ κ') (n0 : 0 ≤ μ s 4) (e : zS s μ μ' op arg) : zG μ' s ζ δ b Z H' κ' := by
  obtain ⟨en, eo, eg, ew, ef⟩ := e
  have on : ∀ L x, sDc μ s L x → (∀ y ∈ L, y < μ s 4) → sDc μ' s L x := fun L x hh hl => hh.on fun y hy => ef _ y (by omega) (by have := hl y hy; omega)
  refine h.addW a n0 en eo eg (fun k q => ⟨ef _ k (by omega) (by omega), ef _ k (by omega) (by omega)⟩) (fun j q => ef _ j (by omega) (by omega)) (fun c j q1 q2 => ef c j (by omega) (by omega)) (ef 7 3 (by omega) (by omega)) (fun c j q => ef c j (by omega) (by omega)) (fun j q1 q2 => ?_) fun j x q1 q2 q3 => ?_
  · by_cases q : j = μ s 4
    · subst q; exact ⟨[], by rw [ew.1]; rfl, fun y hy => by simp at hy⟩
    · obtain ⟨L, w1, w2⟩ := (h.st j q1 (by omega)).wr
      exact ⟨L, by rw [ef _ j (by omega) (by omega)]; exact on _ _ w1 w2, fun y hy => by have := w2 y hy; omega⟩
  · obtain ⟨L, w1, w2, w3⟩ := q3
    exact ⟨L, by rw [ef _ j (by omega) (by omega)]; exact on _ _ w1 w2, fun y hy => by have := w2 y hy; omega, w3⟩
/-- && or || is put down, its left side began at g -/
theorem zGG.wrap {op arg g : Int} (hs : s = 16 ∨ s = 26) (h : zGG μ s Γ ζ δ b Z H κ) (a : zA μ s ζ δ Z op arg H H' κ κ') (n0 : 0 ≤ μ s 4 ∧ μ s 4 < 3002) (hg : 0 ≤ g ∧ g < μ s 4) (en : μ' s 4 = μ s 4 + 1) (eo : μ' (s + 1) (μ s 4) = op) (eg : μ' (s + 2) (μ s 4) = arg) (ew : μ' (s + 3) (μ s 4) = -1) (e4 : μ' (s + 4) (μ s 4) = μ (s + 3) g) (e3 : μ' (s + 3) g = μ s 4) (ef : ∀ c j, ¬ (c = s ∧ j = 4) → ¬ (s + 1 ≤ c ∧ c ≤ s + 4 ∧ j = μ s 4) → ¬ (c = s + 3 ∧ j = g) → μ' c j = μ c j) : zG μ' s ζ δ b Z H' κ' ∧ wOn μ' s g (μ s 4) := by
  have on : ∀ L x, sDc μ s L x → (∀ y ∈ L, y < μ s 4) → sDc μ' s L x := fun L x hh hl => hh.on fun y hy => ef _ y (by omega) (by have := hl y hy; omega) (by omega)
  obtain ⟨Lg, g1, g2⟩ := (h.st g hg.1 hg.2).wr
  have hG : sDc μ' s (μ s 4 :: Lg) (μ' (s + 3) g) ∧ ∀ y ∈ (μ s 4 :: Lg), y < μ' s 4 := by
    refine ⟨⟨e3, n0.1, n0.2, g2, by rw [e4]; exact on _ _ g1 g2⟩, fun y hy => ?_⟩
    rcases List.mem_cons.mp hy with q | q
    · omega
    · have := g2 y q; omega
  refine ⟨h.addW a n0.1 en eo eg (fun k q => ⟨ef _ k (by omega) (by omega) (by omega), ef _ k (by omega) (by omega) (by omega)⟩) (fun j q => ef _ j (by omega) (by omega) (by omega)) (fun c j q1 q2 => ef c j (by omega) (by omega) (by omega)) (ef 7 3 (by omega) (by omega) (by omega)) (fun c j q => ef c j (by omega) (by omega) (by omega)) (fun j q1 q2 => ?_) (fun j x q1 q2 q3 => ?_), _, hG.1, hG.2, List.mem_cons_self ..⟩
  · by_cases q : j = μ s 4
    · subst q; exact ⟨[], by rw [ew]; rfl, fun y hy => by simp at hy⟩
    · by_cases u : j = g
      · subst u; exact ⟨_, hG⟩
      · obtain ⟨L, w1, w2⟩ := (h.st j q1 (by omega)).wr
        exact ⟨L, by rw [ef _ j (by omega) (by omega) (by omega)]; exact on _ _ w1 w2, fun y hy => by have := w2 y hy; omega⟩
  · obtain ⟨L, w1, w2, w3⟩ := q3
    by_cases u : j = g
    · subst u
      have : L = Lg := w1.un g1
      subst this
      exact ⟨_, hG.1, hG.2, List.mem_cons_of_mem _ w3⟩
    · exact ⟨L, by rw [ef _ j (by omega) (by omega) (by omega)]; exact on _ _ w1 w2, fun y hy => by have := w2 y hy; omega, w3⟩
/-- jumps get their aim -/
theorem zGG.args {v : Int} {D : Int → Prop} (h : zGG μ s Γ ζ δ b Z H κ) (hD : ∀ k, D k → ζ ≤ k ∧ k < μ s 4 ∧ ((25 ≤ μ (s + 1) k ∧ μ (s + 1) k ≤ 27) ∨ μ (s + 1) k = 36 ∨ μ (s + 1) k = 37)) (hv : ζ ≤ v ∧ v ≤ μ s 4) (e1 : ∀ k, D k → μ' (s + 2) k = v) (e2 : ∀ k, ¬ D k → μ' (s + 2) k = μ (s + 2) k) (e : ∀ c j, c ≠ s + 2 → s ≤ c → c ≤ s + 9 → μ' c j = μ c j) (e7 : μ' 7 3 = μ 7 3) (e9 : ∀ c j, c = 9 ∨ c = 10 → μ' c j = μ c j) (hZ : ∀ k, Z k → D k ∨ Z' k) : zGG μ' s Γ ζ δ b Z' H κ := by
  obtain ⟨z, b0, cu, rz, rm, st, mi, df, cd, nm, hb, ro⟩ := h
  have es : ∀ j, μ' s j = μ s j := fun j => e s j (by omega) (by omega) (by omega)
  have a1 : ∀ j, μ' (s + 1) j = μ (s + 1) j := fun j => e _ j (by omega) (by omega) (by omega)
  have er : rho μ' s δ = rho μ s δ := by unfold rho; rw [es]
  have w0 : ∀ L j, sDc μ s L (μ (s + 3) j) → sDc μ' s L (μ' (s + 3) j) := fun L j hh => by
    rw [e (s + 3) j (by omega) (by omega) (by omega)]
    exact hh.on fun y hy => e _ y (by omega) (by omega) (by omega)
  have hm : ∀ j x, wOn μ s j x → wOn μ' s j x := fun j x ⟨L, w1, w2, w3⟩ => ⟨L, w0 _ _ w1, by rw [es]; exact w2, w3⟩
  have tl : ∀ j, μ (s + 1) j = 30 → μ' (s + 2) j = μ (s + 2) j := fun j q => e2 j fun c => by have := (hD j c).2.2; omega
  have na : ∀ x, zNa μ s ζ δ x → zNa μ' s ζ δ x := by
    intro x q
    unfold zNa
    rw [es, es, e _ _ (by omega) (by omega) (by omega), e _ _ (by omega) (by omega) (by omega)]
    rcases q with q | q | ⟨j, q1, q2, q3, q4⟩
    · exact Or.inl q
    · exact Or.inr (Or.inl q)
    · exact Or.inr (Or.inr ⟨j, q1, q2, by rw [a1]; exact q3, by rw [tl j q3]; exact q4⟩)
  refine ⟨by rw [es]; exact z, b0, by rw [es]; exact cu, by rw [es, er]; exact rz, by rw [er]; exact rm, fun k x y => ?_, fun k x y q => ?_, fun x p q => ?_, by rw [es, e _ _ (by omega) (by omega) (by omega), e _ _ (by omega) (by omega) (by omega)]; exact cd, fun i x y => ?_, by rw [e7]; exact hb, fun x p q => by rw [e _ _ (by omega) (by omega) (by omega)]; exact ro x p (by rw [es] at q; exact q)⟩
  · rw [es] at y
    obtain ⟨mv, qq, n', td, jp, rw', cl, rt, tr, dr, wr⟩ := st k x y
    have wr' : wOk μ' s k := by obtain ⟨L, w1, w2⟩ := wr; exact ⟨L, w0 _ _ w1, by rw [es]; exact w2⟩
    have dr' : μ' (s + 1) k = 35 → 1 ≤ k ∧ μ' (s + 1) (k - 1) = 32 ∧ Γ.2.1 (k - 1) = Γ.2.1 k := by rw [a1, a1]; exact dr
    by_cases c : D k
    · obtain ⟨d1, d2, d3⟩ := hD k c
      rw [← a1] at d3
      have no : ∀ {x : Int} {q : Prop}, μ' (s + 1) k = x → ¬ (25 ≤ x ∧ x ≤ 27) → x ≠ 36 → x ≠ 37 → q := fun h1 h2 h3 h4 => by omega
      refine ⟨?_, qq, fun q => by omega, fun q => by omega, ?_, fun q => by omega, fun q => by omega, fun q => by omega, fun q => by omega, dr', wr'⟩
      · rw [a1]
        rcases mv with m | m
        · exact Or.inl m
        · refine Or.inr ⟨m.1.n fun q => ?_, m.2⟩
          rw [a1] at d3
          omega
      · intro q
        rw [e1 k c, es]
        exact ⟨by omega, hv.2, Or.inr (by rw [(rz v hv.1 hv.2).1, (rz k d1 (by omega)).1])⟩
    · have a2 := e2 k c
      refine ⟨by rw [a1, a2, e _ _ (by omega) (by omega) (by omega)]; exact mv, qq, by rw [a1, a2]; exact n', ?_, by rw [a1, a2, es]; exact jp, by rw [a1, a2, es]; exact rw', by rw [a1, a2]; exact cl, by rw [a1, a2, es]; exact rt, ?_, dr', wr'⟩
      · rw [a1, a2]
        intro q
        rcases td q with w | w | ⟨j, w1, w2, w3, w4, w5⟩
        · exact Or.inl (by rw [es]; exact w)
        · exact Or.inr (Or.inl (by rw [es, e _ _ (by omega) (by omega) (by omega), e _ _ (by omega) (by omega) (by omega)]; exact w))
        · exact Or.inr (Or.inr ⟨j, w1, w2, w3, by rw [a1]; exact w4, by rw [tl j w4]; exact w5⟩)
      · rw [a1, a2]
        intro q
        obtain ⟨t1, j, t2, t3, t4, t5⟩ := tr q
        exact ⟨t1, j, t2, t3, t4, hm _ _ t5⟩
  · rw [a1] at q
    rw [es] at y
    by_cases c : D k
    · rw [e1 k c]; exact Or.inl (by omega)
    · rw [e2 k c]
      rcases mi k x y q with w | w
      · exact Or.inl w
      · rcases hZ k w with w | w
        · exact absurd w c
        · exact Or.inr w
  · rw [er] at q
    obtain ⟨b1, b2, b3⟩ := df x p q
    have f : ∀ c, s + 6 ≤ c → c ≤ s + 9 → μ' c x = μ c x := fun c u v => e c x (by omega) (by omega) v
    refine ⟨?_, ?_, ?_⟩
    · rw [f _ (by omega) (by omega), es]; exact b1
    · rw [f _ (by omega) (by omega), es]; exact b2
    · rw [f _ (by omega) (by omega), f _ (by omega) (by omega)]; exact b3
  · obtain ⟨n1, n2, n3⟩ := nm i x (by omega)
    have q9 := e9 9 i (Or.inl rfl)
    have q10 := e9 10 i (Or.inr rfl)
    refine ⟨?_, by rw [q9, q10, es]; exact n2, by rw [q9, q10, er]; exact n3⟩
    rw [q9, q10, es]
    intro q
    refine ⟨(n1 q).1, ?_⟩
    rcases (n1 q).2 with w | w
    · exact Or.inl w
    · exact Or.inr ⟨w.1, na _ w.2⟩
end K24

/-! THE CLASS, part k25: the Reader's small calls -/
section K25
variable {X : jm_X} {d : Nat} {P : Int → ab_m → Prop} {μ μ' μ0 μ1 : ab_m} {s t τ t' τ' ζ δ b H H' κ κ' o o' k k' : Int} {Z Z' : Int → Prop} {Γ : scG} {Lb Ln : List Int}
/-- an implication that omega doesn't look into -/
def zTo (p q : Prop) : Prop := p → q
theorem lfm {lf : Int} {m : Nat} (a : lf ≤ 3001) (e : lf.toNat = m + 1) : lf - 1 ≤ 3001 ∧ (lf - 1).toNat = m ∧ ab_w (lf + -1) = lf - 1 := by
  refine ⟨by omega, by omega, ?_⟩
  rw [ab_wi (by omega) (by omega)]; omega
theorem wW.pl {C : Int} (h : wW μ C) : ∀ (n : Nat) (i : Int), 0 ≤ i → i < C → (C - 1 - i).toNat = n → 0 ≤ μ 5 i ∧ μ 5 i ≤ 3000 := by
  intro n
  induction n with
  | zero =>
    intro i a c e
    have : i = C - 1 := by omega
    rw [this]; exact h.l.2
  | succ n ih =>
    intro i a c e
    have p := h.p i a (by omega)
    have q := ih (i + 1) (by omega) (by omega) (by omega)
    have w := wt1 (μ 4 i)
    omega
theorem zI.pl (h : zI μ s t τ) : 0 ≤ μ 5 (μ 2 3) ∧ μ 5 (μ 2 3) ≤ 3000 := h.ww.pl _ _ h.a.1 h.a.2 rfl
end K25
/-- a reader under way: since μ0, the jumps that wait, what stands open, the word at hand -/
def zW (s ζ δ b : Int) (Z : Int → Prop) (Lb Ln : List Int) (μ0 μ : ab_m) (t τ H κ o k : Int) : Prop := (zI μ s t τ) ∧ (zF s μ0 μ) ∧ (zCc μ s Lb Ln) ∧ (μ 2 5 = 0 → zG μ s ζ δ b Z H κ) ∧ (μ 2 4 = 0 → μ 2 8 = o) ∧ (μ 2 4 = 0 → μ 4 (μ 2 3) = k)
theorem zW.i {s ζ δ b : Int} {Z : Int → Prop} {Lb Ln : List Int} {μ0 μ : ab_m} {t τ H κ o k : Int} (h'' : zW s ζ δ b Z Lb Ln μ0 μ t τ H κ o k) : zI μ s t τ := h''.1
theorem zW.f {s ζ δ b : Int} {Z : Int → Prop} {Lb Ln : List Int} {μ0 μ : ab_m} {t τ H κ o k : Int} (h'' : zW s ζ δ b Z Lb Ln μ0 μ t τ H κ o k) : zF s μ0 μ := h''.2.1
theorem zW.c {s ζ δ b : Int} {Z : Int → Prop} {Lb Ln : List Int} {μ0 μ : ab_m} {t τ H κ o k : Int} (h'' : zW s ζ δ b Z Lb Ln μ0 μ t τ H κ o k) : zCc μ s Lb Ln := h''.2.2.1
theorem zW.g {s ζ δ b : Int} {Z : Int → Prop} {Lb Ln : List Int} {μ0 μ : ab_m} {t τ H κ o k : Int} (h'' : zW s ζ δ b Z Lb Ln μ0 μ t τ H κ o k) : μ 2 5 = 0 → zG μ s ζ δ b Z H κ := h''.2.2.2.1
theorem zW.op {s ζ δ b : Int} {Z : Int → Prop} {Lb Ln : List Int} {μ0 μ : ab_m} {t τ H κ o k : Int} (h'' : zW s ζ δ b Z Lb Ln μ0 μ t τ H κ o k) : μ 2 4 = 0 → μ 2 8 = o := h''.2.2.2.2.1
theorem zW.kw {s ζ δ b : Int} {Z : Int → Prop} {Lb Ln : List Int} {μ0 μ : ab_m} {t τ H κ o k : Int} (h'' : zW s ζ δ b Z Lb Ln μ0 μ t τ H κ o k) : μ 2 4 = 0 → μ 4 (μ 2 3) = k := h''.2.2.2.2.2
section K25
variable {X : jm_X} {d : Nat} {P : Int → ab_m → Prop} {μ μ' μ0 μ1 : ab_m} {s t τ t' τ' ζ δ b H H' κ κ' o o' k k' : Int} {Z Z' : Int → Prop} {Γ : scG} {Lb Ln : List Int}
/-- what is pending stands -/
def zPf (μ μ' : ab_m) : Prop := ∀ c j, (11 ≤ c ∧ c ≤ 15) ∨ (c = 2 ∧ j = 19) → μ' c j = μ c j
theorem zPf.trans (h : zPf μ0 μ1) (h' : zPf μ1 μ) : zPf μ0 μ := fun c j q => by rw [h' c j q, h c j q]
theorem zW.s' (h : zW s ζ δ b Z Lb Ln μ0 μ t τ H κ o k) : s = 16 ∨ s = 26 := h.i.hs
theorem wW.same {C : Int} (h : wW μ C) (e : ∀ c j, c = 4 ∨ c = 5 → μ' c j = μ c j) : wW μ' C := by
  obtain ⟨a, p, l⟩ := h
  refine ⟨a, fun i x y => ?_, ?_⟩
  · rw [e 5 i (by omega), e 4 i (by omega), e 5 (i + 1) (by omega)]; exact p i x y
  · rw [e 5 _ (by omega), e 4 _ (by omega)]; exact l
/-- only fields of the reader itself change -/
theorem zW.f3 (h : zW s ζ δ b Z Lb Ln μ0 μ t τ H κ o k) (e' : ∀ c j, c ≠ 2 → ¬ (11 ≤ c ∧ c ≤ 15) → μ' c j = μ c j) (ef : ∀ j, ¬ (3 ≤ j ∧ j ≤ 9) → j ≠ 19 → μ' 2 j = μ 2 j) (a : μ 2 3 ≤ μ' 2 3 ∧ μ' 2 3 < μ 3 3) (sf : μ' 2 4 ≠ 0 ∨ μ' 2 7 = 0 → μ' 2 5 ≠ 0) (ft : μ 2 5 ≠ 0 → μ' 2 5 ≠ 0) (st : μ 2 4 ≠ 0 → μ' 2 4 ≠ 0) (ph : μ' 2 4 = 0 → μ s 4 ≤ μ 5 (μ' 2 3) + t' ∧ 2 * μ s 7 ≤ μ 5 (μ' 2 3) + τ' ∧ 0 ≤ μ' 2 8 ∧ μ' 2 8 ≤ 24) (op : μ' 2 4 = 0 → μ' 2 8 = o') (kw : μ' 2 4 = 0 → μ 4 (μ' 2 3) = k') (g : μ' 2 5 = 0 → zG μ s ζ δ b Z' H' κ') : zW s ζ δ b Z' Lb Ln μ0 μ' t' τ' H' κ' o' k' := by
  have hs := h.s'
  have e : ∀ c j, c ≠ 2 ∧ ¬ (11 ≤ c ∧ c ≤ 15) → μ' c j = μ c j := fun c j q => e' c j q.1 q.2
  obtain ⟨i1, i2, i3, i4, i5, i6, i7, i8, i9, i10, i11, i12⟩ := h.i
  have es : ∀ j, μ' s j = μ s j := fun j => e s j (by omega)
  refine ⟨⟨by rw [ef 2 (by omega) (by omega)]; exact i1, i2, by rw [e 3 3 (by omega)]; exact i3.same fun c j q => e c j (by omega), by rw [e 3 3 (by omega)]; omega, sf, by rw [es]; exact i6, fun q => by rw [es, es, e 5 _ (by omega)]; exact ph q, by rw [es, es, es, es]; exact i8, by rw [e 7 3 (by omega), e 7 4 (by omega)]; exact i9, fun i x y q => ?_, by rw [ef 11 (by omega) (by omega)]; exact i11, by rw [ef 10 (by omega) (by omega)]; exact i12⟩, ?_, ?_, fun q => ?_, op, fun q => by rw [e 4 _ (by omega)]; exact kw q⟩
  · rw [e 7 3 (by omega)] at y
    rw [e 9 i (by omega)] at q
    rw [e 10 i (by omega)]
    exact i10 i x y q
  · obtain ⟨a1, a2, a3, a4, a5, a6, a7, a8, a9, a10⟩ := h.f
    refine ⟨fun c j x y z => by rw [e c j ⟨x, fun u => y (by omega)⟩]; exact a1 c j x y z, fun j x y z w => by rw [ef j x w]; exact a2 j x y z w, fun j x y => by rw [es]; exact a3 j x y, fun k x y z => by rw [e (s + 1) k (by omega), e (s + 2) k (by omega)]; exact a4 k x y z, by rw [es]; exact a5, by omega, by rw [e 7 3 (by omega)]; exact a7, by rw [e 7 4 (by omega)]; exact a8, fun q => ft (a9 q), fun q => st (a10 q)⟩
  · exact h.c.same (by rw [es]; exact Int.le_refl _) (fun y _ _ _ => ⟨e (s + 1) y (by omega), e (s + 2) y (by omega)⟩) (ef 12 (by omega) (by omega)) (ef 13 (by omega) (by omega))
  · obtain ⟨Γ, gg⟩ := g q
    exact ⟨Γ, gg.same (fun j _ _ => es j) (fun c j x y => e c j (by omega)) (e 7 3 (by omega)) fun c j x => e c j (by omega)⟩
theorem zW.f2 (h : zW s ζ δ b Z Lb Ln μ0 μ t τ H κ o k) (e : ∀ c j, c ≠ 2 → μ' c j = μ c j) (ef : ∀ j, ¬ (3 ≤ j ∧ j ≤ 9) → j ≠ 19 → μ' 2 j = μ 2 j) (a : μ 2 3 ≤ μ' 2 3 ∧ μ' 2 3 < μ 3 3) (sf : μ' 2 4 ≠ 0 ∨ μ' 2 7 = 0 → μ' 2 5 ≠ 0) (ft : μ 2 5 ≠ 0 → μ' 2 5 ≠ 0) (st : μ 2 4 ≠ 0 → μ' 2 4 ≠ 0) (ph : μ' 2 4 = 0 → μ s 4 ≤ μ 5 (μ' 2 3) + t' ∧ 2 * μ s 7 ≤ μ 5 (μ' 2 3) + τ' ∧ 0 ≤ μ' 2 8 ∧ μ' 2 8 ≤ 24) (op : μ' 2 4 = 0 → μ' 2 8 = o') (kw : μ' 2 4 = 0 → μ 4 (μ' 2 3) = k') (g : μ' 2 5 = 0 → zG μ s ζ δ b Z' H' κ') : zW s ζ δ b Z' Lb Ln μ0 μ' t' τ' H' κ' o' k' :=
  h.f3 (fun c j q _ => e c j q) ef a sf ft st ph op kw g
/-- behind a hard fault nothing counts -/
theorem zW.stop (h : zW s ζ δ b Z Lb Ln μ0 μ t τ H κ o k) (z : μ 2 4 ≠ 0) : ∀ Z' t' τ' H' κ' o' k', zW s ζ δ b Z' Lb Ln μ0 μ t' τ' H' κ' o' k' := fun Z' t' τ' H' κ' o' k' =>
  h.f2 (fun _ _ _ => rfl) (fun _ _ _ => rfl) ⟨Int.le_refl _, h.i.a.2⟩ h.i.sf id id (fun q => absurd q z) (fun q => absurd q z) (fun q => absurd q z) fun q => absurd q (h.i.sf (Or.inl z))
theorem zW.weak (h : zW s ζ δ b Z Lb Ln μ0 μ t τ H κ o k) (a : t ≤ t') (c : τ ≤ τ') (u : κ ≤ κ') : zW s ζ δ b Z Lb Ln μ0 μ t' τ' H κ' o k :=
  h.f2 (fun _ _ _ => rfl) (fun _ _ _ => rfl) ⟨Int.le_refl _, h.i.a.2⟩ h.i.sf id id (fun q => by have := h.i.ph q; omega) h.op h.kw fun q => by
    obtain ⟨Γ, gg⟩ := h.g q
    exact ⟨Γ, ⟨gg.z, gg.b0, by have := gg.cu; omega, gg.rz, gg.rm, gg.st, gg.mi, gg.df, gg.cd, gg.nm, gg.b, gg.ro⟩⟩
/-- a soft fault has been found: what the steps are doesn't count -/
theorem zW.soft (h : zW s ζ δ b Z Lb Ln μ0 μ t τ H κ o k) (z : μ 2 5 ≠ 0) : ∀ Z' H' κ', zW s ζ δ b Z' Lb Ln μ0 μ t τ H' κ' o k := fun Z' H' κ' =>
  h.f2 (fun _ _ _ => rfl) (fun _ _ _ => rfl) ⟨Int.le_refl _, h.i.a.2⟩ h.i.sf id id h.i.ph h.op h.kw fun q => absurd q z
theorem zW.base (h : zW s ζ δ b Z Lb Ln μ0 μ t τ H κ o k) : zW s ζ δ b Z Lb Ln μ μ t τ H κ o k := ⟨h.i, zF.refl, h.c, h.g, h.op, h.kw⟩
theorem zW.back (h : zW s ζ δ b Z Lb Ln μ1 μ t τ H κ o k) (f : zF s μ0 μ1) : zW s ζ δ b Z Lb Ln μ0 μ t τ H κ o k := ⟨h.i, f.trans h.f, h.c, h.g, h.op, h.kw⟩
theorem c_mRe_misfit (h : zW s ζ δ b Z Lb Ln μ0 μ t τ H κ o k) (hP : ∀ μ', μ' 2 4 ≠ 0 → (∀ Z' t' τ' H' κ' o' k', zW s ζ δ b Z' Lb Ln μ0 μ' t' τ' H' κ' o' k') → zPf μ μ' → P 0 μ') : jj_mRe_misfit X d 0 (ab_la [2]) [] μ P := by
  have C := h.i.ww.c
  have a := h.i.a
  have fin : ∀ (v p : Int) (μ4 : ab_m), v ≠ 0 → μ4 = ab_mu (ab_mu (ab_mu (ab_mu μ 2 4 1) 2 7 0) 2 5 v) 2 6 p → P 0 μ4 := by
    intro v p μ4 hv e
    have e' : ∀ c j, c ≠ 2 → μ4 c j = μ c j := fun c j q => by rw [e, mu_ne q, mu_ne q, mu_ne q, mu_ne q]
    have v4 : μ4 2 4 = 1 := by rw [e]; rfl
    have v5 : μ4 2 5 = v := by rw [e]; rfl
    have vo : ∀ j, ¬ (4 ≤ j ∧ j ≤ 7) → μ4 2 j = μ 2 j := fun j q => by rw [e, ab_mud, if_neg (by omega), ab_mud, if_neg (by omega), ab_mud, if_neg (by omega), ab_mud, if_neg (by omega)]
    have w : zW s ζ δ b Z Lb Ln μ0 μ4 t τ H κ o k := h.f2 e' (fun j q _ => vo j (by omega)) (by rw [vo 3 (by omega)]; exact ⟨Int.le_refl _, a.2⟩) (fun _ => by rw [v5]; exact hv) (fun _ => by rw [v5]; exact hv) (fun _ => by rw [v4]; decide) (fun q => by omega) (fun q => by omega) (fun q => by omega) (fun q => by omega)
    exact hP μ4 (by rw [v4]; decide) (w.stop (by rw [v4]; decide)) fun c j q => by
      by_cases c2 : c = 2
      · subst c2; exact vo j (by omega)
      · exact e' c j c2
  refine bk_mRe_misfit_0 rfl ⟨fun z => hP μ z (h.stop z) fun _ _ _ => rfl, fun z => ⟨fun y => by omega, fun y μ1 e1 μ2 e2 => ?_⟩⟩
  have e3 : μ2 2 3 = μ 2 3 := by rw [e2, e1]; rfl
  refine ⟨by omega, fun q μ3 e3' => ⟨?_, fun μ4 e4 => fin 2 (μ3 5 (μ3 2 3)) μ4 (by decide) (by rw [e4]; congr 1; rw [e3', e2, e1])⟩, fun q μ3 e3' => ⟨?_, fun μ4 e4 => fin 1 (μ3 5 (μ3 2 3)) μ4 (by decide) (by rw [e4]; congr 1; rw [e3', e2, e1])⟩⟩
  · rw [e3', ab_mud, if_neg (by decide)]; omega
  · rw [e3', ab_mud, if_neg (by decide)]; omega
theorem c_mRe_soften {v w : Int} (h : zW s ζ δ b Z Lb Ln μ0 μ t τ H κ o k) (hv : v ≠ 0) (hw : 0 ≤ w ∧ w < 3001) (hP : ∀ μ', μ' 2 5 ≠ 0 → (∀ c j, ¬ (c = 2 ∧ (j = 5 ∨ j = 6)) → μ' c j = μ c j) → (∀ Z' H' κ', zW s ζ δ b Z' Lb Ln μ0 μ' t τ H' κ' o k) → zPf μ μ' → P 0 μ') : jj_mRe_soften X d 0 (ab_la [2, v, w]) [] μ P := by
  have fin : ∀ (p : Int) (μ1 μ2 : ab_m), μ1 = ab_mu μ 2 5 v → μ2 = ab_mu μ1 2 6 p → P 0 μ2 := by
    intro p μ1 μ2 e1 e2
    have g : ∀ c j, ¬ (c = 2 ∧ (j = 5 ∨ j = 6)) → μ2 c j = μ c j := fun c j q => by rw [e2, ab_mud, if_neg (by omega), e1, ab_mud, if_neg (by omega)]
    have v5 : μ2 2 5 = v := by rw [e2, e1]; rfl
    have g' : ∀ j, j ≠ 5 → j ≠ 6 → μ2 2 j = μ 2 j := fun j x y => g 2 j (by omega)
    have q3 := g' 3 (by decide) (by decide)
    have q4 := g' 4 (by decide) (by decide)
    have q8 := g' 8 (by decide) (by decide)
    have w : zW s ζ δ b Z Lb Ln μ0 μ2 t τ H κ o k := h.f2 (fun c j q => g c j (by omega)) (fun j q _ => g' j (by omega) (by omega)) (by rw [q3]; exact ⟨Int.le_refl _, h.i.a.2⟩) (fun _ => by rw [v5]; exact hv) (fun _ => by rw [v5]; exact hv) (fun q => by rw [q4]; exact q) (fun q => by rw [q3, q8]; rw [q4] at q; exact h.i.ph q) (fun q => by rw [q8]; rw [q4] at q; exact h.op q) (fun q => by rw [q3]; rw [q4] at q; exact h.kw q) (fun q => by omega)
    exact hP μ2 (by rw [v5]; exact hv) g (w.soft (by rw [v5]; exact hv)) fun c j q => g c j (by omega)
  have no : μ 2 5 ≠ 0 → P 0 μ := fun q => hP μ q (fun _ _ _ => rfl) (h.soft q) fun _ _ _ => rfl
  exact bk_mRe_soften_0 rfl ⟨hw, fun z => no (h.i.sf (Or.inr z)), fun _ => ⟨fun _ μ1 e1 μ2 e2 => fin _ μ1 μ2 e1 e2, fun y => ⟨fun _ μ1 e1 μ2 e2 => fin _ μ1 μ2 e1 e2, fun _ => ⟨fun _ => no y, fun _ => ⟨fun _ => no y, fun _ μ1 e1 μ2 e2 => fin _ μ1 μ2 e1 e2⟩⟩⟩⟩⟩
theorem c_mRe_kind (h : zW s ζ δ b Z Lb Ln μ0 μ t τ H κ o k) (hP : ∀ r, (μ 2 4 ≠ 0 ∧ r = 48) ∨ (μ 2 4 = 0 ∧ r = k ∧ 2 ≤ k ∧ k ≤ 47) → P r μ) : jj_mRe_kind X d 0 (ab_la [2]) [] μ P := by
  have C := h.i.ww.c
  have a := h.i.a
  refine bk_mRe_kind_0 rfl ⟨fun z => hP 48 (Or.inl ⟨z, rfl⟩), fun z => ⟨fun _ => ⟨by omega, hP _ (Or.inr ⟨z, h.kw z, ?_⟩)⟩, fun q => by omega⟩⟩
  have kw := h.kw z
  by_cases q : μ 2 3 = μ 3 3 - 1
  · have l := h.i.ww.l.1
    rw [← q, kw] at l
    omega
  · have p := (h.i.ww.p (μ 2 3) a.1 (by omega)).2.2
    rw [kw] at p
    omega
/-- the word may be gone past, it has w bytes at least -/
abbrev zGo (k w : Int) : Prop := k ≠ 34 ∧ k ≠ 35 ∧ w ≤ wt k
theorem zW.nx (h : zW s ζ δ b Z Lb Ln μ0 μ t τ H κ o k) (z : μ 2 4 = 0) (w : Int) (hk : zGo k w) : μ 2 3 + 1 < μ 3 3 ∧ μ 5 (μ 2 3) + w ≤ μ 5 (μ 2 3 + 1) := by
  have a := h.i.a
  have kw := h.kw z
  have q : μ 2 3 ≠ μ 3 3 - 1 := fun q => by
    have l := h.i.ww.l.1
    rw [← q, kw] at l
    have := hk.1; have := hk.2.1
    omega
  have p := (h.i.ww.p (μ 2 3) a.1 (by omega)).2.1
  rw [kw] at p
  have := hk.2.2
  omega
theorem c_mRe_go {w : Int} (h : zW s ζ δ b Z Lb Ln μ0 μ t τ H κ o k) (hk : zTo (μ 2 4 = 0) (zGo k w)) (hP : ∀ μ', zW s ζ δ b Z Lb Ln μ0 μ' (t - w) (τ - w) H κ o (μ 4 (μ 2 3 + 1)) → (zTo (μ 2 4 = 0) (μ' 2 3 = μ 2 3 + 1)) → (∀ c j, ¬ (c = 2 ∧ j = 3) → μ' c j = μ c j) → P 0 μ') : jj_mRe_go X d 0 (ab_la [2]) [] μ P := by
  have C := h.i.ww.c
  have a := h.i.a
  refine bk_mRe_go_0 rfl ⟨fun z => hP μ (h.stop z _ _ _ _ _ _ _) (fun q => absurd q z) fun _ _ _ => rfl, fun z μ1 e1 => ?_⟩
  rw [show ab_w (μ 2 3 + 1) = μ 2 3 + 1 from ab_wi (by omega) (by omega)] at e1
  have g : ∀ c j, ¬ (c = 2 ∧ j = 3) → μ1 c j = μ c j := fun c j q => by rw [e1, ab_mud, if_neg q]
  have g' : ∀ j, j ≠ 3 → μ1 2 j = μ 2 j := fun j x => g 2 j (by omega)
  have v3 : μ1 2 3 = μ 2 3 + 1 := by rw [e1]; rfl
  have nx := h.nx z w (hk z)
  have ph := h.i.ph z
  exact hP μ1 (h.f2 (fun c j q => g c j (by omega)) (fun j q _ => g' j (by omega)) (by omega) (by rw [g' 4 (by decide), g' 5 (by decide), g' 7 (by decide)]; exact h.i.sf) (fun q => by rw [g' 5 (by decide)]; exact q) (fun q => by rw [g' 4 (by decide)]; exact q) (fun q => by rw [v3, g' 8 (by decide)]; omega) (fun q => by rw [g' 8 (by decide)]; exact h.op z) (fun q => by rw [v3]) (fun q => by rw [g' 5 (by decide)] at q; exact h.g q)) (fun _ => v3) g
theorem c_mRe_nextKind (h : zW s ζ δ b Z Lb Ln μ0 μ t τ H κ o k) (hP : ∀ r, (r = 48 ∧ (μ 2 4 ≠ 0 ∨ μ 3 3 ≤ μ 2 3 + 1)) ∨ (μ 2 4 = 0 ∧ r = μ 4 (μ 2 3 + 1)) → P r μ) : jj_mRe_nextKind X d 0 (ab_la [2]) [] μ P := by
  have C := h.i.ww.c
  have a := h.i.a
  refine bk_mRe_nextKind_0 rfl ?_
  rw [show ab_w (μ 2 3 + 1) = μ 2 3 + 1 from ab_wi (by omega) (by omega)]
  exact ⟨fun z => hP 48 (Or.inl ⟨rfl, Or.inl z⟩), fun z => ⟨fun _ => ⟨by omega, hP _ (Or.inr ⟨z, rfl⟩)⟩, fun y => hP 48 (Or.inl ⟨rfl, Or.inr y⟩)⟩⟩
theorem c_mRe_openOne (h : zW s ζ δ b Z Lb Ln μ0 μ t τ H κ o k) (hP : ∀ μ', zW s ζ δ b Z Lb Ln μ0 μ' t τ H κ (o + 1) k → (zTo (μ' 2 4 = 0) (μ 2 4 = 0 ∧ o + 1 ≤ 24 ∧ μ' 2 5 = μ 2 5)) → (∀ c j, ¬ (c = 2 ∧ 4 ≤ j ∧ j ≤ 8) → μ' c j = μ c j) → P 0 μ') : jj_mRe_openOne X d 0 (ab_la [2]) [] μ P := by
  have C := h.i.ww.c
  have a := h.i.a
  refine bk_mRe_openOne_0 rfl fun μ1 e1 => ?_
  have g : ∀ c j, ¬ (c = 2 ∧ j = 8) → μ1 c j = μ c j := fun c j q => by rw [e1, ab_mud, if_neg q]
  have g' : ∀ j, j ≠ 8 → μ1 2 j = μ 2 j := fun j x => g 2 j (by omega)
  have v8 : μ 2 4 = 0 → μ1 2 8 = o + 1 ∧ 0 ≤ o ∧ o ≤ 24 := fun z => by
    have ph := h.i.ph z
    have op := h.op z
    rw [e1, ab_mud, if_pos ⟨rfl, rfl⟩, show ab_w (μ 2 8 + 1) = μ 2 8 + 1 from ab_wi (by omega) (by omega)]
    omega
  have st : μ1 2 4 ≠ 0 → P 0 μ1 := fun z => by
    have z' : μ 2 4 ≠ 0 := by rw [← g' 4 (by decide)]; exact z
    refine hP μ1 (zW.stop (h.f2 (t' := t) (τ' := τ) (H' := H) (κ' := κ) (o' := o) (k' := k) (Z' := Z) (fun c j q => g c j (by omega)) (fun j q _ => g' j (by omega)) (by rw [g' 3 (by decide)]; exact ⟨Int.le_refl _, a.2⟩) (by rw [g' 4 (by decide), g' 5 (by decide), g' 7 (by decide)]; exact h.i.sf) (fun q => by rw [g' 5 (by decide)]; exact q) (fun q => z) (fun q => absurd q z) (fun q => absurd q z) (fun q => absurd q z) (fun q => by rw [g' 5 (by decide)] at q; exact h.g q)) z _ _ _ _ _ _ _) (fun q => absurd q z) fun c j q => g c j (by omega)
  refine ⟨fun y => ?_, fun y => ⟨fun z => st z, fun z μ2 e2 μ3 e3 μ4 e4 => ⟨?_, fun μ5 e5 => ?_⟩⟩⟩
  · by_cases z : μ1 2 4 = 0
    · have z' : μ 2 4 = 0 := by rw [← g' 4 (by decide)]; exact z
      have v := v8 z'
      have ph := h.i.ph z'
      exact hP μ1 (h.f2 (fun c j q => g c j (by omega)) (fun j q _ => g' j (by omega)) (by rw [g' 3 (by decide)]; exact ⟨Int.le_refl _, a.2⟩) (by rw [g' 4 (by decide), g' 5 (by decide), g' 7 (by decide)]; exact h.i.sf) (fun q => by rw [g' 5 (by decide)]; exact q) (fun q => by rw [g' 4 (by decide)]; exact q) (fun q => by rw [g' 3 (by decide)]; omega) (fun q => v.1) (fun q => by rw [g' 3 (by decide)]; exact h.kw z') (fun q => by rw [g' 5 (by decide)] at q; exact h.g q)) (fun _ => ⟨z', by omega, g' 5 (by decide)⟩) fun c j q => g c j (by omega)
    · exact st z
  · rw [e4, ab_mud, if_neg (by decide), e3, ab_mud, if_neg (by decide), e2, ab_mud, if_neg (by decide), g' 3 (by decide)]; omega
  · have z5 : μ5 2 5 = 5 := by rw [e5, e4]; rfl
    have z4 : μ5 2 4 = 1 := by rw [e5, e4, e3, e2]; rfl
    have vo : ∀ c j, ¬ (c = 2 ∧ 4 ≤ j ∧ j ≤ 8) → μ5 c j = μ c j := fun c j q => by rw [e5, ab_mud, if_neg (by omega), e4, ab_mud, if_neg (by omega), e3, ab_mud, if_neg (by omega), e2, ab_mud, if_neg (by omega), g c j (by omega)]
    have v3 := vo 2 3 (by omega)
    refine hP μ5 (zW.stop (h.f2 (t' := t) (τ' := τ) (H' := H) (κ' := κ) (o' := o) (k' := k) (Z' := Z) (fun c j q => vo c j (by omega)) (fun j q _ => vo 2 j (by omega)) (by rw [v3]; exact ⟨Int.le_refl _, a.2⟩) (fun _ => by omega) (fun _ => by omega) (fun _ => by omega) (fun q => by omega) (fun q => by omega) (fun q => by omega) (fun q => by omega)) (by omega) _ _ _ _ _ _ _) (fun q => by omega) vo
theorem c_mRe_expect {w : Int} (h : zW s ζ δ b Z Lb Ln μ0 μ t τ H κ o k) (hw : w ≠ 34 ∧ w ≠ 35 ∧ w ≠ 48) (hP : ∀ μ' k', zW s ζ δ b Z Lb Ln μ0 μ' (t - wt w) (τ - wt w) H κ o k' → zPf μ μ' → (zTo (μ' 2 4 = 0) (μ 2 4 = 0 ∧ k = w ∧ μ' 2 3 = μ 2 3 + 1)) → P 0 μ') : jj_mRe_expect X (d + 1) 0 (ab_la [2, w]) [] μ P :=
  bk_mRe_expect_0 rfl (c_mRe_kind h fun r hr => ⟨fun _ => c_mRe_misfit h fun μ1 z w1 p1 => hP μ1 0 (w1 _ _ _ _ _ _ _) p1 fun q => absurd q z, fun q => by
    have q' : r = w := q
    rcases hr with hr | hr
    · exact absurd (hr.2.symm.trans q') (Ne.symm hw.2.2)
    · have kw : k = w := hr.2.1.symm.trans q'
      exact c_mRe_go (w := wt w) h (fun _ => ⟨by omega, by omega, by rw [kw]; exact Int.le_refl _⟩) fun μ1 w1 a1 g1 => hP μ1 _ w1 (fun c j q => g1 c j (by omega)) fun _ => ⟨hr.1, kw, a1 hr.1⟩⟩)
/-- open goes down by one -/
theorem zW.down (h : zW s ζ δ b Z Lb Ln μ0 μ t τ H κ (o + 1) k) (o0 : zTo (μ 2 4 = 0) (0 ≤ o)) (e : μ' = ab_mu μ 2 8 (ab_w (μ 2 8 - 1))) : zW s ζ δ b Z Lb Ln μ0 μ' t τ H κ o k ∧ (∀ c j, ¬ (c = 2 ∧ j = 8) → μ' c j = μ c j) := by
  have g : ∀ c j, ¬ (c = 2 ∧ j = 8) → μ' c j = μ c j := fun c j q => by rw [e, ab_mud, if_neg q]
  have g' : ∀ j, j ≠ 8 → μ' 2 j = μ 2 j := fun j x => g 2 j (by omega)
  refine ⟨h.f2 (fun c j q => g c j (by omega)) (fun j q _ => g' j (by omega)) (by rw [g' 3 (by decide)]; exact ⟨Int.le_refl _, h.i.a.2⟩) (by rw [g' 4 (by decide), g' 5 (by decide), g' 7 (by decide)]; exact h.i.sf) (fun q => by rw [g' 5 (by decide)]; exact q) (fun q => by rw [g' 4 (by decide)]; exact q) (fun q => ?_) (fun q => ?_) (fun q => ?_) (fun q => by rw [g' 5 (by decide)] at q; exact h.g q), g⟩
  all_goals rw [g' 4 (by decide)] at q
  · have ph := h.i.ph q
    have op := h.op q
    have := o0 q
    rw [g' 3 (by decide), e, ab_mud, if_pos ⟨rfl, rfl⟩, show ab_w (μ 2 8 - 1) = μ 2 8 - 1 from ab_wi (by omega) (by omega)]
    omega
  · have ph := h.i.ph q
    have op := h.op q
    have := o0 q
    rw [e, ab_mud, if_pos ⟨rfl, rfl⟩, show ab_w (μ 2 8 - 1) = μ 2 8 - 1 from ab_wi (by omega) (by omega)]
    omega
  · rw [g' 3 (by decide)]; exact h.kw q
theorem c_mRe_openRound (h : zW s ζ δ b Z Lb Ln μ0 μ t τ H κ o k) (hP : ∀ μ' k', zW s ζ δ b Z Lb Ln μ0 μ' (t - 1) (τ - 1) H κ (o + 1) k' → zPf μ μ' → (zTo (μ' 2 4 = 0) (μ 2 4 = 0 ∧ o + 1 ≤ 24 ∧ k = 23 ∧ μ' 2 3 = μ 2 3 + 1)) → P 0 μ') : jj_mRe_openRound X (d + 2) 0 (ab_la [2]) [] μ P :=
  bk_mRe_openRound_0 rfl (c_mRe_kind h fun r hr => ⟨fun q => c_mRe_expect h (by decide) fun μ1 k1 w1 p1 a1 => by
    have z : μ1 2 4 ≠ 0 := fun z => by
      have := a1 z
      rcases hr with hr | hr
      · exact hr.1 this.1
      · omega
    exact hP μ1 0 (w1.stop z _ _ _ _ _ _ _) p1 fun q => absurd q z, fun q => c_mRe_openOne h fun μ1 w1 a1 g1 => c_mRe_expect w1 (by decide) fun μ2 k2 w2 p2 a2 => hP μ2 k2 w2 (zPf.trans (fun c j q => g1 c j (by omega)) p2) fun z => by
      have q2 := a2 z
      have q1 := a1 q2.1
      have e := g1 2 3 (by omega)
      exact ⟨q1.1, q1.2.1, q2.2.1, by omega⟩⟩)
theorem c_mRe_closeRound (h : zW s ζ δ b Z Lb Ln μ0 μ t τ H κ (o + 1) k) (o0 : zTo (μ 2 4 = 0) (0 ≤ o)) (hP : ∀ μ' k', zW s ζ δ b Z Lb Ln μ0 μ' (t - 1) (τ - 1) H κ o k' → zPf μ μ' → (zTo (μ' 2 4 = 0) (μ 2 4 = 0)) → P 0 μ') : jj_mRe_closeRound X (d + 2) 0 (ab_la [2]) [] μ P :=
  bk_mRe_closeRound_0 rfl (c_mRe_expect h (by decide) fun μ1 k1 w1 p1 a1 μ2 e2 => by
    have q := w1.down (fun z => o0 (a1 z).1) e2
    exact hP μ2 k1 q.1 (p1.trans fun c j y => q.2 c j (by omega)) fun z => (a1 (by rw [← q.2 2 4 (by omega)]; exact z)).1)
end K25

/-! THE CLASS, part k26: steps and names -/
section K26
variable {X : jm_X} {d : Nat} {P : Int → ab_m → Prop} {μ μ' μ0 μ1 : ab_m} {s t τ t' τ' ζ δ b b' H H' κ κ' o o' k k' : Int} {Z Z' : Int → Prop} {Γ : scG} {Lb Ln Lb' Ln' : List Int}
/-- only steps change -/
theorem zW.stp (h : zW s ζ δ b Z Lb Ln μ0 μ t τ H κ o k) (fr : ∀ c j, ¬ (s ≤ c ∧ c ≤ s + 4) → μ' c j = μ c j) (gs : ∀ j, j ≠ 4 → μ' s j = μ s j) (pk : ∀ k, 0 ≤ k → k < μ0 s 4 → k ≤ 3000 → μ' (s + 1) k = μ (s + 1) k ∧ μ' (s + 2) k = μ (s + 2) k) (n : μ s 4 ≤ μ' s 4 ∧ μ' s 4 ≤ 3002) (ph : μ 2 4 = 0 → μ' s 4 ≤ μ 5 (μ 2 3) + t') (c : zCc μ' s Lb' Ln') (g : μ 2 5 = 0 → zG μ' s ζ δ b Z' H' κ') : zW s ζ δ b Z' Lb' Ln' μ0 μ' t' τ H' κ' o k := by
  have hs := h.s'
  have e2 : ∀ j, μ' 2 j = μ 2 j := fun j => fr 2 j (by omega)
  obtain ⟨i1, i2, i3, i4, i5, i6, i7, i8, i9, i10, i11, i12⟩ := h.i
  obtain ⟨a1, a2, a3, a4, a5, a6, a7, a8, a9, a10⟩ := h.f
  have g7 := gs 7 (by decide)
  refine ⟨⟨by rw [e2]; exact i1, i2, by rw [fr 3 3 (by omega)]; exact i3.same fun c j q => fr c j (by omega), by rw [e2, fr 3 3 (by omega)]; exact i4, by rw [e2, e2, e2]; exact i5, by omega, fun q => ?_, by rw [gs 6 (by decide), g7, gs 8 (by decide), gs 10 (by decide)]; exact i8, by rw [fr 7 3 (by omega), fr 7 4 (by omega)]; exact i9, fun i x y q => ?_, by rw [e2]; exact i11, by rw [e2]; exact i12⟩, ⟨fun c j x y z => by rw [fr c j z]; exact a1 c j x y z, fun j x y z w => by rw [e2]; exact a2 j x y z w, fun j x y => by rw [gs j x]; exact a3 j x y, fun k x y z => by rw [(pk k x y z).1, (pk k x y z).2]; exact a4 k x y z, by omega, by rw [e2]; exact a6, by rw [fr 7 3 (by omega)]; exact a7, by rw [fr 7 4 (by omega)]; exact a8, by rw [e2]; exact a9, by rw [e2]; exact a10⟩, c, fun q => g (by rw [← e2 5]; exact q), fun q => by rw [e2] at q ⊢; exact h.op q, fun q => by rw [e2, fr 4 _ (by omega)]; rw [e2] at q; exact h.kw q⟩
  · rw [e2] at q
    rw [e2, e2, fr 5 _ (by omega), g7]
    exact ⟨ph q, (i7 q).2⟩
  · rw [fr 7 3 (by omega)] at y
    rw [fr 9 i (by omega)] at q
    rw [fr 10 i (by omega)]
    exact i10 i x y q
end K26
def zAd (s : Int) (μ μ' : ab_m) (op arg r : Int) : Prop := (0 ≤ r ∧ r ≤ 3001 ∧ μ s 4 ≤ r + 1) ∧ (μ s 4 ≤ 3001 → r = μ s 4 ∧ zS s μ μ' op arg) ∧ (3002 ≤ μ s 4 → r = 3001) ∧ (∀ c j, ¬ (s ≤ c ∧ c ≤ s + 4) → μ' c j = μ c j)
theorem zAd.r0 {s : Int} {μ μ' : ab_m} {op arg r : Int} (h'' : zAd s μ μ' op arg r) : 0 ≤ r ∧ r ≤ 3001 ∧ μ s 4 ≤ r + 1 := h''.1
theorem zAd.ad {s : Int} {μ μ' : ab_m} {op arg r : Int} (h'' : zAd s μ μ' op arg r) : μ s 4 ≤ 3001 → r = μ s 4 ∧ zS s μ μ' op arg := h''.2.1
theorem zAd.no {s : Int} {μ μ' : ab_m} {op arg r : Int} (h'' : zAd s μ μ' op arg r) : 3002 ≤ μ s 4 → r = 3001 := h''.2.2.1
theorem zAd.fr {s : Int} {μ μ' : ab_m} {op arg r : Int} (h'' : zAd s μ μ' op arg r) : ∀ c j, ¬ (s ≤ c ∧ c ≤ s + 4) → μ' c j = μ c j := h''.2.2.2
section K26
variable {X : jm_X} {d : Nat} {P : Int → ab_m → Prop} {μ μ' μ0 μ1 : ab_m} {s t τ t' τ' ζ δ b b' H H' κ κ' o o' k k' : Int} {Z Z' : Int → Prop} {Γ : scG} {Lb Ln Lb' Ln' : List Int}
theorem c_zadd {q op arg : Int} (h : zW s ζ δ b Z Lb Ln μ0 μ t τ H κ o k) (hq : q = s) (t1 : t ≤ 1) (ha : μ 2 5 = 0 → zA μ s ζ δ Z op arg H H' κ κ') (hP : ∀ r μ', zW s ζ δ b Z Lb Ln μ0 μ' (t + 1) τ H' κ' o k → zAd s μ μ' op arg r → P r μ') : jj_mSc_add X d 0 (ab_la [q, op, arg]) [] μ P := by
  subst hq
  have hs := h.s'
  have n0 := h.i.n
  have f0 := h.f.n
  have pl := h.i.pl
  have nst : μ 2 5 = 0 → μ 2 4 = 0 := fun z => by
    by_cases y : μ 2 4 = 0
    · exact y
    · exact absurd z (h.i.sf (Or.inl y))
  refine bk_mSc_add_0 h.i.hs ?_
  simp only [la0, la1, la2]
  refine ⟨fun z => ⟨by omega, fun μ1 e1 => ?_⟩, fun z => ?_⟩
  · have g1 : μ1 q 4 = μ q 4 := by rw [e1, mu_ne (by omega)]
    rw [g1]
    refine ⟨by omega, fun μ2 e2 => ?_⟩
    have g2 : μ2 q 4 = μ q 4 := by rw [e2, mu_ne (by omega)]; exact g1
    rw [g2]
    refine ⟨by omega, fun μ3 e3 => ?_⟩
    have g3 : μ3 q 4 = μ q 4 := by rw [e3, mu_ne (by omega)]; exact g2
    rw [g3]
    refine ⟨by omega, fun μ4 e4 μ5 e5 => ?_⟩
    have g4 : μ4 q 4 = μ q 4 := by rw [e4, mu_ne (by omega)]; exact g3
    rw [g4, show ab_w (μ q 4 + 1) = μ q 4 + 1 from ab_wi (by omega) (by omega)] at e5
    have n5 : μ5 q 4 = μ q 4 + 1 := by rw [e5, ab_mud, if_pos ⟨rfl, rfl⟩]
    rw [n5, show ab_w (μ q 4 + 1 - 1) = μ q 4 by rw [ab_wi (by omega) (by omega)]; omega]
    have S : zS q μ μ5 op arg := by
      refine ⟨n5, ?_, ?_, ⟨?_, ?_⟩, fun c j x y => ?_⟩
      · rw [e5, mu_ne (by omega), e4, mu_ne (by omega), e3, mu_ne (by omega), e2, mu_ne (by omega), e1, ab_mud, if_pos ⟨rfl, rfl⟩]
      · rw [e5, mu_ne (by omega), e4, mu_ne (by omega), e3, mu_ne (by omega), e2, ab_mud, if_pos ⟨rfl, rfl⟩]
      · rw [e5, mu_ne (by omega), e4, mu_ne (by omega), e3, ab_mud, if_pos ⟨rfl, rfl⟩]
      · rw [e5, mu_ne (by omega), e4, ab_mud, if_pos ⟨rfl, rfl⟩]
      · rw [e5, ab_mud, if_neg x, e4, ab_mud, if_neg (by omega), e3, ab_mud, if_neg (by omega), e2, ab_mud, if_neg (by omega), e1, ab_mud, if_neg (by omega)]
    have pk : ∀ k, k < μ q 4 → μ5 (q + 1) k = μ (q + 1) k ∧ μ5 (q + 2) k = μ (q + 2) k := fun k y => ⟨S.f _ k (by omega) (by omega), S.f _ k (by omega) (by omega)⟩
    exact hP _ μ5 (h.stp (fun c j y => S.f c j (by omega) (by omega)) (fun j y => S.f q j (by omega) (by omega)) (fun k _ y _ => pk k (by omega)) (by omega) (fun y => by have := h.i.ph y; omega) (h.c.same (by omega) (fun y _ y1 _ => pk y y1) (S.f 2 12 (by omega) (by omega)) (S.f 2 13 (by omega) (by omega))) fun y => by
      obtain ⟨Γ, gg⟩ := h.g y
      exact gg.add hs (ha y) n0.1 S) ⟨by omega, fun _ => ⟨rfl, S⟩, fun y => by omega, fun c j y => S.f c j (by omega) (by omega)⟩
  · have st : μ 2 4 ≠ 0 := fun y => by have := h.i.ph y; omega
    exact hP _ μ (h.stop st _ _ _ _ _ _ _) ⟨by omega, fun y => by omega, fun _ => rfl, fun _ _ _ => rfl⟩
theorem c_mNa_find {x y kd : Int} (hc : 0 ≤ μ 7 3 ∧ μ 7 3 ≤ 1500) (hP : ∀ r, r = -1 ∨ (∃ i, 0 ≤ i ∧ i < μ 7 3 ∧ μ 9 i = kd ∧ r = μ 10 i) → P r μ) : jj_mNa_find X d 0 (ab_la [7, x, y, kd]) [] μ P := by
  have s8 : ∀ (m : Nat) (l : ab_l) (i : Int), l 0 = 7 → l 3 = kd → l 4 = i → -1 ≤ i → i < μ 7 3 → (i + 1).toNat = m → jj_mNa_find X d 8 l [] μ P := by
    intro m
    induction m with
    | zero =>
      intro l i l0 l3 l4 a c e
      refine bk_mNa_find_8 l0 ?_
      rw [l4]
      exact ⟨fun _ => hP _ (Or.inl rfl), fun q => by omega⟩
    | succ m ih =>
      intro l i l0 l3 l4 a c e
      refine bk_mNa_find_8 l0 ?_
      rw [l4, l3, show ab_w (i + -1) = i - 1 from ab_wi (by omega) (by omega)]
      exact ⟨fun _ => hP _ (Or.inl rfl), fun q => ⟨by omega, fun _ => ih _ (i - 1) l0 l3 rfl (by omega) (by omega) (by omega), fun _ => ⟨by omega, fun _ => hP _ (Or.inl rfl), fun z => ⟨by omega, hP _ (Or.inr ⟨i, q, c, z, rfl⟩)⟩⟩⟩⟩
  refine bk_mNa_find_0 rfl ?_
  rw [show ab_w (μ 7 3 - 1) = μ 7 3 - 1 from ab_wi (by omega) (by omega)]
  exact s8 _ _ (μ 7 3 - 1) rfl rfl rfl (by omega) (by omega) rfl
theorem c_mNa_isInBlock {x y : Int} (hc : (0 ≤ μ 7 3 ∧ μ 7 3 ≤ 1500) ∧ 0 ≤ μ 7 4) (hP : ∀ r, P r μ) : jj_mNa_isInBlock X d 0 (ab_la [7, x, y]) [] μ P := by
  have s5 : ∀ (m : Nat) (l : ab_l) (i : Int), l 0 = 7 → l 3 = i → 0 ≤ i → (μ 7 3 - i).toNat = m → jj_mNa_isInBlock X d 5 l [] μ P := by
    intro m
    induction m with
    | zero =>
      intro l i l0 l3 a e
      refine bk_mNa_isInBlock_5 l0 ?_
      rw [l3]
      exact ⟨fun _ => hP _, fun q => by omega⟩
    | succ m ih =>
      intro l i l0 l3 a e
      refine bk_mNa_isInBlock_5 l0 ?_
      rw [l3, show ab_w (i + 1) = i + 1 from ab_wi (by omega) (by omega)]
      exact ⟨fun _ => hP _, fun q => ⟨by omega, fun _ => ih _ (i + 1) l0 rfl (by omega) (by omega), fun _ => hP _⟩⟩
  exact bk_mNa_isInBlock_0 rfl (s5 _ _ (μ 7 4) rfl rfl hc.2 rfl)
end K26
/-- a name is told, or there is no room -/
def zTl (μ μ' : ab_m) (kd v : Int) : Prop := (μ 7 3 ≤ μ' 7 3 ∧ μ' 7 3 ≤ 1500) ∧ (∀ i, 0 ≤ i → i < μ' 7 3 → (i < μ 7 3 ∧ μ' 9 i = μ 9 i ∧ μ' 10 i = μ 10 i) ∨ (μ 7 3 ≤ i ∧ μ' 9 i = kd ∧ μ' 10 i = v)) ∧ (∀ c j, ¬ (8 ≤ c ∧ c ≤ 10) → ¬ (c = 7 ∧ j = 3) → μ' c j = μ c j)
theorem zTl.c {μ μ' : ab_m} {kd v : Int} (h'' : zTl μ μ' kd v) : μ 7 3 ≤ μ' 7 3 ∧ μ' 7 3 ≤ 1500 := h''.1
theorem zTl.e {μ μ' : ab_m} {kd v : Int} (h'' : zTl μ μ' kd v) : ∀ i, 0 ≤ i → i < μ' 7 3 → (i < μ 7 3 ∧ μ' 9 i = μ 9 i ∧ μ' 10 i = μ 10 i) ∨ (μ 7 3 ≤ i ∧ μ' 9 i = kd ∧ μ' 10 i = v) := h''.2.1
theorem zTl.f {μ μ' : ab_m} {kd v : Int} (h'' : zTl μ μ' kd v) : ∀ c j, ¬ (8 ≤ c ∧ c ≤ 10) → ¬ (c = 7 ∧ j = 3) → μ' c j = μ c j := h''.2.2
section K26
variable {X : jm_X} {d : Nat} {P : Int → ab_m → Prop} {μ μ' μ0 μ1 : ab_m} {s t τ t' τ' ζ δ b b' H H' κ κ' o o' k k' : Int} {Z Z' : Int → Prop} {Γ : scG} {Lb Ln Lb' Ln' : List Int}
theorem c_mNa_tell {x y kd v : Int} (hc : 0 ≤ μ 7 3 ∧ μ 7 3 ≤ 1500) (hP : ∀ μ', zTl μ μ' kd v → P 0 μ') : jj_mNa_tell X d 0 (ab_la [7, x, y, kd, v]) [] μ P := by
  refine bk_mNa_tell_0 rfl ⟨fun z => hP μ ⟨by omega, fun i a c => Or.inl ⟨c, rfl, rfl⟩, fun _ _ _ _ => rfl⟩, fun z => ⟨by omega, fun μ1 e1 => ?_⟩⟩
  have g1 : μ1 7 3 = μ 7 3 := by rw [e1, mu_ne (by decide)]
  rw [g1]
  refine ⟨by omega, fun μ2 e2 => ?_⟩
  have g2 : μ2 7 3 = μ 7 3 := by rw [e2, mu_ne (by decide)]; exact g1
  rw [g2]
  refine ⟨by omega, fun μ3 e3 μ4 e4 => ?_⟩
  have g3 : μ3 7 3 = μ 7 3 := by rw [e3, mu_ne (by decide)]; exact g2
  rw [g3, show ab_w (μ 7 3 + 1) = μ 7 3 + 1 from ab_wi (by omega) (by omega)] at e4
  have n4 : μ4 7 3 = μ 7 3 + 1 := by rw [e4, ab_mud, if_pos ⟨rfl, rfl⟩]
  refine hP μ4 ⟨by omega, fun i a c => ?_, fun c j y1 y2 => ?_⟩
  · by_cases q : i = μ 7 3
    · refine Or.inr ⟨by omega, ?_, ?_⟩
      · rw [e4, mu_ne (by decide), e3, mu_ne (by decide), e2, ab_mud, if_pos ⟨rfl, q⟩]; rfl
      · rw [e4, mu_ne (by decide), e3, ab_mud, if_pos ⟨rfl, q⟩]; rfl
    · refine Or.inl ⟨by omega, ?_, ?_⟩
      · rw [e4, mu_ne (by decide), e3, mu_ne (by decide), e2, ab_mud, if_neg (by omega), e1, mu_ne (by decide)]
      · rw [e4, mu_ne (by decide), e3, ab_mud, if_neg (by omega), e2, mu_ne (by decide), e1, mu_ne (by decide)]
  · rw [e4, ab_mud, if_neg y2, e3, ab_mud, if_neg (by omega), e2, ab_mud, if_neg (by omega), e1, ab_mud, if_neg (by omega)]
theorem zNa.tl {kd v x : Int} (hs : s = 16 ∨ s = 26) (h : zNa μ s ζ δ x) (e : zTl μ μ' kd v) : zNa μ' s ζ δ x := by
  unfold zNa
  rw [e.f s 6 (by omega) (by omega), e.f s 4 (by omega) (by omega), e.f (s + 8) _ (by omega) (by omega), e.f (s + 9) _ (by omega) (by omega)]
  rcases h with q | q | ⟨j, q⟩
  · exact Or.inl q
  · exact Or.inr (Or.inl q)
  · exact Or.inr (Or.inr ⟨j, by rw [e.f (s + 1) _ (by omega) (by omega), e.f (s + 2) _ (by omega) (by omega)]; exact q⟩)
theorem zGG.tell {kd v : Int} (hs : s = 16 ∨ s = 26) (gg : zGG μ s Γ ζ δ b Z H κ) (e : zTl μ μ' kd v) (hg : (kd = 0 → (0 ≤ v ∧ v < 3000) ∧ zNa μ s ζ δ v) ∧ (kd = 1 → 0 ≤ v ∧ v < μ s 8) ∧ (kd = 2 → 0 ≤ v ∧ v < rho μ s δ)) (hb : b' = b ∨ (b = μ 7 3 ∧ b' = μ' 7 3 ∧ (kd = 0 → v < μ s 6))) : zGG μ' s Γ ζ δ b' Z H κ := by
  have f := e.f
  have ec := e.c
  have es : ∀ j, μ' s j = μ s j := fun j => f s j (by omega) (by omega)
  have er : rho μ' s δ = rho μ s δ := by unfold rho; rw [es]
  have gb := gg.b
  have hb' : 0 ≤ b' ∧ b' ≤ μ' 7 3 := by rcases hb with c | c <;> omega
  refine gg.grow (es 4) (by rw [es]; exact Int.le_refl _) (by rw [es]; exact Int.le_refl _) (by rw [es]; exact Int.le_refl _) er (fun c j _ _ => f c j (by omega) (by omega)) (fun c j _ _ _ => f c j (by omega) (by omega)) (by rw [es, f (s + 8) _ (by omega) (by omega), f (s + 9) _ (by omega) (by omega)]; exact gg.cd) (fun i x y => ?_) hb' fun x p r => by rw [f (s + 5) _ (by omega) (by omega)]; rw [es] at r; exact gg.ro x p r
  obtain ⟨k0, k1, k2⟩ := hg
  rcases e.e i x y with w | w
  · obtain ⟨n1, n2, n3⟩ := gg.nm i x w.1
    refine ⟨?_, by rw [w.2.1, w.2.2, es]; exact n2, by rw [w.2.1, w.2.2, er]; exact n3⟩
    rw [w.2.1, w.2.2, es]
    intro u
    have n1 := n1 u
    clear k0 k1 k2 n2 n3
    refine ⟨n1.1, ?_⟩
    rcases n1.2 with v | v
    · exact Or.inl v
    · rcases hb with c | c
      · exact Or.inr ⟨by omega, v.2.tl hs e⟩
      · have := v.1; have := c.1; have := w.1; omega
  · refine ⟨?_, by rw [w.2.1, w.2.2, es]; exact k1, by rw [w.2.1, w.2.2, er]; exact k2⟩
    rw [w.2.1, w.2.2, es]
    intro u
    have k0 := k0 u
    clear k1 k2
    refine ⟨k0.1, ?_⟩
    rcases hb with c | c
    · exact Or.inr ⟨by omega, k0.2.tl hs e⟩
    · exact Or.inl ⟨k0.1.1, c.2.2 u⟩
theorem zW.tell {kd v : Int} (h : zW s ζ δ b Z Lb Ln μ0 μ t τ H κ o k) (e : zTl μ μ' kd v) (h2 : kd = 2 → 0 ≤ v ∧ v < 15) (hg : μ 2 5 = 0 → (kd = 0 → (0 ≤ v ∧ v < 3000) ∧ zNa μ s ζ δ v) ∧ (kd = 1 → 0 ≤ v ∧ v < μ s 8) ∧ (kd = 2 → 0 ≤ v ∧ v < rho μ s δ)) (hb : b' = b ∨ (b = μ 7 3 ∧ b' = μ' 7 3 ∧ (μ 2 5 = 0 → kd = 0 → v < μ s 6))) : zW s ζ δ b' Z Lb Ln μ0 μ' t τ H κ o k := by
  have hs := h.s'
  have ec := e.c
  have f := e.f
  have es : ∀ j, μ' s j = μ s j := fun j => f s j (by omega) (by omega)
  have e2 : ∀ j, μ' 2 j = μ 2 j := fun j => f 2 j (by omega) (by omega)
  obtain ⟨i1, i2, i3, i4, i5, i6, i7, i8, i9, i10, i11, i12⟩ := h.i
  obtain ⟨a1, a2, a3, a4, a5, a6, a7, a8, a9, a10⟩ := h.f
  refine ⟨⟨by rw [e2]; exact i1, i2, by rw [f 3 3 (by omega) (by omega)]; exact i3.same fun c j q => f c j (by omega) (by omega), by rw [e2, f 3 3 (by omega) (by omega)]; exact i4, by rw [e2, e2, e2]; exact i5, by rw [es]; exact i6, by rw [e2, e2, e2, es, es, f 5 _ (by omega) (by omega)]; exact i7, by rw [es, es, es, es]; exact i8, by rw [f 7 4 (by omega) (by omega)]; omega, fun i x y q => ?_, by rw [e2]; exact i11, by rw [e2]; exact i12⟩, ⟨fun c j x y z => by rw [f c j (by omega) (by omega)]; exact a1 c j x y z, fun j x y z w => by rw [e2]; exact a2 j x y z w, fun j x y => by rw [es]; exact a3 j x y, fun k x y z => by rw [f (s + 1) k (by omega) (by omega), f (s + 2) k (by omega) (by omega)]; exact a4 k x y z, by rw [es]; exact a5, by rw [e2]; exact a6, by omega, by rw [f 7 4 (by omega) (by omega)]; exact a8, by rw [e2]; exact a9, by rw [e2]; exact a10⟩, h.c.same (by rw [es]; exact Int.le_refl _) (fun y _ _ _ => ⟨f (s + 1) y (by omega) (by omega), f (s + 2) y (by omega) (by omega)⟩) (e2 12) (e2 13), fun q => ?_, by rw [e2, e2]; exact h.op, by rw [e2, e2, f 4 _ (by omega) (by omega)]; exact h.kw⟩
  · rcases e.e i x y with w | w
    · rw [w.2.1] at q; rw [w.2.2]; exact i10 i x w.1 q
    · rw [w.2.1] at q; rw [w.2.2]; exact h2 q
  · rw [e2] at q
    obtain ⟨Γ, gg⟩ := h.g q
    refine ⟨Γ, gg.tell hs e (hg q) ?_⟩
    rcases hb with c | c
    · exact Or.inl c
    · exact Or.inr ⟨c.1, c.2.1, c.2.2 q⟩
theorem zW.at3 (h : zW s ζ δ b Z Lb Ln μ0 μ t τ H κ o k) : 0 ≤ μ 2 3 ∧ μ 2 3 < 3001 := by
  have := h.i.a; have := h.i.ww.c; omega
theorem c_mRe_tellName {kd v : Int} (h : zW s ζ δ b Z Lb Ln μ0 μ t τ H κ o k) (h2 : kd = 2 → 0 ≤ v ∧ v < 15) (hg : μ 2 5 = 0 → (kd = 0 → (0 ≤ v ∧ v < 3000) ∧ zNa μ s ζ δ v) ∧ (kd = 1 → 0 ≤ v ∧ v < μ s 8) ∧ (kd = 2 → 0 ≤ v ∧ v < rho μ s δ)) (hP : ∀ μ', (∀ b', b' = b ∨ (b = μ 7 3 ∧ b' = μ' 7 3 ∧ (μ 2 5 = 0 → kd = 0 → v < μ s 6)) → zW s ζ δ b' Z Lb Ln μ0 μ' t τ H κ o k) → (∀ c j, ¬ (7 ≤ c ∧ c ≤ 10) → ¬ (c = 2 ∧ (j = 5 ∨ j = 6)) → μ' c j = μ c j) → (zTo (μ 2 5 ≠ 0) (μ' 2 5 ≠ 0)) → P 0 μ') : jj_mRe_tellName X (d + 1) 0 (ab_la [2, kd, v]) [] μ P := by
  have nc := h.i.nc
  refine bk_mRe_tellName_0 rfl ⟨h.at3, c_mNa_isInBlock nc fun r => ⟨fun _ => c_mNa_tell nc.1 fun μ1 e1 => hP μ1 (fun b' q => h.tell e1 h2 hg q) (fun c j x y => e1.f c j (by omega) (by omega)) ?_, fun _ => c_mRe_soften h (by decide) h.at3 fun μ1 f1 g1 w1 p1 => c_mNa_tell (by rw [g1 7 3 (by omega)]; exact nc.1) fun μ2 e2 => hP μ2 (fun b' q => (w1 Z H κ).tell e2 h2 (fun z => absurd z f1) ?_) (fun c j x y => by rw [e2.f c j (by omega) (by omega), g1 c j (by omega)]) ?_⟩⟩
  · rw [e1.f 2 5 (by omega) (by omega)]; exact id
  · rcases q with q | q
    · exact Or.inl q
    · exact Or.inr ⟨by rw [g1 7 3 (by omega)]; exact q.1, q.2.1, fun z => absurd z f1⟩
  · rw [e2.f 2 5 (by omega) (by omega)]; exact fun _ => f1
end K26

/-! THE CLASS, part k27: names that are wanted, ints that are told -/
section K27
variable {X : jm_X} {d : Nat} {P : Int → ab_m → Prop} {μ μ' μ0 μ1 : ab_m} {s t τ t' τ' ζ δ b b' H H' κ κ' o o' k k' : Int} {Z Z' : Int → Prop} {Γ : scG} {Lb Ln Lb' Ln' : List Int}
end K27
/-- the number r stands for a name of the kind -/
def zNg (μ : ab_m) (s ζ δ kd r : Int) : Prop := (kd = 0 → (0 ≤ r ∧ r < 3000) ∧ zNa μ s ζ δ r) ∧ (kd = 1 → 0 ≤ r ∧ r < μ s 8) ∧ (kd = 2 → 0 ≤ r ∧ r < rho μ s δ)
theorem zNg.n {μ : ab_m} {s ζ δ kd r : Int} (h'' : zNg μ s ζ δ kd r) : kd = 0 → (0 ≤ r ∧ r < 3000) ∧ zNa μ s ζ δ r := h''.1
theorem zNg.w {μ : ab_m} {s ζ δ kd r : Int} (h'' : zNg μ s ζ δ kd r) : kd = 1 → 0 ≤ r ∧ r < μ s 8 := h''.2.1
theorem zNg.d {μ : ab_m} {s ζ δ kd r : Int} (h'' : zNg μ s ζ δ kd r) : kd = 2 → 0 ≤ r ∧ r < rho μ s δ := h''.2.2
section K27
variable {X : jm_X} {d : Nat} {P : Int → ab_m → Prop} {μ μ' μ0 μ1 : ab_m} {s t τ t' τ' ζ δ b b' H H' κ κ' o o' k k' : Int} {Z Z' : Int → Prop} {Γ : scG} {Lb Ln Lb' Ln' : List Int}
theorem zGG.find {i : Int} (h : zGG μ s Γ ζ δ b Z H κ) (a : 0 ≤ i) (c : i < μ 7 3) : zNg μ s ζ δ (μ 9 i) (μ 10 i) := by
  obtain ⟨n1, n2, n3⟩ := h.nm i a c
  refine ⟨fun q => ⟨(n1 q).1, ?_⟩, n2, n3⟩
  rcases (n1 q).2 with w | w
  · exact Or.inl w
  · exact w.2
theorem zNg.max {kd r : Int} (h : zNg μ s ζ δ kd r) (hk : kd = 0 ∨ kd = 1 ∨ kd = 2) : zNg μ s ζ δ kd (if r < 0 then 0 else r) := by
  have r0 : 0 ≤ r := by
    rcases hk with e | e | e
    · exact (h.n e).1.1
    · exact (h.w e).1
    · exact (h.d e).1
  rw [if_neg (by omega)]
  exact h
theorem c_mRe_wanted {w kd : Int} (h : zW s ζ δ b Z Lb Ln μ0 μ t τ H κ o k) (hw : 0 ≤ w ∧ w < 3001) (hk : kd = 0 ∨ kd = 1) (hP : ∀ r μ', zW s ζ δ b Z Lb Ln μ0 μ' t τ H κ o k → (zTo (μ' 2 5 = 0) (zNg μ' s ζ δ kd r)) → (∀ c j, ¬ (c = 2 ∧ (j = 5 ∨ j = 6)) → μ' c j = μ c j) → P r μ') : jj_mRe_wanted X (d + 1) 0 (ab_la [2, w, kd]) [] μ P := by
  refine bk_mRe_wanted_0 rfl ⟨hw, c_mNa_find h.i.nc.1 fun r hr => ⟨fun q => hP _ μ h (fun z => ?_) fun _ _ _ => rfl, fun q => c_mRe_soften h (by decide) hw fun μ1 f1 g1 w1 p1 => hP _ μ1 (w1 Z H κ) (fun z => absurd z f1) g1⟩⟩
  rcases hr with hr | ⟨i, a, c, e1, e2⟩
  · exact absurd hr q
  · obtain ⟨Γ, gg⟩ := h.g z
    have := gg.find a c
    rw [e1, ← e2] at this
    exact this.max (hk.elim Or.inl fun q => Or.inr (Or.inl q))
/-- more locals -/
theorem zW.lc (h : zW s ζ δ b Z Lb Ln μ0 μ t τ H κ o k) (e : ∀ c j, ¬ (c = s ∧ j = 7) → μ' c j = μ c j) (l : (0 ≤ μ' s 7 ∧ μ' s 7 ≤ 1499) ∧ μ' s 7 ≤ μ s 7 + 1) : zW s ζ δ b Z Lb Ln μ0 μ' t (τ + 2) H κ o k := by
  have hs := h.s'
  have es : ∀ j, j ≠ 7 → μ' s j = μ s j := fun j q => e s j (by omega)
  have ec : ∀ c j, c ≠ s → μ' c j = μ c j := fun c j q => e c j (by omega)
  have s2 : (2 : Int) ≠ s := by omega
  have e2 : ∀ j, μ' 2 j = μ 2 j := fun j => ec 2 j s2
  have e1 : ∀ j, μ' (s + 1) j = μ (s + 1) j := fun j => ec _ j (by omega)
  have e3 : ∀ j, μ' (s + 2) j = μ (s + 2) j := fun j => ec _ j (by omega)
  have w45 : ∀ c j, c = 4 ∨ c = 5 → μ' c j = μ c j := fun c j q => ec c j (by omega)
  have w7 : ∀ c j, 7 ≤ c ∧ c ≤ 10 → μ' c j = μ c j := fun c j q => ec c j (by omega)
  have w33 := ec 3 3 (by omega)
  have w73 := w7 7 3 (by omega)
  have w74 := w7 7 4 (by omega)
  obtain ⟨i1, i2, i3, i4, i5, i6, i7, i8, i9, i10, i11, i12⟩ := h.i
  obtain ⟨a1, a2, a3, a4, a5, a6, a7, a8, a9, a10⟩ := h.f
  refine ⟨⟨by rw [e2]; exact i1, i2, by rw [w33]; exact i3.same w45, by rw [e2, w33]; exact i4, by rw [e2, e2, e2]; exact i5, by rw [es 4 (by decide)]; exact i6, fun q => ?_, by rw [es 6 (by decide), es 8 (by decide), es 10 (by decide)]; exact ⟨i8.1, l.1, i8.2.2⟩, by rw [w73, w74]; exact i9, fun i x y q => ?_, by rw [e2]; exact i11, by rw [e2]; exact i12⟩, ⟨fun c j x y z => by rw [ec c j (fun u => z (by omega))]; exact a1 c j x y z, fun j x y z w => by rw [e2]; exact a2 j x y z w, fun j x y => by rw [es j y]; exact a3 j x y, fun k x y z => by rw [e1, e3]; exact a4 k x y z, by rw [es 4 (by decide)]; exact a5, by rw [e2]; exact a6, by rw [w73]; exact a7, by rw [w74]; exact a8, by rw [e2]; exact a9, by rw [e2]; exact a10⟩, h.c.same (by rw [es 4 (by decide)]; exact Int.le_refl _) (fun y _ _ _ => ⟨e1 y, e3 y⟩) (e2 12) (e2 13), fun q => ?_, by rw [e2, e2]; exact h.op, by rw [e2, e2, w45 4 _ (Or.inl rfl)]; exact h.kw⟩
  · rw [e2] at q
    rw [e2, e2, w45 5 _ (Or.inr rfl), es 4 (by decide)]
    have := i7 q
    exact ⟨this.1, by have := l.2; omega, this.2.2⟩
  · rw [w73] at y
    rw [w7 9 i (by decide)] at q
    rw [w7 10 i (by decide)]
    exact i10 i x y q
  · rw [e2] at q
    obtain ⟨Γ, gg⟩ := h.g q
    clear i5 i7 a9 a10
    exact ⟨Γ, gg.same (fun j _ y => es j y) (fun c j x y => ec c j (by omega)) w73 fun c j x => w7 c j (by omega)⟩
theorem c_ztakeLocal {q : Int} (h : zW s ζ δ b Z Lb Ln μ0 μ t τ H κ o k) (hq : q = s) (hP : ∀ r μ', zW s ζ δ b Z Lb Ln μ0 μ' t (τ + 2) H κ o k → (1500 ≤ r ∧ r < 2999 ∧ r = 1499 + μ' s 7) → (∀ c j, ¬ (c = s ∧ j = 7) → μ' c j = μ c j) → (zTo (μ s 7 < 1499) (μ' s 7 = μ s 7 + 1)) → P r μ') : jj_mSc_takeLocal X d 0 (ab_la [q]) [] μ P := by
  subst hq
  have nu := h.i.nu.2.1
  refine bk_mSc_takeLocal_0 h.i.hs ?_
  simp only [la0]
  refine ⟨fun z => ?_, fun z μ1 e1 => ?_⟩
  · rw [show ab_w (ab_w (1500 + μ q 7) - 1) = 1499 + μ q 7 by rw [ab_wi (x := 1500 + μ q 7) (by omega) (by omega), ab_wi (by omega) (by omega)]; omega]
    exact hP _ μ (h.lc (fun _ _ _ => rfl) (by omega)) (by omega) (fun _ _ _ => rfl) fun y => by omega
  · rw [show ab_w (μ q 7 + 1) = μ q 7 + 1 from ab_wi (by omega) (by omega)] at e1
    have v : μ1 q 7 = μ q 7 + 1 := by rw [e1, ab_mud, if_pos ⟨rfl, rfl⟩]
    have g : ∀ c j, ¬ (c = q ∧ j = 7) → μ1 c j = μ c j := fun c j y => by rw [e1, ab_mud, if_neg y]
    rw [v, show ab_w (ab_w (1500 + (μ q 7 + 1)) - 1) = 1499 + (μ q 7 + 1) by rw [ab_wi (x := 1500 + (μ q 7 + 1)) (by omega) (by omega), ab_wi (by omega) (by omega)]; omega]
    exact hP _ μ1 (h.lc g (by omega)) (by omega) g fun _ => v
theorem zA_31 (h : 0 ≤ H) (u : 0 ≤ κ ∧ κ ≤ 30) : zA μ s ζ δ Z 31 0 H H κ (κ + 1) := zA.of (hv'' := by unfold scHv; omega) (h0'' := h) (k30'' := u.2)
theorem zA_30 {v : Int} (h : 0 ≤ H) (u : 0 ≤ κ ∧ κ ≤ 30) (u' : 0 ≤ κ') (hv : 0 ≤ v ∧ v < 3000) : zA μ s ζ δ Z 30 v H H κ κ' := zA.of (hv'' := by unfold scHv; omega) (h0'' := h) (k30'' := u.2) (nm'' := fun _ => hv)
theorem zA_0 {v : Int} (h : 0 ≤ H) (u : 0 ≤ κ ∧ κ ≤ 30) : zA μ s ζ δ Z 0 v H (H + 1) κ κ := zA.of (hv'' := by unfold scHv; omega) (h0'' := by omega) (k30'' := u.2)
theorem zA_1 {v : Int} (h : 0 ≤ H) (u : 0 ≤ κ ∧ κ ≤ 30) (g : zNg μ s ζ δ 0 v) : zA μ s ζ δ Z 1 v H (H + 1) κ κ := zA.of (hv'' := by unfold scHv; omega) (h0'' := by omega) (k30'' := u.2) (nm'' := fun _ => (g.n rfl).1) (td'' := fun _ => (g.n rfl).2)
theorem zA_23 {v : Int} (h : 0 ≤ H) (u : 0 ≤ κ ∧ κ ≤ 30) (u' : 0 ≤ κ') (g : zNg μ s ζ δ 0 v) : zA μ s ζ δ Z 23 v H H κ κ' := zA.of (hv'' := by unfold scHv; omega) (h0'' := by omega) (k30'' := u.2) (nm'' := fun _ => (g.n rfl).1) (td'' := fun _ => (g.n rfl).2)
theorem zA_29 {v : Int} (h : 0 ≤ H) (u : 0 ≤ κ ∧ κ ≤ 30) (u' : 0 ≤ κ') (g : zNg μ s ζ δ 0 v) : zA μ s ζ δ Z 29 v (H + 1) H κ κ' := zA.of (hv'' := by unfold scHv; omega) (h0'' := by omega) (k30'' := u.2) (nm'' := fun _ => (g.n rfl).1) (td'' := fun _ => (g.n rfl).2)
theorem zA_b {op : Int} (ho : 2 ≤ op ∧ op ≤ 17) (h : 2 ≤ H) (u : 0 ≤ κ ∧ κ ≤ 30) : zA μ s ζ δ Z op 0 H (H - 1) κ κ := zA.of (hv'' := by unfold scHv; omega) (h0'' := by omega) (k30'' := u.2)
theorem zA_u {op : Int} (ho : 18 ≤ op ∧ op ≤ 20) (h : 1 ≤ H) (u : 0 ≤ κ ∧ κ ≤ 30) : zA μ s ζ δ Z op 0 H H κ κ := zA.of (hv'' := by unfold scHv; omega) (h0'' := by omega) (k30'' := u.2)
theorem zA_21 {v : Int} (h : 1 ≤ H) (u : 0 ≤ κ ∧ κ ≤ 30) (g : zNg μ s ζ δ 1 v) : zA μ s ζ δ Z 21 v H H κ κ := zA.of (hv'' := by unfold scHv; omega) (h0'' := by omega) (k30'' := u.2) (rw'' := fun _ => g.w rfl)
theorem zA_22 {v : Int} (h : 0 ≤ H) (u : 0 ≤ κ ∧ κ ≤ 30) (u' : 0 ≤ κ') (g : zNg μ s ζ δ 1 v) : zA μ s ζ δ Z 22 v (H + 2) H κ κ' := zA.of (hv'' := by unfold scHv; omega) (h0'' := by omega) (k30'' := u.2) (rw'' := fun _ => g.w rfl)
theorem zA_24 (h : 0 ≤ H) (u : 0 ≤ κ ∧ κ ≤ 30) (u' : 0 ≤ κ') : zA μ s ζ δ Z 24 0 (H + 1) H κ κ' := zA.of (hv'' := by unfold scHv; omega) (h0'' := by omega) (k30'' := u.2)
theorem zA_25 {v : Int} (h : 0 ≤ H) (u : 0 ≤ κ ∧ κ ≤ 30) (u' : 0 ≤ κ') (g : -1 ≤ v ∧ v ≤ μ s 4) (m : 0 ≤ v ∨ Z (μ s 4)) : zA μ s ζ δ Z 25 v H H κ κ' := zA.of (hv'' := by unfold scHv; omega) (h0'' := by omega) (k30'' := u.2) (jp'' := fun _ => g) (mi'' := fun _ => m)
theorem zA_26 {v : Int} (h : 0 ≤ H) (u : 0 ≤ κ ∧ κ ≤ 30) (u' : 0 ≤ κ') (g : 0 ≤ v ∧ v ≤ μ s 4) : zA μ s ζ δ Z 26 v (H + 1) H κ κ' := zA.of (hv'' := by unfold scHv; omega) (h0'' := by omega) (k30'' := u.2) (jp'' := fun _ => by omega) (mi'' := fun _ => Or.inl g.1)
theorem zA_27 {v : Int} (h : 0 ≤ H) (u : 0 ≤ κ ∧ κ ≤ 30) (u' : 0 ≤ κ') (g : 0 ≤ v ∧ v ≤ μ s 4) : zA μ s ζ δ Z 27 v (H + 1) H κ κ' := zA.of (hv'' := by unfold scHv; omega) (h0'' := by omega) (k30'' := u.2) (jp'' := fun _ => by omega) (mi'' := fun _ => Or.inl g.1)
theorem zA_32 {v : Int} (u : 0 ≤ κ ∧ κ ≤ 30) (n : 0 ≤ μ (s + 9) v ∧ μ (s + 9) v ≤ H) (e : H' = H - μ (s + 9) v + 1) (g : zNg μ s ζ δ 2 v) : zA μ s ζ δ Z 32 v H H' κ κ := zA.of (hv'' := by unfold scHv; omega) (h0'' := by omega) (k30'' := u.2) (cl'' := fun _ => g.d rfl)
theorem zA_33 {v : Int} (h : 0 ≤ H) (u : 0 ≤ κ ∧ κ ≤ 30) (u' : 0 ≤ κ') (g : v = rho μ s δ ∧ rho μ s δ < μ s 10) : zA μ s ζ δ Z 33 v (H + 1) H κ κ' := zA.of (hv'' := by unfold scHv; omega) (h0'' := by omega) (k30'' := u.2) (rt'' := fun _ => g)
theorem zA_35 (h : 0 ≤ H) (u : 0 ≤ κ ∧ κ ≤ 30) (g : ζ < μ s 4 ∧ μ (s + 1) (μ s 4 - 1) = 32) : zA μ s ζ δ Z 35 0 (H + 1) H κ κ := zA.of (hv'' := by unfold scHv; omega) (h0'' := by omega) (k30'' := u.2) (dr'' := fun _ => g)
theorem zA_36 {op : Int} (ho : op = 36 ∨ op = 37) (h : 0 ≤ H) (u : 0 ≤ κ ∧ κ ≤ 30) (n : 0 ≤ μ s 4) : zA μ s ζ δ Z op 0 (H + 1) H κ κ := zA.of (hv'' := by unfold scHv; omega) (h0'' := by omega) (k30'' := u.2) (jp'' := fun _ => by omega) (mi'' := fun _ => Or.inl (Int.le_refl _))
theorem zA_38 {v : Int} (h : 1 ≤ H) (u : 0 ≤ κ ∧ κ ≤ 30) (g : (0 ≤ v ∧ v < 3002) ∧ ∃ j, ζ ≤ j ∧ j < μ s 4 ∧ wOn μ s j v) : zA μ s ζ δ Z 38 v H H κ κ := zA.of (hv'' := by unfold scHv; omega) (h0'' := by omega) (k30'' := u.2) (tr'' := fun _ => g)
theorem nes {c j : Int} (hs : s = 16 ∨ s = 26) : ¬ ((2 : Int) = s ∧ j = c) := by omega
theorem nes' (hs : s = 16 ∨ s = 26) : ¬ (s ≤ (2 : Int) ∧ (2 : Int) ≤ s + 4) := by omega
theorem zW.go (h : zW s ζ δ b Z Lb Ln μ0 μ t τ H κ o k) (z : μ 2 5 = 0) : μ 2 4 = 0 := by
  by_cases y : μ 2 4 = 0
  · exact y
  · exact absurd z (h.i.sf (Or.inl y))
theorem c_mRe_tellInts0 (h : zW s ζ δ b Z Lb Ln μ0 μ t τ 0 κ o k) (hk : zTo (μ 2 4 = 0) (k = 41)) (t1 : t ≤ 1) (hκ : zTo (μ 2 4 = 0) (0 ≤ κ ∧ κ ≤ 30)) (hP : ∀ μ' k', zW s ζ δ b Z Lb Ln μ0 μ' t τ 0 κ o k' → P 0 μ') : jj_mRe_tellInts X (d + 2) 0 (ab_la [2, 0]) [] μ P := by
  have hs := h.s'
  have s10 : ∀ (m : Nat) (l : ab_l) (μ1 : ab_m) (lf mo k1 : Int), l 0 = 2 → l 1 = 0 → l 2 = mo → l 3 = lf → lf ≤ 3001 → lf.toNat = m → zW s ζ δ b Z Lb Ln μ0 μ1 t τ 0 κ o k1 → (zTo (μ1 2 4 = 0) (μ 2 4 = 0)) → (zTo (mo ≠ 0) (zTo (μ1 2 4 = 0) (k1 = 41 ∨ k1 = 29))) → jj_mRe_tellInts X (d + 2) 10 l [] μ1 P := by
    intro m
    induction m with
    | zero =>
      intro l μ1 lf mo k1 l0 l1 l2 l3 lf1 em w1 st hm
      refine bk_mRe_tellInts_10 l0 ?_
      rw [l1, l2, l3]
      exact ⟨fun _ => c_mRe_expect w1 (by decide) fun μ2 k2 w2 _ _ => hP μ2 k2 (w2.weak (by have := wt1 30; omega) (by have := wt1 30; omega) (Int.le_refl _)), fun q => by omega⟩
    | succ m ih =>
      intro l μ1 lf mo k1 l0 l1 l2 l3 lf1 em w1 st hm
      have ex : jj_mRe_expect X (d + 1) 0 (ab_la [2, 30]) [] μ1 (fun r5 μ4 => P 0 μ4) := c_mRe_expect w1 (by decide) fun μ2 k2 w2 _ _ => hP μ2 k2 (w2.weak (by have := wt1 30; omega) (by have := wt1 30; omega) (Int.le_refl _))
      have s75 : ∀ (l : ab_l) (μ2 : ab_m) (sl : Int), l 0 = 2 → l 1 = 0 → l 3 = lf → l 4 = sl → 0 < lf → (0 ≤ sl ∧ sl < 3000) → zW s ζ δ b Z Lb Ln μ0 μ2 t (τ + 1) 0 κ o 33 → (zTo (μ2 2 4 = 0) (μ 2 4 = 0)) → (zTo (μ2 2 5 = 0) (zNa μ2 s ζ δ sl)) → jj_mRe_tellInts X (d + 2) 75 l [] μ2 P := by
        intro l μ2 sl l0 l1 l3 l4 lf0 hsl w2 st2 hna
        refine bk_mRe_tellInts_75 l0 ?_
        obtain ⟨lf2, lf3, lf4⟩ := lfm lf1 em
        rw [l3, l4, lf4]
        refine c_mRe_tellName w2 (fun q => absurd q (by decide)) (fun z => ⟨fun _ => ⟨hsl, hna z⟩, fun q => absurd q (by decide), fun q => absurd q (by decide)⟩) fun μ3 w3 g3 _ => c_mRe_go (w := 1) (w3 b (Or.inl rfl)) (fun _ => by decide) fun μ4 w4 a4 g4 => c_mRe_kind w4 fun r hr => ?_
        have st4 : zTo (μ4 2 4 = 0) (μ 2 4 = 0) := fun z => st2 (by rw [← g3 2 4 (by omega) (by omega), ← g4 2 4 (by omega)]; exact z)
        have w5 := w4.weak (t' := t) (τ' := τ) (κ' := κ) (by omega) (by omega) (Int.le_refl _)
        refine ⟨fun q => ih _ μ4 (lf - 1) 0 _ l0 l1 rfl rfl lf2 lf3 w5 st4 (fun q => absurd rfl q), fun q => ih _ μ4 (lf - 1) 1 _ l0 l1 rfl rfl lf2 lf3 w5 st4 fun _ z => ?_⟩
        rcases hr with hr | hr
        · exact absurd z hr.1
        · exact Or.inr (by omega)
      refine bk_mRe_tellInts_10 l0 ?_
      rw [l1, l2, l3]
      refine ⟨fun q => by omega, fun lf0 => ⟨fun _ => ex, fun mo0 => c_mRe_go (w := 1) w1 (fun z => by rcases hm mo0 z with q | q <;> rw [q] <;> decide) fun μ2 w2 a2 g2 => c_mRe_kind w2 fun r hr => ⟨fun q => ⟨fun _ => ⟨by rw [w2.i.sc]; exact w2.i.hs, c_ztakeLocal w2 w2.i.sc fun r3 μ3 w3 e3 g3 _ => ⟨fun y => absurd rfl y, fun _ => ⟨by rw [w3.i.sc]; exact w3.i.hs, c_zadd w3 w3.i.sc (by omega) (H' := 0) (κ' := κ) (fun z => ?_) fun r4 μ4 w4 a4 => ?_⟩⟩⟩, fun y => absurd rfl y⟩, fun q => c_mRe_misfit w2 fun μ3 z3 w3 _ => hP μ3 0 (w3 _ _ _ _ _ _ _)⟩⟩⟩
      · have y4 : μ 2 4 = 0 := st (by rw [← g2 2 4 (by decide), ← g3 2 4 (nes hs)]; exact w3.go z)
        have hk := hκ y4
        exact zA_30 (Int.le_refl _) hk hk.1 ⟨by omega, by omega⟩
      · have e24 : μ4 2 4 = μ2 2 4 := by rw [a4.fr 2 4 (nes' hs), g3 2 4 (nes hs)]
        have st4 : zTo (μ4 2 4 = 0) (μ 2 4 = 0) := fun z => st (by rw [← g2 2 4 (by decide), ← e24]; exact z)
        refine s75 _ μ4 r3 l0 l1 l3 rfl lf0 ⟨by omega, by omega⟩ ?_ st4 fun z => ?_
        · rcases hr with hr | hr
          · exact w4.stop (by rw [e24]; exact hr.1) _ _ _ _ _ _ _
          · have k2 : μ1 4 (μ1 2 3 + 1) = 33 := hr.2.1.symm.trans q
            rw [k2] at w4; exact w4.weak (by omega) (by omega) (Int.le_refl _)
        · have z3 : μ3 2 4 = 0 := by rw [← a4.fr 2 4 (nes' hs)]; exact w4.go z
          have pl := w3.i.pl
          have ph := (w3.i.ph z3).1
          obtain ⟨-, S⟩ := a4.ad (by omega)
          have z5 : μ3 2 5 = 0 := by rw [← a4.fr 2 5 (nes' hs)]; exact z
          obtain ⟨Γ, gg⟩ := w3.g z5
          exact Or.inr (Or.inr ⟨μ3 s 4, gg.z.2.1, by rw [S.n]; exact Int.lt_succ _, S.o, S.g⟩)
  refine bk_mRe_tellInts_0 rfl ?_
  exact s10 _ _ μ (μ 3 3) 1 k rfl rfl rfl rfl h.i.ww.c.2 rfl h id fun _ z => Or.inl (hk z)
end K27

/-! THE CLASS, part k28: what is pending in an expr -/
section K28
variable {X : jm_X} {d : Nat} {P : Int → ab_m → Prop} {μ μ' μ0 μ1 : ab_m} {s t τ t' τ' ζ δ b b' H H' κ κ' o o' k k' n0 h u c h' u' c' : Int} {Z Z' : Int → Prop} {Γ : scG} {Lb Ln Lb' Ln' : List Int} {p : Nat}
theorem str0 (e : k = 23 ∨ k = 24 ∨ k = 25 ∨ k = 26) : ab_str k = 0 := by
  rcases e with e | e | e | e <;> subst e <;> decide +kernel
theorem strb (e : (2 ≤ k ∧ k ≤ 17) ∨ k = 21 ∨ k = 22) : 1 ≤ ab_str k ∧ ab_str k ≤ 10 := by
  have q : ∀ k : Fin 27, ((2 ≤ k.val ∧ k.val ≤ 17) ∨ k.val = 21 ∨ k.val = 22) → 1 ≤ ab_str (k.val : Int) ∧ ab_str (k.val : Int) ≤ 10 := by decide +kernel
  have := q ⟨k.toNat, by omega⟩ (by show (2 ≤ k.toNat ∧ k.toNat ≤ 17) ∨ k.toNat = 21 ∨ k.toNat = 22; omega)
  rwa [show ((k.toNat : Nat) : Int) = k by omega] at this
theorem stru (e : 18 ≤ k ∧ k ≤ 20) : ab_str k = 11 := by
  have : k = 18 ∨ k = 19 ∨ k = 20 := by omega
  rcases this with e | e | e <;> subst e <;> decide +kernel
end K28
def zE (μ : ab_m) (s ζ δ n0 i h' u' c' h u c : Int) : Prop := ((2 ≤ μ 11 i ∧ μ 11 i ≤ 17) ∧ (ab_str (μ 11 (i - 1)) < ab_str (μ 11 i)) ∧ h = (h' + 1) ∧ u = u' ∧ c = (c' + 1)) ∨ ((μ 11 i = 21 ∨ μ 11 i = 22) ∧ (ab_str (μ 11 (i - 1)) < ab_str (μ 11 i)) ∧ ((n0 ≤ μ 13 i ∧ μ 13 i < μ s 4) ∧ 0 ≤ μ 13 i ∧ μ 13 i ≤ 3000) ∧ (μ (s + 1) (μ 13 i) = 36 ∨ μ (s + 1) (μ 13 i) = 37) ∧ (zTo (μ 2 5 = 0) (∃ j, ζ ≤ j ∧ j < μ s 4 ∧ wOn μ s j (μ 13 i))) ∧ h = h' ∧ u = u' ∧ c = (c' + 1)) ∨ ((18 ≤ μ 11 i ∧ μ 11 i ≤ 20) ∧ h = h' ∧ u = (u' + 1) ∧ c = (c' + 1)) ∨ ((μ 11 i = 24) ∧ h = h' ∧ u = (u' + 1) ∧ c = c') ∨ ((μ 11 i = 25) ∧ (zTo (μ 2 5 = 0) (zNg μ s ζ δ 1 (μ 13 i))) ∧ h = h' ∧ u = (u' + 1) ∧ c = c') ∨ ((μ 11 i = 26) ∧ (0 ≤ μ 14 i ∧ μ 14 i ≤ μ 2 3) ∧ (-1 ≤ μ 13 i ∧ μ 13 i < 15) ∧ (0 ≤ μ 15 i ∧ μ 15 i < 3001) ∧ (zTo (μ 2 5 = 0) (zNg μ s ζ δ 2 (μ 13 i))) ∧ h = (h' + μ 14 i) ∧ u = (u' + 1) ∧ c = c')
theorem zE.bin {μ : ab_m} {s ζ δ n0 i h' u' c' : Int} (k : 2 ≤ μ 11 i ∧ μ 11 i ≤ 17) (w : ab_str (μ 11 (i - 1)) < ab_str (μ 11 i)) : zE μ s ζ δ n0 i h' u' c' (h' + 1) u' (c' + 1) := Or.inl ⟨k, w, rfl, rfl, rfl⟩
theorem zE.bth {μ : ab_m} {s ζ δ n0 i h' u' c' : Int} (k : μ 11 i = 21 ∨ μ 11 i = 22) (w : ab_str (μ 11 (i - 1)) < ab_str (μ 11 i)) (n : (n0 ≤ μ 13 i ∧ μ 13 i < μ s 4) ∧ 0 ≤ μ 13 i ∧ μ 13 i ≤ 3000) (o : μ (s + 1) (μ 13 i) = 36 ∨ μ (s + 1) (μ 13 i) = 37) (g : zTo (μ 2 5 = 0) (∃ j, ζ ≤ j ∧ j < μ s 4 ∧ wOn μ s j (μ 13 i))) : zE μ s ζ δ n0 i h' u' c' h' u' (c' + 1) := Or.inr (Or.inl ⟨k, w, n, o, g, rfl, rfl, rfl⟩)
theorem zE.one {μ : ab_m} {s ζ δ n0 i h' u' c' : Int} (k : 18 ≤ μ 11 i ∧ μ 11 i ≤ 20) : zE μ s ζ δ n0 i h' u' c' h' (u' + 1) (c' + 1) := Or.inr (Or.inr (Or.inl ⟨k, rfl, rfl, rfl⟩))
theorem zE.rnd {μ : ab_m} {s ζ δ n0 i h' u' c' : Int} (k : μ 11 i = 24) : zE μ s ζ δ n0 i h' u' c' h' (u' + 1) c' := Or.inr (Or.inr (Or.inr (Or.inl ⟨k, rfl, rfl, rfl⟩)))
theorem zE.row {μ : ab_m} {s ζ δ n0 i h' u' c' : Int} (k : μ 11 i = 25) (g : zTo (μ 2 5 = 0) (zNg μ s ζ δ 1 (μ 13 i))) : zE μ s ζ δ n0 i h' u' c' h' (u' + 1) c' := Or.inr (Or.inr (Or.inr (Or.inr (Or.inl ⟨k, g, rfl, rfl, rfl⟩))))
theorem zE.lst {μ : ab_m} {s ζ δ n0 i h' u' c' : Int} (k : μ 11 i = 26) (e : 0 ≤ μ 14 i ∧ μ 14 i ≤ μ 2 3) (n : -1 ≤ μ 13 i ∧ μ 13 i < 15) (m : 0 ≤ μ 15 i ∧ μ 15 i < 3001) (g : zTo (μ 2 5 = 0) (zNg μ s ζ δ 2 (μ 13 i))) : zE μ s ζ δ n0 i h' u' c' (h' + μ 14 i) (u' + 1) c' := Or.inr (Or.inr (Or.inr (Or.inr (Or.inr (⟨k, e, n, m, g, rfl, rfl, rfl⟩)))))
section K28
variable {X : jm_X} {d : Nat} {P : Int → ab_m → Prop} {μ μ' μ0 μ1 : ab_m} {s t τ t' τ' ζ δ b b' H H' κ κ' o o' k k' n0 h u c h' u' c' : Int} {Z Z' : Int → Prop} {Γ : scG} {Lb Ln Lb' Ln' : List Int} {p : Nat}
def zP (μ : ab_m) (s ζ δ n0 : Int) : Nat → Int → Int → Int → Prop
  | 0, h, u, c => μ 11 0 = 23 ∧ (n0 ≤ μ 12 0 ∧ μ 12 0 ≤ μ s 4) ∧ h = 0 ∧ u = 0 ∧ c = 0
  | p + 1, h, u, c => ∃ h' u' c', zP μ s ζ δ n0 p h' u' c' ∧ (μ 12 (p : Int) ≤ μ 12 ((p : Int) + 1) ∧ μ 12 ((p : Int) + 1) ≤ μ s 4) ∧ zE μ s ζ δ n0 ((p : Int) + 1) h' u' c' h u c
theorem zP.b0 : ∀ {p : Nat} {h u c : Int}, zP μ s ζ δ n0 p h u c → (0 ≤ h ∧ 0 ≤ u ∧ 0 ≤ c) ∧ (n0 ≤ μ 12 p ∧ μ 12 p ≤ μ s 4) ∧ (0 ≤ μ 11 p ∧ μ 11 p < 27) := by
  intro p
  induction p with
  | zero => intro h u c q; obtain ⟨q1, q2, q3, q4, q5⟩ := q; subst q3 q4 q5; exact ⟨by omega, q2, by show 0 ≤ μ 11 0 ∧ μ 11 0 < 27; omega⟩
  | succ p ih =>
    intro h u c q
    obtain ⟨h', u', c', q1, q2, q3⟩ := q
    obtain ⟨i1, i2, i3⟩ := ih q1
    rw [show ((p + 1 : Nat) : Int) = (p : Int) + 1 by omega]
    refine ⟨?_, by omega, ?_⟩
    · rcases q3 with ⟨k, w, rfl, rfl, rfl⟩ | ⟨k, w, n, o, g, rfl, rfl, rfl⟩ | ⟨k, rfl, rfl, rfl⟩ | ⟨k, rfl, rfl, rfl⟩ | ⟨k, g, rfl, rfl, rfl⟩ | ⟨k, e, n, m, g, rfl, rfl, rfl⟩
      · omega
      · clear g; omega
      · omega
      · omega
      · clear g; omega
      · clear g; omega
    · rcases q3 with ⟨k, w, rfl, rfl, rfl⟩ | ⟨k, w, n, o, g, rfl, rfl, rfl⟩ | ⟨k, rfl, rfl, rfl⟩ | ⟨k, rfl, rfl, rfl⟩ | ⟨k, g, rfl, rfl, rfl⟩ | ⟨k, e, n, m, g, rfl, rfl, rfl⟩
      · omega
      · clear g; omega
      · omega
      · omega
      · clear g; omega
      · clear g; omega
theorem zP.sz : ∀ {p : Nat} {h u c : Int}, zP μ s ζ δ n0 p h u c → ((2 ≤ μ 11 p ∧ μ 11 p ≤ 17) ∨ μ 11 p = 21 ∨ μ 11 p = 22 → (p : Int) ≤ 11 * u + ab_str (μ 11 p)) ∧ ((p : Int) ≤ 11 * u ∨ ((2 ≤ μ 11 p ∧ μ 11 p ≤ 17) ∨ μ 11 p = 21 ∨ μ 11 p = 22)) := by
  intro p
  induction p with
  | zero =>
    intro h u c q
    obtain ⟨q1, -, -, q4, -⟩ := q
    subst q4
    exact ⟨fun e => by have : μ 11 ((0 : Nat) : Int) = 23 := q1; omega, Or.inl (by omega)⟩
  | succ p ih =>
    intro h u c q
    obtain ⟨h', u', c', q1, q2, q3⟩ := q
    obtain ⟨i1, i2⟩ := ih q1
    rw [show ((p + 1 : Nat) : Int) = (p : Int) + 1 by omega]
    have up : ab_str (μ 11 ((p : Int) + 1 - 1)) < ab_str (μ 11 ((p : Int) + 1)) → (p : Int) + 1 ≤ 11 * u' + ab_str (μ 11 ((p : Int) + 1)) := fun w => by
      rw [show (p : Int) + 1 - 1 = p by omega] at w
      rcases i2 with i2 | i2
      · have : 0 ≤ ab_str (μ 11 p) := by
          have b := (q1.b0).2.2
          have : ∀ k : Fin 27, 0 ≤ ab_str (k.val : Int) := by decide +kernel
          have := this ⟨(μ 11 p).toNat, by omega⟩
          rwa [show (((μ 11 (p : Int)).toNat : Nat) : Int) = μ 11 p by omega] at this
        omega
      · have := i1 i2; omega
    have ot : (p : Int) + 1 ≤ 11 * (u' + 1) := by
      rcases i2 with i2 | i2
      · omega
      · have := i1 i2; have := strb i2; omega
    rcases q3 with ⟨k, w, rfl, rfl, rfl⟩ | ⟨k, w, n, o, g, rfl, rfl, rfl⟩ | ⟨k, rfl, rfl, rfl⟩ | ⟨k, rfl, rfl, rfl⟩ | ⟨k, g, rfl, rfl, rfl⟩ | ⟨k, e, n, m, g, rfl, rfl, rfl⟩
    · exact ⟨fun _ => up w, Or.inr (Or.inl k)⟩
    · exact ⟨fun _ => up w, Or.inr (Or.inr k)⟩
    · exact ⟨fun e => by omega, Or.inl ot⟩
    · exact ⟨fun e => by omega, Or.inl ot⟩
    · exact ⟨fun e => by omega, Or.inl ot⟩
    · exact ⟨fun e => by omega, Or.inl ot⟩
theorem zP.p274 (q : zP μ s ζ δ n0 p h u c) (hu : u ≤ 24) : (p : Int) ≤ 274 := by
  obtain ⟨a, e⟩ := q.sz
  rcases e with e | e
  · omega
  · have := a e; have := strb e; omega
/-- the same in another state -/
theorem zP.same (e : ∀ (cc j : Int), 11 ≤ cc → cc ≤ 15 → 0 ≤ j → j ≤ p → μ' cc j = μ cc j) (n : μ s 4 ≤ μ' s 4) (eo : ∀ k, n0 ≤ k → k < μ s 4 → μ' (s + 1) k = μ (s + 1) k) (ft : μ' 2 5 = 0 → μ 2 5 = 0) (ea : μ 2 3 ≤ μ' 2 3) (e8 : μ' s 8 = μ s 8) (e10 : μ' s 10 = μ s 10) (hW : μ' 2 5 = 0 → ∀ j x, ζ ≤ j → j < μ s 4 → wOn μ s j x → wOn μ' s j x) : ∀ {h u c : Int}, zP μ s ζ δ n0 p h u c → zP μ' s ζ δ n0 p h u c := by
  induction p with
  | zero =>
    intro h u c q
    obtain ⟨q1, q2, q3⟩ := q
    have e1 : μ' 11 (0 : Int) = μ 11 (0 : Int) := e 11 0 (by decide) (by decide) (by omega) (by omega)
    have e2 : μ' 12 (0 : Int) = μ 12 (0 : Int) := e 12 0 (by decide) (by decide) (by omega) (by omega)
    exact ⟨by rw [e1]; exact q1, by rw [e2]; omega, q3⟩
  | succ p ih =>
    intro h u c q
    have pp : (p : Int) ≤ ((p + 1 : Nat) : Int) := by omega
    obtain ⟨h', u', c', q1, q2, q3⟩ := q
    have ee : ∀ cc, 11 ≤ cc → cc ≤ 15 → μ' cc ((p : Int) + 1) = μ cc ((p : Int) + 1) := fun cc a c => e cc _ a c (by omega) (by omega)
    have e1 : ∀ cc, 11 ≤ cc → cc ≤ 15 → μ' cc (p : Int) = μ cc (p : Int) := fun cc a c => e cc _ a c (by omega) (by omega)
    refine ⟨h', u', c', ih (fun cc j a c x y => e cc j a c x (Int.le_trans y pp)) q1, by rw [ee 12 (by decide) (by decide), e1 12 (by decide) (by decide)]; omega, ?_⟩
    have k11 := ee 11 (by decide) (by decide)
    have k13 := ee 13 (by decide) (by decide)
    have k14 := ee 14 (by decide) (by decide)
    have k15 := ee 15 (by decide) (by decide)
    have l11 : μ' 11 ((p : Int) + 1 - 1) = μ 11 ((p : Int) + 1 - 1) := by rw [show (p : Int) + 1 - 1 = p by omega]; exact e1 11 (by decide) (by decide)
    have ng : ∀ kd r, kd = 1 ∨ kd = 2 → zNg μ s ζ δ kd r → zNg μ' s ζ δ kd r := fun kd r a c => ⟨fun q => by omega, fun q => by rw [e8]; exact c.w q, fun q => by unfold rho; rw [e10]; exact c.d q⟩
    rcases q3 with ⟨k, w, rfl, rfl, rfl⟩ | ⟨k, w, n', o, g, rfl, rfl, rfl⟩ | ⟨k, rfl, rfl, rfl⟩ | ⟨k, rfl, rfl, rfl⟩ | ⟨k, g, rfl, rfl, rfl⟩ | ⟨k, e, n, m, g, rfl, rfl, rfl⟩
    · exact zE.bin (by rw [k11]; exact k) (by rw [k11, l11]; exact w)
    · refine zE.bth (by rw [k11]; exact k) (by rw [k11, l11]; exact w) (by rw [k13]; omega) ?_ fun z => ?_
      · rw [k13, eo _ n'.1.1 n'.1.2]; exact o
      · obtain ⟨j, g1, g2, g3⟩ := g (ft z)
        exact ⟨j, g1, by omega, by rw [k13]; exact hW z j _ g1 g2 g3⟩
    · exact zE.one (by rw [k11]; exact k)
    · exact zE.rnd (by rw [k11]; exact k)
    · exact zE.row (by rw [k11]; exact k) fun z => by rw [k13]; exact ng _ _ (Or.inl rfl) (g (ft z))
    · rw [← k14]
      exact zE.lst (by rw [k11]; exact k) (by rw [k14]; omega) (by rw [k13]; exact n) (by rw [k15]; exact m) fun z => by rw [k13]; exact ng _ _ (Or.inr rfl) (g (ft z))
theorem wOn.add {j x op arg : Int} (hs : s = 16 ∨ s = 26) (h : wOn μ s j x) (jn : j < μ s 4) (e : zS s μ μ' op arg) : wOn μ' s j x := by
  obtain ⟨L, w1, w2, w3⟩ := h
  refine ⟨L, ?_, fun y hy => by rw [e.n]; have := w2 y hy; omega, w3⟩
  rw [e.f _ j (by omega) (by omega)]
  exact w1.on fun y hy => e.f _ y (by omega) (by have := w2 y hy; omega)
theorem c_mRe_pend {K v nm : Int} (h : zW s ζ δ b Z Lb Ln μ0 μ t τ H κ o k) (hp : 0 ≤ μ 2 19 ∧ μ 2 19 < 400) (hP : ∀ μ', zW s ζ δ b Z Lb Ln μ0 μ' t τ H κ o k → μ' 2 19 = μ 2 19 + 1 → (μ' 11 (μ 2 19) = K ∧ μ' 12 (μ 2 19) = μ s 4 ∧ μ' 13 (μ 2 19) = v ∧ μ' 14 (μ 2 19) = 0 ∧ μ' 15 (μ 2 19) = nm) → (∀ c j, ¬ (11 ≤ c ∧ c ≤ 15 ∧ j = μ 2 19) → ¬ (c = 2 ∧ j = 19) → μ' c j = μ c j) → P 0 μ') : jj_mRe_pend X d 0 (ab_la [2, K, v, nm]) [] μ P := by
  have hs := h.s'
  refine bk_mRe_pend_0 rfl ⟨fun q => by omega, fun q => ⟨hp, fun μ1 e1 => ?_⟩⟩
  have g1 : μ1 2 19 = μ 2 19 := by rw [e1, mu_ne (by decide)]
  have s1 : μ1 2 2 = s := by rw [e1, mu_ne (by decide)]; exact h.i.sc
  have n1 : μ1 s 4 = μ s 4 := by rw [e1, mu_ne (by omega)]
  rw [g1, s1, n1]
  refine ⟨h.i.hs, hp, fun μ3 e3 => ?_⟩
  have g3 : μ3 2 19 = μ 2 19 := by rw [e3, mu_ne (by decide)]; exact g1
  rw [g3]
  refine ⟨hp, fun μ4 e4 => ?_⟩
  have g4 : μ4 2 19 = μ 2 19 := by rw [e4, mu_ne (by decide)]; exact g3
  rw [g4]
  refine ⟨hp, fun μ5 e5 => ?_⟩
  have g5 : μ5 2 19 = μ 2 19 := by rw [e5, mu_ne (by decide)]; exact g4
  rw [g5]
  refine ⟨hp, fun μ6 e6 μ7 e7 => ?_⟩
  have g6 : μ6 2 19 = μ 2 19 := by rw [e6, mu_ne (by decide)]; exact g5
  rw [g6, show ab_w (μ 2 19 + 1) = μ 2 19 + 1 from ab_wi (by omega) (by omega)] at e7
  have fr : ∀ c j, ¬ (11 ≤ c ∧ c ≤ 15 ∧ j = μ 2 19) → ¬ (c = 2 ∧ j = 19) → μ7 c j = μ c j := fun c j x y => by
    rw [e7, ab_mud, if_neg y, e6, ab_mud, if_neg (by omega), e5, ab_mud, if_neg (by omega), e4, ab_mud, if_neg (by omega), e3, ab_mud, if_neg (by omega), e1, ab_mud, if_neg (by omega)]
  have f2 : ∀ j, j ≠ 19 → μ7 2 j = μ 2 j := fun j q => fr 2 j (by omega) (by omega)
  refine hP μ7 ?_ (by rw [e7, ab_mud, if_pos ⟨rfl, rfl⟩]) ⟨?_, ?_, ?_, ?_, ?_⟩ fr
  · have q3 := f2 3 (by decide)
    have q4 := f2 4 (by decide)
    have q5 := f2 5 (by decide)
    have q8 := f2 8 (by decide)
    exact h.f3 (fun c j x y => fr c j (by omega) (by omega)) (fun j _ q => f2 j q) (by rw [q3]; exact ⟨Int.le_refl _, h.i.a.2⟩) (by rw [q4, q5, f2 7 (by decide)]; exact h.i.sf) (by rw [q5]; exact id) (by rw [q4]; exact id) (by rw [q4, q3, q8]; exact h.i.ph) (by rw [q4, q8]; exact h.op) (by rw [q4, q3]; exact h.kw) (by rw [q5]; exact h.g)
  · rw [e7, mu_ne (by decide), e6, mu_ne (by decide), e5, mu_ne (by decide), e4, mu_ne (by decide), e3, mu_ne (by decide), e1, ab_mud, if_pos ⟨rfl, rfl⟩]; rfl
  · rw [e7, mu_ne (by decide), e6, mu_ne (by decide), e5, mu_ne (by decide), e4, mu_ne (by decide), e3, ab_mud, if_pos ⟨rfl, rfl⟩]
  · rw [e7, mu_ne (by decide), e6, mu_ne (by decide), e5, mu_ne (by decide), e4, ab_mud, if_pos ⟨rfl, rfl⟩]; rfl
  · rw [e7, mu_ne (by decide), e6, ab_mud, if_pos ⟨rfl, rfl⟩]
  · rw [e7, mu_ne (by decide), e6, mu_ne (by decide), e5, ab_mud, if_pos ⟨rfl, rfl⟩]; rfl
end K28

