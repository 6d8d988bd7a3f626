/-! THE CLASS, part k1: Code, what is asked of instructions -/
section K1
variable {X : jm_X} {d : Nat} {P : Int → ab_m → Prop} {μ μ' : ab_m} {o i : Int}
def kA (μ : ab_m) (o i : Int) : Prop := (μ (o + 1) i ≤ 22 ∨ μ (o + 1) i = 24 ∨ μ (o + 1) i = 26 ∨ μ (o + 1) i = 27) ∧ ab_and (μ (o + 5) i) 1 = 0
def kB (μ : ab_m) (o i : Int) : Prop := ((2 ≤ μ (o + 1) i ∧ μ (o + 1) i ≤ 17) ∨ μ (o + 1) i = 22) ∧ ab_and (μ (o + 5) i) 2 = 0
def kD (μ : ab_m) (o i : Int) : Prop := μ (o + 1) i ≤ 21 ∨ μ (o + 1) i = 23
def kL (μ : ab_m) (o i : Int) : Prop := μ (o + 1) i = 25 ∨ μ (o + 1) i = 26 ∨ μ (o + 1) i = 27
def kR (μ : ab_m) (o r : Int) : Prop := 0 ≤ r → r < 8 → μ (o + 6) r ≤ 100
end K1
/-- an instruction -/
def kI (μ : ab_m) (o i : Int) : Prop := (0 ≤ μ (o + 1) i ∧ μ (o + 1) i ≤ 28) ∧ (0 ≤ μ (o + 5) i ∧ μ (o + 5) i ≤ 3) ∧ (kA μ o i → 0 ≤ μ (o + 3) i ∧ μ (o + 3) i < 300) ∧ (kB μ o i → 0 ≤ μ (o + 4) i ∧ μ (o + 4) i < 300) ∧ (kD μ o i → 0 ≤ μ (o + 2) i ∧ μ (o + 2) i < 300) ∧ (kL μ o i → 0 ≤ μ (o + 2) i) ∧ (μ (o + 1) i = 21 → kR μ o (μ (o + 4) i)) ∧ (μ (o + 1) i = 22 → kR μ o (μ (o + 2) i)) ∧ (μ (o + 1) i = 1 → ab_and (μ (o + 5) i) 1 = 0)
theorem kI.k {μ : ab_m} {o i : Int} (h'' : kI μ o i) : 0 ≤ μ (o + 1) i ∧ μ (o + 1) i ≤ 28 := h''.1
theorem kI.f {μ : ab_m} {o i : Int} (h'' : kI μ o i) : 0 ≤ μ (o + 5) i ∧ μ (o + 5) i ≤ 3 := h''.2.1
theorem kI.a {μ : ab_m} {o i : Int} (h'' : kI μ o i) : kA μ o i → 0 ≤ μ (o + 3) i ∧ μ (o + 3) i < 300 := h''.2.2.1
theorem kI.b {μ : ab_m} {o i : Int} (h'' : kI μ o i) : kB μ o i → 0 ≤ μ (o + 4) i ∧ μ (o + 4) i < 300 := h''.2.2.2.1
theorem kI.d {μ : ab_m} {o i : Int} (h'' : kI μ o i) : kD μ o i → 0 ≤ μ (o + 2) i ∧ μ (o + 2) i < 300 := h''.2.2.2.2.1
theorem kI.l {μ : ab_m} {o i : Int} (h'' : kI μ o i) : kL μ o i → 0 ≤ μ (o + 2) i := h''.2.2.2.2.2.1
theorem kI.r1 {μ : ab_m} {o i : Int} (h'' : kI μ o i) : μ (o + 1) i = 21 → kR μ o (μ (o + 4) i) := h''.2.2.2.2.2.2.1
theorem kI.r2 {μ : ab_m} {o i : Int} (h'' : kI μ o i) : μ (o + 1) i = 22 → kR μ o (μ (o + 2) i) := h''.2.2.2.2.2.2.2.1
theorem kI.c {μ : ab_m} {o i : Int} (h'' : kI μ o i) : μ (o + 1) i = 1 → ab_and (μ (o + 5) i) 1 = 0 := h''.2.2.2.2.2.2.2.2
section K1
variable {X : jm_X} {d : Nat} {P : Int → ab_m → Prop} {μ μ' : ab_m} {o i : Int}
end K1
/-- code -/
def kW (μ : ab_m) (o : Int) : Prop := (0 ≤ μ o 5 ∧ μ o 5 ≤ 400) ∧ (0 ≤ μ o 6 ∧ μ o 6 ≤ 300) ∧ (∀ i, 0 ≤ i → i < μ o 5 → kI μ o i)
theorem kW.n {μ : ab_m} {o : Int} (h'' : kW μ o) : 0 ≤ μ o 5 ∧ μ o 5 ≤ 400 := h''.1
theorem kW.r {μ : ab_m} {o : Int} (h'' : kW μ o) : 0 ≤ μ o 6 ∧ μ o 6 ≤ 300 := h''.2.1
theorem kW.i {μ : ab_m} {o : Int} (h'' : kW μ o) : ∀ i, 0 ≤ i → i < μ o 5 → kI μ o i := h''.2.2
section K1
variable {X : jm_X} {d : Nat} {P : Int → ab_m → Prop} {μ μ' : ab_m} {o i : Int}
/-- an instruction is at another place, or another store, and the rows are the same -/
theorem kI.at {i' : Int} (h : kI μ o i) (f : ∀ c, 1 ≤ c → c ≤ 5 → μ' (o + c) i' = μ (o + c) i) (r : ∀ j, μ' (o + 6) j = μ (o + 6) j) : kI μ' o i' := by
  have e1 := f 1 (by decide) (by decide)
  have e2 := f 2 (by decide) (by decide)
  have e3 := f 3 (by decide) (by decide)
  have e4 := f 4 (by decide) (by decide)
  have e5 := f 5 (by decide) (by decide)
  obtain ⟨h1, h2, h3, h4, h5, h6, h7, h8, h9⟩ := h
  unfold kA at h3
  unfold kB at h4
  unfold kD at h5
  unfold kL at h6
  unfold kR at h7 h8
  refine ⟨?_, ?_, ?_, ?_, ?_, ?_, ?_, ?_, ?_⟩
  · rw [e1]; exact h1
  · rw [e5]; exact h2
  · unfold kA; rw [e1, e5, e3]; exact h3
  · unfold kB; rw [e1, e5, e4]; exact h4
  · unfold kD; rw [e1, e2]; exact h5
  · unfold kL; rw [e1, e2]; exact h6
  · unfold kR; rw [e1, e4, r]; exact h7
  · unfold kR; rw [e1, e2, r]; exact h8
  · rw [e1, e5]; exact h9
/-- nothing but what is found out about the code -/
def kX (o : Int) (μ μ' : ab_m) : Prop := ∀ c j, ¬ (o + 7 ≤ c ∧ c ≤ o + 11) → μ' c j = μ c j
theorem kX.rf : kX o μ μ := fun _ _ _ => rfl
theorem kX.trans {μ2 : ab_m} (h : kX o μ μ') (h2 : kX o μ' μ2) : kX o μ μ2 := fun c j z => (h2 c j z).trans (h c j z)
theorem kX.mu {c j v : Int} {μ2 : ab_m} (h : kX o μ μ') (e : μ2 = ab_mu μ' c j v) (hc : o + 7 ≤ c ∧ c ≤ o + 11) : kX o μ μ2 := fun b i z => by rw [e, ab_mud, if_neg (by omega)]; exact h b i z
theorem kW.same (h : kW μ o) (f5 : μ' o 5 = μ o 5) (f6 : μ' o 6 = μ o 6) (f : ∀ c j, o + 1 ≤ c → c ≤ o + 6 → μ' c j = μ c j) : kW μ' o := by
  refine ⟨by rw [f5]; exact h.n, by rw [f6]; exact h.r, fun i a b => ?_⟩
  rw [f5] at b
  exact (h.i i a b).at (fun c z1 z2 => f (o + c) i (by omega) (by omega)) fun j => f (o + 6) j (by omega) (by omega)
theorem kW.x (h : kW μ o) (f : kX o μ μ') : kW μ' o := h.same (f o 5 (by omega)) (f o 6 (by omega)) fun c j a b => f c j (by omega)
theorem c_mCo_leaps (ho : ab_is 1 o) (hi : 0 ≤ i ∧ i < 400) (h1 : kL μ o i → P 1 μ) (h0 : ¬ kL μ o i → P 0 μ) : jj_mCo_leaps X d 0 (ab_la [o, i]) [] μ P := by
  refine bk_mCo_leaps_0 ho ?_
  simp only [la0, la1]
  unfold kL at h1 h0
  exact ⟨hi, fun z => h1 (by omega), fun z => ⟨hi, fun z => h1 (by omega), fun z => ⟨hi, fun z => h0 (by omega), fun z => h1 (by omega)⟩⟩⟩
theorem c_mCo_leapsInside (ho : ab_is 1 o) (hi : 0 ≤ i ∧ i < 400) (h1 : kL μ o i → 0 ≤ μ (o + 2) i → μ (o + 2) i < μ o 5 → P 1 μ) (h0 : P 0 μ) : jj_mCo_leapsInside X (d + 1) 0 (ab_la [o, i]) [] μ P := by
  refine bk_mCo_leapsInside_0 ho ?_
  simp only [la0, la1]
  exact c_mCo_leaps ho hi (fun l => ⟨fun z => absurd z (by decide), fun _ => ⟨hi, fun _ => h0, fun z => ⟨hi, fun _ => h0, fun z2 => h1 l z z2⟩⟩⟩) fun _ => ⟨fun _ => h0, fun z => absurd rfl z⟩
theorem c_mCo_defines (ho : ab_is 1 o) (hi : 0 ≤ i ∧ i < 400) (h1 : kD μ o i → P 1 μ) (h0 : ¬ kD μ o i → P 0 μ) : jj_mCo_defines X d 0 (ab_la [o, i]) [] μ P := by
  refine bk_mCo_defines_0 ho ?_
  simp only [la0, la1]
  unfold kD at h1 h0
  exact ⟨hi, fun z => h1 (by omega), fun z => ⟨hi, fun z => h0 (by omega), fun z => h1 (by omega)⟩⟩
theorem c_mCo_usesA (ho : ab_is 1 o) (hi : 0 ≤ i ∧ i < 400) (h1 : kA μ o i → P 1 μ) (h0 : ¬ kA μ o i → P 0 μ) : jj_mCo_usesA X d 0 (ab_la [o, i]) [] μ P := by
  have s1 : (μ (o + 1) i ≤ 22 ∨ μ (o + 1) i = 24 ∨ μ (o + 1) i = 26 ∨ μ (o + 1) i = 27) → ∀ l : ab_l, l 0 = o → l 1 = i → jj_mCo_usesA X d 36 l [(0, 1)] μ P := fun z l l0 l1 => by
    refine bk_mCo_usesA_36 (by rw [l0]; exact ho) ?_
    rw [l0, l1]
    exact ⟨fun y => absurd y (by decide), fun _ => ⟨hi, fun y => h0 fun q => y q.2, fun y => h1 ⟨z, y⟩⟩⟩
  refine bk_mCo_usesA_0 ho ?_
  simp only [la0, la1]
  refine ⟨hi, fun z => s1 (by omega) _ rfl rfl, fun z => ⟨fun z => s1 (by omega) _ rfl rfl, fun z => ⟨fun z => s1 (by omega) _ rfl rfl, fun z => ⟨fun z => bk_mCo_usesA_36 ho ⟨fun _ => h0 fun q => by have := q.1; omega, fun y => absurd rfl y⟩, fun z => s1 (by omega) _ rfl rfl⟩⟩⟩⟩
theorem c_mCo_usesB (ho : ab_is 1 o) (hi : 0 ≤ i ∧ i < 400) (h1 : kB μ o i → P 1 μ) (h0 : ¬ kB μ o i → P 0 μ) : jj_mCo_usesB X d 0 (ab_la [o, i]) [] μ P := by
  have s18 : ¬ (2 ≤ μ (o + 1) i ∧ μ (o + 1) i ≤ 17) → ∀ l : ab_l, l 0 = o → l 1 = i → l 2 = μ (o + 1) i → jj_mCo_usesB X d 18 l [] μ P := fun z l l0 l1 l2 => by
    refine bk_mCo_usesB_18 (by rw [l0]; exact ho) ?_
    rw [l0, l1, l2]
    exact ⟨fun y => h0 fun q => by have := q.1; omega, fun y => ⟨hi, fun x => h0 fun q => x q.2, fun x => h1 ⟨Or.inr y, x⟩⟩⟩
  refine bk_mCo_usesB_0 ho ?_
  simp only [la0, la1]
  exact ⟨hi, fun z => s18 (by omega) _ rfl rfl rfl, fun z => ⟨fun z2 => ⟨hi, fun y => h0 fun q => y q.2, fun y => h1 ⟨Or.inl ⟨z, z2⟩, y⟩⟩, fun z2 => s18 (by omega) _ rfl rfl rfl⟩⟩
theorem c_mCo_goesOn (ho : ab_is 1 o) (hi : 0 ≤ i ∧ i < 400) (h1 : i + 1 < μ o 5 → P 1 μ) (h0 : P 0 μ) : jj_mCo_goesOn X d 0 (ab_la [o, i]) [] μ P := by
  refine bk_mCo_goesOn_0 ho ?_
  simp only [la0, la1]
  rw [show ab_w (i + 1) = i + 1 from ab_wi (by omega) (by omega)]
  exact ⟨hi, fun _ => h0, fun _ => ⟨hi, fun _ => h0, fun _ => ⟨fun _ => h0, fun z => h1 z⟩⟩⟩
theorem c_mCo_isWorkedOut (ho : ab_is 1 o) (hi : 0 ≤ i ∧ i < 400) (h1 : 2 ≤ μ (o + 1) i → μ (o + 1) i ≤ 20 → P 1 μ) (h0 : P 0 μ) : jj_mCo_isWorkedOut X d 0 (ab_la [o, i]) [] μ P := by
  refine bk_mCo_isWorkedOut_0 ho ?_
  simp only [la0, la1]
  exact ⟨hi, fun _ => h0, fun z => ⟨hi, fun _ => h0, fun z2 => h1 z z2⟩⟩
theorem c_mCo_leaveOut (ho : ab_is 1 o) (hi : 0 ≤ i ∧ i < 400) (hP : ∀ μ', kX o μ μ' → P 0 μ') : jj_mCo_leaveOut X d 0 (ab_la [o, i]) [] μ P := by
  refine bk_mCo_leaveOut_0 ho ?_
  simp only [la0, la1]
  exact ⟨hi, fun μ1 e1 => hP μ1 (kX.rf.mu e1 (by omega))⟩
theorem c_mCo_put {k dd a f : Int} (ho : ab_is 1 o) (hi : 0 ≤ i ∧ i < 400) (hP : ∀ μ', (∀ c j, ¬ (o + 1 ≤ c ∧ c ≤ o + 5 ∧ j = i) → μ' c j = μ c j) → μ' (o + 1) i = k → μ' (o + 2) i = dd → μ' (o + 3) i = a → μ' (o + 4) i = 0 → μ' (o + 5) i = f → P 0 μ') : jj_mCo_put X d 0 (ab_la [o, i, k, dd, a, f]) [] μ P := by
  refine bk_mCo_put_0 ho ?_
  simp only [la0, la1, la2, la3, la4, la5]
  refine ⟨hi, fun μ1 e1 => ⟨hi, fun μ2 e2 => ⟨hi, fun μ3 e3 => ⟨hi, fun μ4 e4 => ⟨hi, fun μ5 e5 => hP μ5 (fun c j z => ?_) ?_ ?_ ?_ ?_ ?_⟩⟩⟩⟩⟩
  · rw [e5, ab_mud, if_neg (by omega), e4, ab_mud, if_neg (by omega), e3, ab_mud, if_neg (by omega), e2, ab_mud, if_neg (by omega), e1, ab_mud, if_neg (by omega)]
  · rw [e5, mu_ne (by omega), e4, mu_ne (by omega), e3, mu_ne (by omega), e2, mu_ne (by omega), e1, ab_mud, if_pos ⟨rfl, rfl⟩]
  · rw [e5, mu_ne (by omega), e4, mu_ne (by omega), e3, mu_ne (by omega), e2, ab_mud, if_pos ⟨rfl, rfl⟩]
  · rw [e5, mu_ne (by omega), e4, mu_ne (by omega), e3, ab_mud, if_pos ⟨rfl, rfl⟩]
  · rw [e5, mu_ne (by omega), e4, ab_mud, if_pos ⟨rfl, rfl⟩]
  · rw [e5, ab_mud, if_pos ⟨rfl, rfl⟩]
theorem c_mCo_lastOf {k : Int} (ho : ab_is 1 o) (hn : μ o 5 ≤ 400) (hk : 0 ≤ k ∧ k < μ o 5) (hP : ∀ r, k ≤ r → r < μ o 5 → P r μ) : jj_mCo_lastOf X d 0 (ab_la [o, k]) [] μ P := by
  have s2 : ∀ (m : Nat) (l : ab_l) (j : Int), l 0 = o → l 2 = j → k ≤ j → j < μ o 5 → (μ o 5 - j).toNat = m → jj_mCo_lastOf X d 2 l [] μ P := by
    intro m
    induction m using Nat.strongRecOn with
    | ind m ih =>
      intro l j l0 l2 j0 j1 em
      refine bk_mCo_lastOf_2 (by rw [l0]; exact ho) ?_
      rw [l0, l2, show ab_w (j + 1) = j + 1 from ab_wi (by omega) (by omega)]
      exact ⟨fun _ => hP j j0 j1, fun z => ⟨by omega, fun _ => hP j j0 j1, fun _ => ih _ (by omega) _ (j + 1) l0 rfl (by omega) z rfl⟩⟩
  refine bk_mCo_lastOf_0 ho (s2 _ _ k rfl rfl (by omega) hk.2 rfl)
theorem c_mCo_findLeaders (ho : ab_is 1 o) (hn : 0 ≤ μ o 5 ∧ μ o 5 ≤ 400) (hP : ∀ μ', kX o μ μ' → P 0 μ') : jj_mCo_findLeaders X (d + 2) 0 (ab_la [o]) [] μ P := by
  have s33 : ∀ (m : Nat) (l : ab_l) (μ1 : ab_m) (j : Int), l 0 = o → l 1 = j → 0 ≤ j → (μ o 5 - j).toNat = m → kX o μ μ1 → jj_mCo_findLeaders X (d + 2) 33 l [] μ1 P := by
    intro m
    induction m using Nat.strongRecOn with
    | ind m ih =>
      intro l μ1 j l0 l1 j0 em fx
      have e5 : μ1 o 5 = μ o 5 := fx o 5 (by omega)
      refine bk_mCo_findLeaders_33 (by rw [l0]; exact ho) ?_
      rw [l0, l1, e5]
      refine ⟨fun _ => hP μ1 fx, fun z => ?_⟩
      have j4 : 0 ≤ j ∧ j < 400 := by omega
      have s80 : ∀ (l : ab_l) (μ2 : ab_m), l 0 = o → l 1 = j → kX o μ μ2 → jj_mCo_findLeaders X (d + 2) 80 l [] μ2 P := by
        intro l μ2 l0 l1 fx
        refine bk_mCo_findLeaders_80 (by rw [l0]; exact ho) ?_
        rw [l0, l1, fx o 5 (by omega), show ab_w (j + 1) = j + 1 from ab_wi (by omega) (by omega)]
        exact ⟨fun _ => ih _ (by omega) _ μ2 (j + 1) l0 rfl (by omega) rfl fx, fun z => ⟨by omega, fun μ3 e3 => ih _ (by omega) _ μ3 (j + 1) l0 rfl (by omega) rfl (fx.mu e3 (by omega))⟩⟩
      have s61 : ∀ (l : ab_l) (μ2 : ab_m), l 0 = o → l 1 = j → kX o μ μ2 → jj_mCo_findLeaders X (d + 2) 61 l [] μ2 P := by
        intro l μ2 l0 l1 fx
        refine bk_mCo_findLeaders_61 (by rw [l0]; exact ho) ?_
        rw [l0, l1, show ab_w (j + 1) = j + 1 from ab_wi (by omega) (by omega)]
        exact c_mCo_leaps ho j4 (fun _ => ⟨fun _ => s80 _ μ2 l0 l1 fx, fun y => absurd y (by decide)⟩) fun _ => ⟨fun y => absurd rfl y, fun _ => ⟨j4, fun _ => ih _ (by omega) _ μ2 (j + 1) l0 rfl (by omega) rfl fx, fun _ => s80 _ μ2 l0 l1 fx⟩⟩
      refine c_mCo_leapsInside ho j4 (fun _ y1 y2 => ⟨fun y => absurd y (by decide), fun _ => ⟨j4, by omega, fun μ4 e4 => s61 _ μ4 l0 l1 (fx.mu e4 (by omega))⟩⟩) ⟨fun _ => s61 _ μ1 l0 l1 fx, fun y => absurd rfl y⟩
  have s2 : ∀ (m : Nat) (l : ab_l) (μ1 : ab_m) (j : Int), l 0 = o → l 1 = j → 0 ≤ j ∧ j ≤ 400 → (μ o 5 - j).toNat = m → kX o μ μ1 → jj_mCo_findLeaders X (d + 2) 2 l [] μ1 P := by
    intro m
    induction m using Nat.strongRecOn with
    | ind m ih =>
      intro l μ1 j l0 l1 j0 em fx
      have e5 : μ1 o 5 = μ o 5 := fx o 5 (by omega)
      refine bk_mCo_findLeaders_2 (by rw [l0]; exact ho) ?_
      rw [l0, l1, e5, show ab_w (j + 1) = j + 1 from ab_wi (by omega) (by omega)]
      exact ⟨fun _ => s33 _ _ μ1 0 l0 rfl (by omega) rfl fx, fun z => ⟨fun _ => ⟨by omega, fun μ2 e2 => ih _ (by omega) _ μ2 (j + 1) l0 rfl (by omega) rfl (fx.mu e2 (by omega))⟩, fun _ => ⟨by omega, fun μ2 e2 => ih _ (by omega) _ μ2 (j + 1) l0 rfl (by omega) rfl (fx.mu e2 (by omega))⟩⟩⟩
  exact bk_mCo_findLeaders_0 ho (s2 _ _ μ 0 rfl rfl (by omega) rfl kX.rf)
end K1

/-! THE CLASS, part k2: Code, what is reached, gaps closed, copies -/
section K2
variable {X : jm_X} {d : Nat} {P : Int → ab_m → Prop} {μ μ' : ab_m} {o i : Int}
theorem mu_back {a j v : Int} : ab_mu (ab_mu μ a j v) a j (μ a j) = μ := by
  funext c k
  rw [ab_mud, ab_mud]
  by_cases z : c = a ∧ k = j
  · rw [if_pos z, z.1, z.2]
  · rw [if_neg z, if_neg z]
theorem nz_set {a j v : Int} {n : Nat} (h0 : 0 ≤ j) (h1 : j < n) (h : μ a j = 0) (hv : v ≠ 0) : ab_nz (μ a) n < ab_nz (ab_mu μ a j v a) n := by
  have := nz_lt (μ := ab_mu μ a j v) (a := a) (i := j) (n := n) h0 h1 (by rw [ab_mud, if_pos ⟨rfl, rfl⟩]; exact hv)
  have e := mu_back (μ := μ) (a := a) (j := j) (v := v)
  rw [h] at e
  rwa [e] at this
theorem nz_clr {a j v : Int} {n : Nat} : ab_nz (μ a) n ≤ ab_nz (ab_mu μ a j v a) n + 1 := by
  have := nz_up (ab_mu μ a j v) a j (μ a j) n
  rwa [mu_back] at this
theorem c_mCo_findReached (ho : ab_is 1 o) (hn : 0 ≤ μ o 5 ∧ μ o 5 ≤ 400) (hP : ∀ μ', kX o μ μ' → P 0 μ') : jj_mCo_findReached X (d + 2) 0 (ab_la [o]) [] μ P := by
  have s52 : ∀ (m : Nat) (l : ab_l) (μ1 : ab_m) (wt lf : Int), l 0 = o → l 1 = wt → l 2 = lf → 0 ≤ wt → wt ≤ ab_nz (μ1 (o + 8)) 400 → lf.toNat = m → lf ≤ 400 → kX o μ μ1 → (∀ k, 0 ≤ k → k < wt → 0 ≤ μ1 (o + 11) k ∧ μ1 (o + 11) k < μ o 5) → jj_mCo_findReached X (d + 2) 52 l [] μ1 P := by
    intro m
    induction m using Nat.strongRecOn with
    | ind m ih =>
      intro l μ1 wt lf l0 l1 l2 w0 wn em lf4 fx op
      have e5 : μ1 o 5 = μ o 5 := fx o 5 (by omega)
      have nn := nz_le_n (μ1 (o + 8)) 400
      refine bk_mCo_findReached_52 (by rw [l0]; exact ho) ?_
      rw [l0, l1, l2]
      refine ⟨fun _ => hP μ1 fx, fun z => ⟨fun _ => hP μ1 fx, fun z2 => ?_⟩⟩
      rw [show ab_w (wt + -1) = wt - 1 from ab_wi (by omega) (by omega)]
      have oi := op (wt - 1) (by omega) (by omega)
      generalize hi : μ1 (o + 11) (wt - 1) = i at *
      have s110 : ∀ (l : ab_l) (μ2 : ab_m) (w2 : Int), l 0 = o → l 1 = w2 → l 2 = lf → l 3 = i → 0 ≤ w2 → w2 ≤ ab_nz (μ2 (o + 8)) 400 → kX o μ μ2 → (∀ k, 0 ≤ k → k < w2 → 0 ≤ μ2 (o + 11) k ∧ μ2 (o + 11) k < μ o 5) → jj_mCo_findReached X (d + 2) 110 l [] μ2 P := by
        intro l μ2 w2 l0 l1 l2 l3 w0 wn fx op
        have e5 : μ2 o 5 = μ o 5 := fx o 5 (by omega)
        refine bk_mCo_findReached_110 (by rw [l0]; exact ho) ?_
        rw [l0, l1, l2, l3, show ab_w (lf + -1) = lf - 1 from ab_wi (by omega) (by omega)]
        refine c_mCo_leapsInside ho (by omega) (fun _ y1 y2 => ⟨fun y => absurd y (by decide), fun _ => ⟨by omega, by omega, fun _ => ih _ (by omega) _ μ2 w2 (lf - 1) l0 l1 rfl w0 wn rfl (by omega) fx op, fun y => ⟨by omega, by omega, fun μ4 e4 => ?_⟩⟩⟩) ⟨fun _ => ih _ (by omega) _ μ2 w2 (lf - 1) l0 l1 rfl w0 wn rfl (by omega) fx op, fun y => absurd rfl y⟩
        have g : ab_nz (μ2 (o + 8)) 400 < ab_nz (μ4 (o + 8)) 400 := by rw [e4]; exact nz_set (by omega) (by omega) y (by decide)
        have nn := nz_le_n (μ4 (o + 8)) 400
        refine ⟨by omega, by omega, fun μ5 e5' => ?_⟩
        rw [show ab_w (w2 + 1) = w2 + 1 from ab_wi (by omega) (by omega)]
        have e2 : μ4 (o + 2) i = μ2 (o + 2) i := by rw [e4, mu_ne (by omega)]
        refine ih _ (by omega) _ μ5 (w2 + 1) (lf - 1) l0 rfl rfl (by omega) (by rw [e5', mu_ne (by omega)]; omega) rfl (by omega) ((fx.mu e4 (by omega)).mu e5' (by omega)) fun k k0 k1 => ?_
        by_cases e : k = w2
        · subst e; rw [e5', ab_mud, if_pos ⟨rfl, rfl⟩, e2]; omega
        · rw [e5', ab_mud, if_neg (fun q => e q.2), e4, mu_ne (by omega)]; exact op k k0 (by omega)
      refine ⟨by omega, c_mCo_goesOn ho (by omega) (fun y => ?_) ⟨fun _ => s110 _ μ1 (wt - 1) l0 rfl l2 rfl (by omega) (by omega) fx fun k k0 k1 => op k k0 (by omega), fun y => absurd rfl y⟩⟩
      rw [show ab_w (i + 1) = i + 1 from ab_wi (by omega) (by omega)]
      refine ⟨fun y => absurd y (by decide), fun _ => ⟨by omega, fun _ => s110 _ μ1 (wt - 1) l0 rfl l2 rfl (by omega) (by omega) fx fun k k0 k1 => op k k0 (by omega), fun y => ⟨by omega, fun μ4 e4 => ⟨by omega, fun μ5 e5' => ?_⟩⟩⟩⟩
      have g : ab_nz (μ1 (o + 8)) 400 < ab_nz (μ4 (o + 8)) 400 := by rw [e4]; exact nz_set (by omega) (by omega) y (by decide)
      rw [show ab_w (wt - 1 + 1) = wt by rw [ab_wi (by omega) (by omega)]; omega]
      refine s110 _ μ5 wt l0 rfl l2 rfl (by omega) (by rw [e5', mu_ne (by omega)]; omega) ((fx.mu e4 (by omega)).mu e5' (by omega)) fun k k0 k1 => ?_
      by_cases e : k = wt - 1
      · subst e; rw [e5', ab_mud, if_pos ⟨rfl, rfl⟩]; omega
      · rw [e5', ab_mud, if_neg (fun q => e q.2), e4, mu_ne (by omega)]; exact op k k0 (by omega)
  have s2 : ∀ (m : Nat) (l : ab_l) (μ1 : ab_m) (j : Int), l 0 = o → l 1 = j → 0 ≤ j ∧ j ≤ 400 → (μ o 5 - j).toNat = m → kX o μ μ1 → jj_mCo_findReached X (d + 2) 2 l [] μ1 P := by
    intro m
    induction m using Nat.strongRecOn with
    | ind m ih =>
      intro l μ1 j l0 l1 j0 em fx
      have e5 : μ1 o 5 = μ o 5 := fx o 5 (by omega)
      refine bk_mCo_findReached_2 (by rw [l0]; exact ho) ?_
      rw [l0, l1, e5, show ab_w (j + 1) = j + 1 from ab_wi (by omega) (by omega)]
      refine ⟨fun _ => ⟨fun _ => s52 _ _ μ1 0 400 l0 rfl rfl (by omega) (by omega) rfl (by omega) fx fun k k0 k1 => by omega, fun y => ⟨by omega, fun μ2 e2 => ⟨by omega, fun μ3 e3 => ?_⟩⟩⟩, fun z => ⟨by omega, fun μ2 e2 => ih _ (by omega) _ μ2 (j + 1) l0 rfl (by omega) rfl (fx.mu e2 (by omega))⟩⟩
      refine s52 _ _ μ3 1 400 l0 rfl rfl (by omega) ?_ rfl (by omega) ((fx.mu e2 (by omega)).mu e3 (by omega)) fun k k0 k1 => ?_
      · have a : μ3 (o + 8) 0 ≠ 0 := by rw [e3, mu_ne (by omega), e2, ab_mud, if_pos ⟨rfl, rfl⟩]; decide
        have := nz_lt (μ := μ3) (a := o + 8) (i := 0) (n := 400) (by omega) (by omega) a
        omega
      · rw [show k = 0 by omega, e3, ab_mud, if_pos ⟨rfl, rfl⟩]; omega
  exact bk_mCo_findReached_0 ho (s2 _ _ μ 0 rfl rfl (by omega) rfl kX.rf)
end K2
/-- the frame of what changes code -/
def kF (o : Int) (μ μ' : ab_m) : Prop := (∀ c j, ¬ (o ≤ c ∧ c ≤ o + 11) → μ' c j = μ c j) ∧ (μ' o 6 = μ o 6) ∧ (∀ j, μ' (o + 6) j = μ (o + 6) j)
theorem kF.f {o : Int} {μ μ' : ab_m} (h'' : kF o μ μ') : ∀ c j, ¬ (o ≤ c ∧ c ≤ o + 11) → μ' c j = μ c j := h''.1
theorem kF.r {o : Int} {μ μ' : ab_m} (h'' : kF o μ μ') : μ' o 6 = μ o 6 := h''.2.1
theorem kF.s {o : Int} {μ μ' : ab_m} (h'' : kF o μ μ') : ∀ j, μ' (o + 6) j = μ (o + 6) j := h''.2.2
section K2
variable {X : jm_X} {d : Nat} {P : Int → ab_m → Prop} {μ μ' : ab_m} {o i : Int}
theorem kF.rf : kF o μ μ := ⟨fun _ _ _ => rfl, rfl, fun _ => rfl⟩
theorem kF.trans {μ2 : ab_m} (h : kF o μ μ') (h2 : kF o μ' μ2) : kF o μ μ2 := ⟨fun c j z => (h2.f c j z).trans (h.f c j z), h2.r.trans h.r, fun j => (h2.s j).trans (h.s j)⟩
theorem kX.f (h : kX o μ μ') : kF o μ μ' := ⟨fun c j z => h c j (by omega), h o 6 (by omega), fun j => h (o + 6) j (by omega)⟩
set_option maxHeartbeats 1000000 in
theorem c_mCo_sweep (ho : ab_is 1 o) (hW : kW μ o) (hP : ∀ r μ', (r = 0 ∨ r = 1) → kF o μ μ' → kW μ' o → μ' o 5 ≤ μ o 5 → P r μ') : jj_mCo_sweep X (d + 2) 0 (ab_la [o]) [] μ P := by
  have hn := hW.n
  generalize hN : μ o 5 = n at *
  have s59 : ∀ (q : Nat) (l : ab_l) (μ1 : ab_m) (i m : Int), l 0 = o → l 1 = m → l 2 = i → 0 ≤ i → i ≤ n → 0 ≤ m → m ≤ n → (n - i).toNat = q → kF o μ μ1 → μ1 o 5 = n → (∀ k, i ≤ k → k < n → kI μ1 o k) → (∀ k, 0 ≤ k → k < n → 0 ≤ μ1 (o + 10) k ∧ μ1 (o + 10) k ≤ k) → μ1 (o + 10) n = m → (∀ k, i ≤ k → k < n → (μ1 (o + 9) k ≠ 0 → μ1 (o + 10) (k + 1) = μ1 (o + 10) k) ∧ (μ1 (o + 9) k = 0 → μ1 (o + 10) (k + 1) = μ1 (o + 10) k + 1)) → (∀ k, 0 ≤ k → k < μ1 (o + 10) i → kI μ1 o k) → jj_mCo_sweep X (d + 2) 59 l [] μ1 P := by
    intro q
    induction q using Nat.strongRecOn with
    | ind q ih =>
      intro l μ1 i m l0 l1 l2 i0 i1 m0 m1 eq fk e5 hi hmv hmn hst hdn
      refine bk_mCo_sweep_59 (by rw [l0]; exact ho) ?_
      rw [l0, l1, l2, e5]
      refine ⟨fun z μ2 e2 => ?_, fun z => ⟨by omega, fun g => ⟨by omega, fun μ3 e3 => ?_⟩, fun g => ?_⟩⟩
      · have ein : i = n := by omega
        rw [ein, hmn] at hdn
        have f2 : ∀ c j, ¬ (c = o ∧ j = 5) → μ2 c j = μ1 c j := fun c j y => by rw [e2, ab_mud, if_neg y]
        have v5 : μ2 o 5 = m := by rw [e2, ab_mud, if_pos ⟨rfl, rfl⟩]
        refine hP _ μ2 (Or.inr rfl) (fk.trans ⟨fun c j y => f2 c j (by omega), f2 o 6 (by omega), fun j => f2 _ j (by omega)⟩) ⟨by omega, by rw [f2 o 6 (by omega), fk.r]; exact hW.r, fun k k0 k1 => ?_⟩ (by omega)
        exact (hdn k k0 (by omega)).at (fun c _ _ => f2 _ _ (by omega)) fun j => f2 _ j (by omega)
      · rw [show ab_w (i + 1) = i + 1 from ab_wi (by omega) (by omega)]
        have f3 : ∀ c j, ¬ (c = o + 9 ∧ j = i) → μ3 c j = μ1 c j := fun c j y => by rw [e3, ab_mud, if_neg y]
        have at' : ∀ k, kI μ1 o k → kI μ3 o k := fun k h => h.at (fun c _ _ => f3 _ _ (by omega)) fun j => f3 _ j (by omega)
        have m10 : ∀ k, μ3 (o + 10) k = μ1 (o + 10) k := fun k => f3 _ k (by omega)
        refine ih _ (by omega) _ μ3 (i + 1) m l0 l1 rfl (by omega) (by omega) m0 m1 rfl (fk.trans ⟨fun c j y => f3 c j (by omega), f3 o 6 (by omega), fun j => f3 _ j (by omega)⟩) (by rw [f3 o 5 (by omega)]; exact e5) (fun k k0 k1 => at' k (hi k (by omega) k1)) (fun k k0 k1 => by rw [m10]; exact hmv k k0 k1) (by rw [m10]; exact hmn) (fun k k0 k1 => ?_) (fun k k0 k1 => ?_)
        · rw [m10, m10, f3 (o + 9) k (by omega)]; exact hst k (by omega) k1
        · rw [m10, (hst i (by omega) z).1 g] at k1
          exact at' k (hdn k k0 k1)
      · have s104 : ∀ (l : ab_l) (dd : Int), l 0 = o → l 1 = m → l 2 = i → (kL μ1 o i → 0 ≤ dd) → (¬ kL μ1 o i → dd = μ1 (o + 2) i) → jj_mCo_sweep X (d + 2) 104 l [(0, dd)] μ1 P := by
          intro l dd l0 l1 l2 d1 d2
          have hm := hmv i i0 z
          have hki := hi i (Int.le_refl _) z
          generalize hp : μ1 (o + 10) i = p at *
          refine bk_mCo_sweep_104 (by rw [l0]; exact ho) ?_
          rw [l0, l2, hp, show ab_w (i + 1) = i + 1 from ab_wi (by omega) (by omega)]
          refine ⟨by omega, by omega, by omega, by omega, by omega, c_mCo_put ho (by omega) fun μ2 f2 v1 v2 v3 v4 v5 => ?_⟩
          have p2 : μ2 (o + 10) i = p := by rw [f2 _ _ (by omega)]; exact hp
          rw [p2]
          refine ⟨by omega, by omega, fun μ3 e3 => ⟨by omega, fun μ4 e4 => ?_⟩⟩
          have f4 : ∀ c j, ¬ (o + 1 ≤ c ∧ c ≤ o + 5 ∧ j = p) → ¬ (c = o + 9 ∧ j = i) → μ4 c j = μ1 c j := fun c j y1 y2 => by
            rw [e4, ab_mud, if_neg y2, e3, ab_mud, if_neg (by omega)]; exact f2 c j y1
          have at' : ∀ k, k ≠ p → kI μ1 o k → kI μ4 o k := fun k ne h => h.at (fun c _ _ => f4 _ _ (by omega) (by omega)) fun j => f4 _ j (by omega) (by omega)
          have m10 : ∀ k, μ4 (o + 10) k = μ1 (o + 10) k := fun k => f4 _ k (by omega) (by omega)
          have w1 : μ4 (o + 1) p = μ1 (o + 1) i := by rw [e4, mu_ne (by omega), e3, mu_ne (by omega)]; exact v1
          have w2 : μ4 (o + 2) p = dd := by rw [e4, mu_ne (by omega), e3, mu_ne (by omega)]; exact v2
          have w3 : μ4 (o + 3) p = μ1 (o + 3) i := by rw [e4, mu_ne (by omega), e3, mu_ne (by omega)]; exact v3
          have w4 : μ4 (o + 4) p = μ1 (o + 4) i := by rw [e4, mu_ne (by omega), e3, ab_mud, if_pos ⟨rfl, rfl⟩]
          have w5 : μ4 (o + 5) p = μ1 (o + 5) i := by rw [e4, mu_ne (by omega), e3, mu_ne (by omega)]; exact v5
          have kp : kI μ4 o p := by
            obtain ⟨h1, h2, h3, h4, h5, h6, h7, h8, h9⟩ := hki
            unfold kA at h3
            unfold kB at h4
            unfold kR at h7 h8
            have s6 : ∀ j, μ4 (o + 6) j = μ1 (o + 6) j := fun j => f4 _ j (by omega) (by omega)
            refine ⟨by rw [w1]; exact h1, by rw [w5]; exact h2, ?_, ?_, ?_, ?_, ?_, ?_, ?_⟩
            · unfold kA; rw [w1, w5, w3]; exact h3
            · unfold kB; rw [w1, w5, w4]; exact h4
            · unfold kD kL at *; rw [w1, w2]
              intro y
              rw [d2 (fun q => by clear h3 h4 h5 h6 h7 h8 h9; omega)]
              exact h5 y
            · intro y
              unfold kL at y d1
              rw [w1] at y; rw [w2]; exact d1 y
            · unfold kR; rw [w1, w4, s6]; exact h7
            · unfold kR; rw [w1, w2, s6]
              intro y
              rw [d2 (fun q => by unfold kL at q; clear h3 h4 h5 h6 h7 h8 h9; omega)]
              exact h8 y
            · rw [w1, w5]; exact h9
          refine ih _ (by omega) _ μ4 (i + 1) m l0 l1 rfl (by omega) (by omega) m0 m1 rfl (fk.trans ⟨fun c j y => f4 c j (by omega) (by omega), f4 o 6 (by omega) (by omega), fun j => f4 _ j (by omega) (by omega)⟩) (by rw [f4 o 5 (by omega) (by omega)]; exact e5) (fun k k0 k1 => at' k (by omega) (hi k (by omega) k1)) (fun k k0 k1 => by rw [m10]; exact hmv k k0 k1) (by rw [m10]; exact hmn) (fun k k0 k1 => ?_) (fun k k0 k1 => ?_)
          · rw [m10, m10, f4 (o + 9) k (by omega) (by omega)]; exact hst k (by omega) k1
          · rw [m10, (hst i (by omega) z).2 g, hp] at k1
            by_cases e : k = p
            · rw [e]; exact kp
            · exact at' k e (hdn k k0 (by omega))
        have k400 : 0 ≤ i ∧ i < 400 := by omega
        have hki := hi i (Int.le_refl _) z
        refine c_mCo_leapsInside ho k400 (fun y y1 y2 => ⟨fun x => absurd x (by decide), fun _ => ⟨k400, by omega, ?_⟩⟩) ⟨fun _ => ⟨k400, s104 _ _ l0 l1 l2 (fun y => hki.l y) fun _ => rfl⟩, fun x => absurd rfl x⟩
        exact s104 _ _ l0 l1 l2 (fun _ => (hmv _ y1 (by omega)).1) fun x => absurd y x
  have s4 : ∀ (q : Nat) (l : ab_l) (μ1 : ab_m) (i m : Int), l 0 = o → l 1 = m → l 2 = i → 0 ≤ i → i ≤ n → 0 ≤ m → m ≤ i → (n - i).toNat = q → (∀ c j, c ≠ o + 10 → μ1 c j = μ c j) → (∀ k, 0 ≤ k → k < i → 0 ≤ μ1 (o + 10) k ∧ μ1 (o + 10) k ≤ k) → (∀ k, 0 ≤ k → k < i → (μ (o + 9) k ≠ 0 → (if k + 1 = i then m else μ1 (o + 10) (k + 1)) = μ1 (o + 10) k) ∧ (μ (o + 9) k = 0 → (if k + 1 = i then m else μ1 (o + 10) (k + 1)) = μ1 (o + 10) k + 1)) → (0 < i → μ1 (o + 10) 0 = 0) → (i = 0 → m = 0) → jj_mCo_sweep X (d + 2) 4 l [] μ1 P := by
    intro q
    induction q using Nat.strongRecOn with
    | ind q ih =>
      intro l μ1 i m l0 l1 l2 i0 i1 m0 m1 eq f1 hmv hst h00 hi0
      have e5 : μ1 o 5 = n := by rw [f1 o 5 (by omega)]; exact hN
      refine bk_mCo_sweep_4 (by rw [l0]; exact ho) ?_
      rw [l0, l1, l2, e5]
      refine ⟨fun z => ⟨by omega, fun μ2 e2 => ?_⟩, fun z => ⟨by omega, fun μ2 e2 => ⟨by omega, ?_⟩⟩⟩
      · have f2 : ∀ c j, c ≠ o + 10 → μ2 c j = μ c j := fun c j y => by rw [e2, mu_ne y]; exact f1 c j y
        have ein : i = n := by omega
        subst ein
        have x2 : ∀ k, k ≠ i → μ2 (o + 10) k = μ1 (o + 10) k := fun k y => by rw [e2, ab_mud, if_neg (fun q => y q.2)]
        have fk : kF o μ μ2 := ⟨fun c j y => f2 c j (by omega), f2 o 6 (by omega), fun j => f2 _ j (by omega)⟩
        rw [f2 o 5 (by omega), hN]
        have m2 : μ2 (o + 10) i = m := by rw [e2, ab_mud, if_pos ⟨rfl, rfl⟩]
        have w2 : kW μ2 o := hW.same (f2 o 5 (by omega)) (f2 o 6 (by omega)) fun c j _ _ => f2 c j (by omega)
        refine ⟨fun _ => s59 _ _ μ2 0 m l0 l1 rfl (by omega) (by omega) m0 m1 rfl fk (by rw [f2 o 5 (by omega)]; exact hN) (fun k k0 k1 => w2.i k k0 (by rw [f2 o 5 (by omega), hN]; exact k1)) (fun k k0 k1 => by rw [x2 k (by omega)]; exact hmv k k0 k1) m2 (fun k k0 k1 => ?_) (fun k k0 k1 => ?_), fun _ => hP _ μ2 (Or.inl rfl) fk w2 (by rw [f2 o 5 (by omega), hN]; exact Int.le_refl _)⟩
        · rw [f2 (o + 9) k (by omega), x2 k (by omega)]
          have := hst k k0 k1
          by_cases e : k + 1 = i
          · rw [e, m2]; rw [if_pos e] at this; exact this
          · rw [x2 (k + 1) e]; rw [if_neg e] at this; exact this
        · by_cases e : i = 0
          · rw [e] at m2; rw [m2, hi0 e] at k1; omega
          · rw [x2 0 (by omega), h00 (by omega)] at k1; omega
      · have f2 : ∀ c j, c ≠ o + 10 → μ2 c j = μ c j := fun c j y => by rw [e2, mu_ne y]; exact f1 c j y
        have x2 : ∀ k, k ≠ i → μ2 (o + 10) k = μ1 (o + 10) k := fun k y => by rw [e2, ab_mud, if_neg (fun q => y q.2)]
        have m2 : μ2 (o + 10) i = m := by rw [e2, ab_mud, if_pos ⟨rfl, rfl⟩]
        rw [f2 (o + 9) i (by omega), show ab_w (i + 1) = i + 1 from ab_wi (by omega) (by omega), show ab_w (m + 1) = m + 1 from ab_wi (by omega) (by omega)]
        have mvs : ∀ k, 0 ≤ k → k < i + 1 → 0 ≤ μ2 (o + 10) k ∧ μ2 (o + 10) k ≤ k := fun k k0 k1 => by
          by_cases e : k = i
          · rw [e, m2]; omega
          · rw [x2 k e]; exact hmv k k0 (by omega)
        have stp : ∀ m', (μ (o + 9) i ≠ 0 → m' = m) → (μ (o + 9) i = 0 → m' = m + 1) → ∀ k, 0 ≤ k → k < i + 1 → (μ (o + 9) k ≠ 0 → (if k + 1 = i + 1 then m' else μ2 (o + 10) (k + 1)) = μ2 (o + 10) k) ∧ (μ (o + 9) k = 0 → (if k + 1 = i + 1 then m' else μ2 (o + 10) (k + 1)) = μ2 (o + 10) k + 1) := fun m' a b k k0 k1 => by
          by_cases e : k = i
          · subst e; rw [if_pos rfl, m2]; exact ⟨a, b⟩
          · rw [if_neg (by omega), x2 k e]
            have := hst k k0 (by omega)
            by_cases e2 : k + 1 = i
            · rw [if_pos e2] at this; rw [e2, m2]; exact this
            · rw [if_neg e2] at this; rw [x2 (k + 1) e2]; exact this
        have h00' : 0 < i + 1 → μ2 (o + 10) 0 = 0 := fun _ => by
          by_cases e : i = 0
          · rw [e] at m2; rw [m2]; exact hi0 e
          · rw [x2 0 (by omega)]; exact h00 (by omega)
        exact ⟨fun g => ih _ (by omega) _ μ2 (i + 1) m l0 l1 rfl (by omega) (by omega) m0 (by omega) rfl f2 mvs (stp m (fun _ => rfl) fun y => absurd y g) h00' (by omega), fun g => ih _ (by omega) _ μ2 (i + 1) (m + 1) l0 rfl rfl (by omega) (by omega) (by omega) (by omega) rfl f2 mvs (stp (m + 1) (fun y => absurd g y) fun _ => rfl) h00' (by omega)⟩
  exact bk_mCo_sweep_0 ho (s4 _ _ μ 0 0 rfl rfl rfl (by omega) (by omega) (by omega) (by omega) rfl (fun _ _ _ => rfl) (fun k k0 k1 => by omega) (fun k k0 k1 => by omega) (fun y => by omega) fun _ => rfl)
end K2

/-! THE CLASS, part k3: rows filled, Lives -/
section K3
variable {X : jm_X} {d : Nat} {P : Int → ab_m → Prop} {μ μ' : ab_m} {o p i : Int}
theorem shr6 {x : Int} (h : 0 ≤ x ∧ x < 512) : ab_shr x 6 = x / 64 := by
  have k : ∀ k : Fin 512, (Int32.ofInt (k.val : Int) >>> (Int32.ofInt 6 &&& 31)).toInt = (k.val : Int) / 64 := by decide +kernel
  have := k ⟨x.toNat, by omega⟩
  rw [show ((x.toNat : Nat) : Int) = x by omega] at this
  exact this
theorem c_mArr_fill {n : Nat} {a v : Int} (ha : ab_arr 0 n a) (hn : n ≤ 1000000) (hP : ∀ μ', (∀ c j, c ≠ a → μ' c j = μ c j) → (∀ j : Int, 0 ≤ j → j < n → μ' a j = v) → P 0 μ') : jj_mArr_fill X d 0 (ab_la [a, v]) [] μ P := by
  have s5 : ∀ (q : Nat) (l : ab_l) (μ1 : ab_m) (k : Int), l 0 = a → l 1 = v → l 2 = k → l 3 = n → 0 ≤ k → k ≤ n → (n - k).toNat = q → (∀ c j, c ≠ a → μ1 c j = μ c j) → (∀ j, 0 ≤ j → j < k → μ1 a j = v) → jj_mArr_fill X d 5 l [] μ1 P := by
    intro q
    induction q using Nat.strongRecOn with
    | ind q ih =>
      intro l μ1 k l0 l1 l2 l3 k0 k1 eq f hv
      refine bk_mArr_fill_5 (n0 := n) (by rw [l0]; exact ha) ?_
      rw [l0, l1, l2, l3, show ab_w (k + 1) = k + 1 from ab_wi (by omega) (by omega)]
      refine ⟨fun z => hP μ1 f fun j a b => hv j a (by omega), fun z => ⟨by omega, fun μ2 e2 => ih _ (by omega) _ μ2 (k + 1) l0 l1 rfl l3 (by omega) (by omega) rfl (fun c j y => by rw [e2, mu_ne y]; exact f c j y) fun j j0 j1 => ?_⟩⟩
      by_cases e : j = k
      · rw [e, e2, ab_mud, if_pos ⟨rfl, rfl⟩]
      · rw [e2, ab_mud, if_neg (fun q => e q.2)]; exact hv j j0 (by omega)
  exact bk_mArr_fill_0 (n0 := n) ha ⟨hn, s5 _ _ μ 0 rfl rfl rfl rfl (by omega) (by omega) rfl (fun _ _ _ => rfl) fun j a b => by omega⟩
theorem c_mArr_fill2 {n : Nat} {a v z : Int} (ha : ab_arr 1 n a) (hn : n ≤ 1000000) (hP : ∀ μ', (∀ c j, c ≠ a → μ' c j = μ c j) → P 0 μ') : jj_mArr_fill2 X d 0 (ab_la [a, v, z]) [] μ P := by
  have s6 : ∀ (q : Nat) (l : ab_l) (μ1 : ab_m) (k : Int), l 0 = a → l 3 = k → l 4 = n → 0 ≤ k → k ≤ n → (n - k).toNat = q → (∀ c j, c ≠ a → μ1 c j = μ c j) → jj_mArr_fill2 X d 6 l [] μ1 P := by
    intro q
    induction q using Nat.strongRecOn with
    | ind q ih =>
      intro l μ1 k l0 l3 l4 k0 k1 eq f
      refine bk_mArr_fill2_6 (n0 := n) (by rw [l0]; exact ha) ?_
      rw [l0, l3, l4, show ab_w (k + 1) = k + 1 from ab_wi (by omega) (by omega)]
      exact ⟨fun z => hP μ1 f, fun z => ⟨by omega, fun μ2 e2 => ih _ (by omega) _ μ2 (k + 1) l0 rfl l4 (by omega) (by omega) rfl fun c j y => by rw [e2, mu_ne y]; exact f c j y⟩⟩
  exact bk_mArr_fill2_0 (n0 := n) ha ⟨hn, s6 _ _ μ 0 rfl rfl rfl (by omega) (by omega) rfl fun _ _ _ => rfl⟩
theorem c_mArr_fill3 {n : Nat} {a x y v z : Int} (ha : ab_arr 1 n a) (hn : n ≤ 1000000) (hx : 0 ≤ x ∧ x ≤ y ∧ y ≤ n) (hP : ∀ μ', (∀ c j, c ≠ a → μ' c j = μ c j) → P 0 μ') : jj_mArr_fill3 X (d + 2) 0 (ab_la [a, x, y, v, z]) [] μ P := by
  have s10 : ∀ (q : Nat) (l : ab_l) (μ1 : ab_m) (k : Int), l 0 = a → l 2 = y → l 5 = k → 0 ≤ k → k ≤ n → (y - k).toNat = q → (∀ c j, c ≠ a → μ1 c j = μ c j) → jj_mArr_fill3 X (d + 2) 10 l [] μ1 P := by
    intro q
    induction q using Nat.strongRecOn with
    | ind q ih =>
      intro l μ1 k l0 l2 l5 k0 k1 eq f
      refine bk_mArr_fill3_10 (n0 := n) (by rw [l0]; exact ha) ?_
      rw [l0, l2, l5, show ab_w (k + 1) = k + 1 from ab_wi (by omega) (by omega)]
      exact ⟨fun z => hP μ1 f, fun z => ⟨by omega, fun μ2 e2 => ih _ (by omega) _ μ2 (k + 1) l0 l2 rfl (by omega) (by omega) rfl fun c j y => by rw [e2, mu_ne y]; exact f c j y⟩⟩
  refine bk_mArr_fill3_0 (n0 := n) ha ⟨hn, bk_mArr_rangeCheck_0 ?_⟩
  show (x ≤ y → (0 ≤ x → (y ≤ n → _) ∧ _) ∧ _) ∧ _
  exact ⟨fun _ => ⟨fun _ => ⟨fun _ => s10 _ _ μ x rfl rfl rfl (by omega) (by omega) rfl fun _ _ _ => rfl, fun q => absurd q (by show ¬ ((n : Int) < y); omega)⟩, fun q => absurd q (by show ¬ (x < 0); omega)⟩, fun q => absurd q (by show ¬ (y < x); omega)⟩
theorem li1 (h : ab_is 5 p) : ab_arr 1 2005 (p + 1) := by
  rcases h with h | h <;> subst h
  · exact ⟨58, rfl, by decide, by decide⟩
  · exact ⟨82, rfl, by decide, by decide⟩
theorem li2 (h : ab_is 5 p) : ab_arr 1 2000 (p + 2) := by
  rcases h with h | h <;> subst h
  · exact ⟨59, rfl, by decide, by decide⟩
  · exact ⟨83, rfl, by decide, by decide⟩
theorem li3 (h : ab_is 5 p) : ab_arr 1 1500 (p + 3) := by
  rcases h with h | h <;> subst h
  · exact ⟨60, rfl, by decide, by decide⟩
  · exact ⟨84, rfl, by decide, by decide⟩
/-- nothing but lives -/
def kY (p : Int) (μ μ' : ab_m) : Prop := ∀ c j, ¬ (p ≤ c ∧ c ≤ p + 6) → μ' c j = μ c j
theorem kY.rf : kY p μ μ := fun _ _ _ => rfl
theorem kY.trans {μ2 : ab_m} (h : kY p μ μ') (h2 : kY p μ' μ2) : kY p μ μ2 := fun c j z => (h2 c j z).trans (h c j z)
theorem kY.mu {c j v : Int} {μ2 : ab_m} (h : kY p μ μ') (e : μ2 = ab_mu μ' c j v) (hc : p ≤ c ∧ c ≤ p + 6) : kY p μ μ2 := fun b i z => by rw [e, ab_mud, if_neg (by omega)]; exact h b i z
theorem kY.of {a : Int} (f : ∀ c j, c ≠ a → μ' c j = μ c j) (ha : p ≤ a ∧ a ≤ p + 6) : kY p μ μ' := fun c j z => f c j (by omega)
/-- lives and code lie apart -/
theorem kY.w (h : kY p μ μ') (hp : ab_is 5 p) (ho : ab_is 1 o) (hW : kW μ o) : kW μ' o := by
  have hp : p = 57 ∨ p = 81 := hp
  have ho : o = 45 ∨ o = 88 := ho
  exact hW.same (h o 5 (by omega)) (h o 6 (by omega)) fun c j a b => h c j (by omega)
theorem c_mLi_join {a b : Int} (hp : ab_is 5 p) (ha : 0 ≤ a ∧ a + 5 ≤ 2000) (hb : 0 ≤ b ∧ b + 5 ≤ 2005) (hP : ∀ μ', kY p μ μ' → P 0 μ') : jj_mLi_join X d 0 (ab_la [p, a, b]) [] μ P := by
  have s2 : ∀ (q : Nat) (l : ab_l) (μ1 : ab_m) (k : Int), l 0 = p → l 1 = a → l 2 = b → l 3 = k → 0 ≤ k → k ≤ 5 → (5 - k).toNat = q → kY p μ μ1 → jj_mLi_join X d 2 l [] μ1 P := by
    intro q
    induction q using Nat.strongRecOn with
    | ind q ih =>
      intro l μ1 k l0 l1 l2 l3 k0 k1 eq f
      refine bk_mLi_join_2 (by rw [l0]; exact hp) ?_
      rw [l0, l1, l2, l3, show ab_w (k + 1) = k + 1 from ab_wi (by omega) (by omega), show ab_w (a + k) = a + k from ab_wi (by omega) (by omega), show ab_w (b + k) = b + k from ab_wi (by omega) (by omega)]
      exact ⟨fun z => hP μ1 f, fun z => ⟨by omega, by omega, by omega, fun μ2 e2 => ih _ (by omega) _ μ2 (k + 1) l0 l1 l2 rfl (by omega) (by omega) rfl (f.mu e2 (by omega))⟩⟩
  exact bk_mLi_join_0 hp (s2 _ _ μ 0 rfl rfl rfl rfl (by omega) (by omega) rfl kY.rf)
theorem c_mLi_isBehind {r : Int} (hp : ab_is 5 p) (hi : 0 ≤ i ∧ i < 400) (hr : 0 ≤ r ∧ r < 300) (h : ∀ q, (q = 0 ∨ q = 1) → P q μ) : jj_mLi_isBehind X d 0 (ab_la [p, i, r]) [] μ P := by
  refine bk_mLi_isBehind_0 hp ?_
  simp only [la0, la1, la2]
  rw [show ab_w (i * 5) = i * 5 from ab_wi (by omega) (by omega), shr6 (by omega), show ab_w (i * 5 + r / 64) = i * 5 + r / 64 from ab_wi (by omega) (by omega)]
  exact ⟨by omega, fun _ => h 0 (Or.inl rfl), fun _ => h 1 (Or.inr rfl)⟩
theorem c_mLi_look (hp : ab_is 5 p) (ho : ab_is 1 o) (hW : kW μ o) (hi : 0 ≤ i ∧ i < μ o 5) (hP : ∀ r μ', (r = 0 ∨ r = 1) → kY p μ μ' → P r μ') : jj_mLi_look X (d + 3) 0 (ab_la [p, o, i]) [] μ P := by
  have hn := hW.n
  have hp' : p = 57 ∨ p = 81 := hp
  have ho' : o = 45 ∨ o = 88 := ho
  have i4 : 0 ≤ i ∧ i < 400 := by omega
  have w5 : ab_w (i * 5) = i * 5 := ab_wi (by omega) (by omega)
  have s47 : ∀ (q : Nat) (l : ab_l) (μ1 : ab_m) (ch k : Int), l 0 = p → l 1 = o → l 2 = i → l 3 = i * 5 → l 4 = ch → l 5 = k → 0 ≤ k → k ≤ 5 → (ch = 0 ∨ ch = 1) → (5 - k).toNat = q → kY p μ μ1 → jj_mLi_look X (d + 3) 47 l [] μ1 P := by
    intro q
    induction q using Nat.strongRecOn with
    | ind q ih =>
      intro l μ1 ch k l0 l1 l2 l3 l4 l5 k0 k1 c01 eq f
      refine bk_mLi_look_47 (by rw [l0]; exact hp) (by rw [l1]; exact ho) ?_
      rw [l0, l1, l2, l3, l4, l5]
      refine ⟨fun _ => ⟨by omega, hP ch μ1 c01 f⟩, fun z => ?_⟩
      have wk : ab_w (i * 5 + k) = i * 5 + k := ab_wi (by omega) (by omega)
      rw [wk]
      have s182 : ∀ (l : ab_l), l 0 = p → l 1 = o → l 2 = i → l 3 = i * 5 → l 4 = ch → l 5 = k → jj_mLi_look X (d + 3) 182 l [] μ1 P := by
        intro l l0 l1 l2 l3 l4 l5
        refine bk_mLi_look_182 (by rw [l0]; exact hp) (by rw [l1]; exact ho) ?_
        rw [l0, l3, l5, wk, show ab_w (k + 1) = k + 1 from ab_wi (by omega) (by omega)]
        exact ⟨by omega, fun _ => ih _ (by omega) _ μ1 ch (k + 1) l0 l1 l2 l3 l4 rfl (by omega) (by omega) c01 rfl f, fun _ => ⟨by omega, fun μ2 e2 => ih _ (by omega) _ μ2 1 (k + 1) l0 l1 l2 l3 rfl rfl (by omega) (by omega) (Or.inr rfl) rfl (f.mu e2 (by omega))⟩⟩
      have s144 : ∀ (l : ab_l), l 0 = p → l 1 = o → l 2 = i → l 3 = i * 5 → l 4 = ch → l 5 = k → jj_mLi_look X (d + 3) 144 l [] μ1 P := by
        intro l l0 l1 l2 l3 l4 l5
        refine bk_mLi_look_144 (by rw [l0]; exact hp) (by rw [l1]; exact ho) ?_
        rw [l1, l2, l5]
        exact c_mCo_usesB ho i4 (fun _ => ⟨fun y => absurd y (by decide), fun _ => ⟨i4, fun _ => s182 _ l0 l1 l2 l3 l4 l5, fun _ => ⟨i4, s182 _ l0 l1 l2 l3 l4 l5⟩⟩⟩) fun _ => ⟨fun _ => s182 _ l0 l1 l2 l3 l4 l5, fun y => absurd rfl y⟩
      have s106 : ∀ (l : ab_l), l 0 = p → l 1 = o → l 2 = i → l 3 = i * 5 → l 4 = ch → l 5 = k → jj_mLi_look X (d + 3) 106 l [] μ1 P := by
        intro l l0 l1 l2 l3 l4 l5
        refine bk_mLi_look_106 (by rw [l0]; exact hp) (by rw [l1]; exact ho) ?_
        rw [l1, l2, l5]
        exact c_mCo_usesA ho i4 (fun _ => ⟨fun y => absurd y (by decide), fun _ => ⟨i4, fun _ => s144 _ l0 l1 l2 l3 l4 l5, fun _ => ⟨i4, s144 _ l0 l1 l2 l3 l4 l5⟩⟩⟩) fun _ => ⟨fun _ => s144 _ l0 l1 l2 l3 l4 l5, fun y => absurd rfl y⟩
      exact ⟨by omega, c_mCo_defines ho i4 (fun _ => ⟨fun y => absurd y (by decide), fun _ => ⟨i4, fun _ => s106 _ l0 l1 l2 l3 l4 l5, fun _ => ⟨i4, s106 _ l0 l1 l2 l3 l4 l5⟩⟩⟩) fun _ => ⟨fun _ => s106 _ l0 l1 l2 l3 l4 l5, fun y => absurd rfl y⟩⟩
  have s20 : ∀ (l : ab_l) (μ1 : ab_m), l 0 = p → l 1 = o → l 2 = i → l 3 = i * 5 → kY p μ μ1 → jj_mLi_look X (d + 3) 20 l [] μ1 P := by
    intro l μ1 l0 l1 l2 l3 f
    refine bk_mLi_look_20 (by rw [l0]; exact hp) (by rw [l1]; exact ho) ?_
    rw [l0, l1, l2, l3]
    have e5 : μ1 o 5 = μ o 5 := f o 5 (by omega)
    refine c_mCo_leapsInside ho i4 (fun _ y1 y2 => ⟨fun y => absurd y (by decide), fun _ => ⟨i4, ?_⟩⟩) ⟨fun _ => s47 _ _ μ1 0 0 l0 l1 l2 l3 rfl rfl (by omega) (by omega) (Or.inl rfl) rfl f, fun y => absurd rfl y⟩
    rw [show ab_w (μ1 (o + 2) i * 5) = μ1 (o + 2) i * 5 from ab_wi (by omega) (by omega)]
    exact c_mLi_join hp (by omega) (by omega) fun μ2 f2 => s47 _ _ μ2 0 0 l0 l1 l2 l3 rfl rfl (by omega) (by omega) (Or.inl rfl) rfl (f.trans f2)
  refine bk_mLi_look_0 hp ho ?_
  simp only [la0, la1, la2]
  rw [w5, show ab_w (i * 5 + 5) = i * 5 + 5 from ab_wi (by omega) (by omega)]
  exact c_mCo_goesOn ho i4 (fun y => ⟨fun y => absurd y (by decide), fun _ => c_mLi_join hp (by omega) (by omega) fun μ2 f2 => s20 _ μ2 rfl rfl rfl rfl f2⟩) ⟨fun _ => s20 _ μ rfl rfl rfl rfl kY.rf, fun y => absurd rfl y⟩
theorem c_mLi_find (hp : ab_is 5 p) (ho : ab_is 1 o) (hW : kW μ o) (hP : ∀ μ', kY p μ μ' → P 0 μ') : jj_mLi_find X (d + 4) 0 (ab_la [p, o]) [] μ P := by
  have hn := hW.n
  have hp' : p = 57 ∨ p = 81 := hp
  have ho' : o = 45 ∨ o = 88 := ho
  have s21 : ∀ (q : Nat) (l : ab_l) (μ1 : ab_m) (lf : Int), l 0 = p → l 1 = o → l 3 = lf → lf ≤ 1000000 → lf.toNat = q → kY p μ μ1 → jj_mLi_find X (d + 4) 21 l [] μ1 P := by
    intro q
    induction q using Nat.strongRecOn with
    | ind q ih =>
      intro l μ1 lf l0 l1 l3 lf1 eq f
      refine bk_mLi_find_21 (by rw [l0]; exact hp) (by rw [l1]; exact ho) ?_
      rw [l1, l3, f o 5 (by omega), show ab_w (μ o 5 - 1) = μ o 5 - 1 from ab_wi (by omega) (by omega)]
      refine ⟨fun _ => hP μ1 f, fun z => ⟨fun _ => hP μ1 f, fun _ => ?_⟩⟩
      have s39 : ∀ (q2 : Nat) (l : ab_l) (μ2 : ab_m) (k : Int), l 0 = p → l 1 = o → l 3 = lf → l 4 = k → -1 ≤ k → k < μ o 5 → (k + 1).toNat = q2 → kY p μ μ2 → jj_mLi_find X (d + 4) 39 l [] μ2 P := by
        intro q2
        induction q2 using Nat.strongRecOn with
        | ind q2 ih2 =>
          intro l μ2 k l0 l1 l3 l4 k0 k1 eq2 f
          refine bk_mLi_find_39 (by rw [l0]; exact hp) (by rw [l1]; exact ho) ?_
          rw [l0, l1, l3, l4, show ab_w (lf + -1) = lf - 1 from ab_wi (by omega) (by omega)]
          refine ⟨fun _ => ih _ (by omega) _ μ2 (lf - 1) l0 l1 rfl (by omega) rfl f, fun y => ?_⟩
          rw [show ab_w (k + -1) = k - 1 from ab_wi (by omega) (by omega)]
          refine c_mLi_look hp ho (f.w hp ho hW) (by rw [f o 5 (by omega)]; omega) fun r μ3 _ f3 => ⟨fun _ => ih2 _ (by omega) _ μ3 (k - 1) l0 l1 l3 rfl (by omega) (by omega) rfl (f.trans f3), fun _ => ih2 _ (by omega) _ μ3 (k - 1) l0 l1 l3 rfl (by omega) (by omega) rfl (f.trans f3)⟩
      exact s39 _ _ μ1 (μ o 5 - 1) l0 l1 l3 rfl (by omega) (by omega) rfl f
  refine bk_mLi_find_0 hp ho (c_mArr_fill2 (li1 hp) (by decide) fun μ1 f1 => c_mArr_fill2 (li2 hp) (by decide) fun μ2 f2 => ?_)
  exact s21 _ _ μ2 1000000 rfl rfl rfl (by omega) rfl ((kY.of f1 (by show p ≤ p + 1 ∧ p + 1 ≤ p + 6; omega)).trans (kY.of f2 (by show p ≤ p + 2 ∧ p + 2 ≤ p + 6; omega)))
end K3

/-! THE CLASS, part k4: colours, copies of code -/
section K4
variable {X : jm_X} {d : Nat} {P : Int → ab_m → Prop} {μ μ' : ab_m} {o p i : Int}
theorem c_mLi_setApart (hp : ab_is 5 p) (ho : ab_is 1 o) (hr : 0 ≤ μ o 6 ∧ μ o 6 ≤ 300) (hi : 0 ≤ i ∧ i < 400) (hd : 0 ≤ μ (o + 2) i ∧ μ (o + 2) i < 300) (hP : ∀ μ', (∀ c j, c ≠ p + 3 → μ' c j = μ c j) → P 0 μ') : jj_mLi_setApart X (d + 1) 0 (ab_la [p, o, i]) [] μ P := by
  have hp' : p = 57 ∨ p = 81 := hp
  have ho' : o = 45 ∨ o = 88 := ho
  have s10 : ∀ (q : Nat) (l : ab_l) (μ1 : ab_m) (r : Int), l 0 = p → l 1 = o → l 2 = i → l 3 = μ (o + 2) i → l 4 = r → 0 ≤ r → r ≤ 300 → (μ o 6 - r).toNat = q → (∀ c j, c ≠ p + 3 → μ1 c j = μ c j) → jj_mLi_setApart X (d + 1) 10 l [] μ1 P := by
    intro q
    induction q using Nat.strongRecOn with
    | ind q ih =>
      intro l μ1 r l0 l1 l2 l3 l4 r0 r1 eq f
      refine bk_mLi_setApart_10 (by rw [l0]; exact hp) (by rw [l1]; exact ho) ?_
      rw [l1, l2, l3, l4, f o 6 (by omega)]
      refine ⟨fun _ => hP μ1 f, fun z => ?_⟩
      have go : ∀ (l : ab_l) (s0 : Int), l 0 = p → l 1 = o → l 2 = i → l 3 = μ (o + 2) i → l 4 = r → jj_mLi_setApart X (d + 1) 51 l [(0, s0)] μ1 P := by
        intro l s0 l0 l1 l2 l3 l4
        refine bk_mLi_setApart_51 (by rw [l0]; exact hp) (by rw [l1]; exact ho) ?_
        generalize hD : μ (o + 2) i = D at *
        rw [l0, l2, l3, l4, show ab_w (r + 1) = r + 1 from ab_wi (by omega) (by omega), show ab_w (D * 5) = D * 5 from ab_wi (by omega) (by omega), show ab_w (r * 5) = r * 5 from ab_wi (by omega) (by omega), shr6 (x := r) (by omega), shr6 (x := D) (by omega), show ab_w (D * 5 + r / 64) = D * 5 + r / 64 from ab_wi (by omega) (by omega), show ab_w (r * 5 + D / 64) = r * 5 + D / 64 from ab_wi (by omega) (by omega)]
        refine ⟨fun _ => ih _ (by omega) _ μ1 (r + 1) l0 l1 l2 l3 rfl (by omega) (by omega) rfl f, fun _ => c_mLi_isBehind hp hi (by omega) fun q2 _ => ⟨fun _ => ih _ (by omega) _ μ1 (r + 1) l0 l1 l2 l3 rfl (by omega) (by omega) rfl f, fun _ => ⟨by omega, by omega, fun μ4 e4 => ⟨by omega, by omega, fun μ5 e5 => ih _ (by omega) _ μ5 (r + 1) l0 l1 l2 l3 rfl (by omega) (by omega) rfl fun c j y => by rw [e5, mu_ne y, e4, mu_ne y]; exact f c j y⟩⟩⟩⟩
      exact ⟨fun _ => go _ 1 l0 l1 l2 l3 l4, fun _ => ⟨hi, fun _ => go _ 0 l0 l1 l2 l3 l4, fun _ => ⟨hi, fun _ => go _ 0 l0 l1 l2 l3 l4, fun _ => go _ 1 l0 l1 l2 l3 l4⟩⟩⟩
  refine bk_mLi_setApart_0 hp ho ?_
  simp only [la1, la2]
  exact ⟨hi, s10 _ _ μ 0 rfl rfl rfl rfl rfl (by omega) (by omega) rfl fun _ _ _ => rfl⟩
theorem c_mLi_leastColour {r : Int} (hp : ab_is 5 p) (hr : 0 ≤ r ∧ r < 300) (hc : ∀ k, 0 ≤ k → k < r → μ (p + 6) k ≤ k) (hP : ∀ q μ', 0 ≤ q → q ≤ r → (∀ c j, c ≠ p + 5 → μ' c j = μ c j) → P q μ') : jj_mLi_leastColour X d 0 (ab_la [p, r]) [] μ P := by
  have s91 : ∀ (q : Nat) (l : ab_l) (μ1 : ab_m) (k : Int), l 0 = p → l 1 = r → l 2 = k → 0 ≤ k → k ≤ r → (r - k).toNat = q → (∀ c j, c ≠ p + 5 → μ1 c j = μ c j) → jj_mLi_leastColour X d 91 l [] μ1 P := by
    intro q
    induction q using Nat.strongRecOn with
    | ind q ih =>
      intro l μ1 k l0 l1 l2 k0 k1 eq f
      refine bk_mLi_leastColour_91 (by rw [l0]; exact hp) ?_
      rw [l0, l1, l2, show ab_w (k + 1) = k + 1 from ab_wi (by omega) (by omega)]
      exact ⟨fun _ => hP k μ1 k0 k1 f, fun z => ⟨by omega, fun _ => hP k μ1 k0 k1 f, fun _ => ih _ (by omega) _ μ1 (k + 1) l0 l1 rfl (by omega) (by omega) rfl f⟩⟩
  have s22 : ∀ (q : Nat) (l : ab_l) (μ1 : ab_m) (k : Int), l 0 = p → l 1 = r → l 2 = k → 0 ≤ k → k ≤ r → (r - k).toNat = q → (∀ c j, c ≠ p + 5 → μ1 c j = μ c j) → jj_mLi_leastColour X d 22 l [] μ1 P := by
    intro q
    induction q using Nat.strongRecOn with
    | ind q ih =>
      intro l μ1 k l0 l1 l2 k0 k1 eq f
      refine bk_mLi_leastColour_22 (by rw [l0]; exact hp) ?_
      rw [l0, l1, l2, show ab_w (r * 5) = r * 5 from ab_wi (by omega) (by omega), shr6 (x := k) (by omega), show ab_w (r * 5 + k / 64) = r * 5 + k / 64 from ab_wi (by omega) (by omega)]
      refine ⟨fun _ => s91 _ _ μ1 0 l0 l1 rfl (by omega) (by omega) rfl f, fun z => ?_⟩
      have go : ∀ (s0 : Int), jj_mLi_leastColour X d 57 l [(0, s0)] μ1 P := by
        intro s0
        refine bk_mLi_leastColour_57 (by rw [l0]; exact hp) ?_
        rw [l0, l2, show ab_w (k + 1) = k + 1 from ab_wi (by omega) (by omega), f (p + 6) k (by omega)]
        have := hc k k0 z
        exact ⟨fun _ => ih _ (by omega) _ μ1 (k + 1) l0 l1 rfl (by omega) (by omega) rfl f, fun _ => ⟨by omega, fun _ => ih _ (by omega) _ μ1 (k + 1) l0 l1 rfl (by omega) (by omega) rfl f, fun y => ⟨by omega, by omega, fun μ2 e2 => ih _ (by omega) _ μ2 (k + 1) l0 l1 rfl (by omega) (by omega) rfl fun c j y => by rw [e2, mu_ne y]; exact f c j y⟩⟩⟩
      exact ⟨by omega, fun _ => go 0, fun _ => go 1⟩
  have s2 : ∀ (q : Nat) (l : ab_l) (μ1 : ab_m) (k : Int), l 0 = p → l 1 = r → l 2 = k → 0 ≤ k → k ≤ r + 1 → (r + 1 - k).toNat = q → (∀ c j, c ≠ p + 5 → μ1 c j = μ c j) → jj_mLi_leastColour X d 2 l [] μ1 P := by
    intro q
    induction q using Nat.strongRecOn with
    | ind q ih =>
      intro l μ1 k l0 l1 l2 k0 k1 eq f
      refine bk_mLi_leastColour_2 (by rw [l0]; exact hp) ?_
      rw [l0, l1, l2, show ab_w (k + 1) = k + 1 from ab_wi (by omega) (by omega)]
      exact ⟨fun _ => s22 _ _ μ1 0 l0 l1 rfl (by omega) (by omega) rfl f, fun z => ⟨by omega, fun μ2 e2 => ih _ (by omega) _ μ2 (k + 1) l0 l1 rfl (by omega) (by omega) rfl fun c j y => by rw [e2, mu_ne y]; exact f c j y⟩⟩
  exact bk_mLi_leastColour_0 hp (s2 _ _ μ 0 rfl rfl rfl (by omega) (by omega) rfl fun _ _ _ => rfl)
/-- each register that is named has a colour -/
def kCl (μ : ab_m) (p o : Int) : Prop := ∀ i, 0 ≤ i → i < μ o 5 → (kA μ o i → 0 ≤ μ (p + 6) (μ (o + 3) i) ∧ μ (p + 6) (μ (o + 3) i) < 300) ∧ (kB μ o i → 0 ≤ μ (p + 6) (μ (o + 4) i) ∧ μ (p + 6) (μ (o + 4) i) < 300) ∧ (kD μ o i → 0 ≤ μ (p + 6) (μ (o + 2) i) ∧ μ (p + 6) (μ (o + 2) i) < 300)
set_option maxHeartbeats 1000000 in
theorem c_mLi_giveColours (hp : ab_is 5 p) (ho : ab_is 1 o) (hW : kW μ o) (hP : ∀ μ', kY p μ μ' → kCl μ' p o → P 0 μ') : jj_mLi_giveColours X (d + 3) 0 (ab_la [p, o]) [] μ P := by
  have hn := hW.n
  have hr := hW.r
  have hp' : p = 57 ∨ p = 81 := hp
  have ho' : o = 45 ∨ o = 88 := ho
  have ff : ∀ {μ1 : ab_m}, kY p μ μ1 → ∀ c j, o ≤ c → c ≤ o + 11 → μ1 c j = μ c j := fun f c j a b => f c j (by omega)
  have kk : ∀ {μ1 : ab_m}, kY p μ μ1 → ∀ i, (kA μ1 o i ↔ kA μ o i) ∧ (kB μ1 o i ↔ kB μ o i) ∧ (kD μ1 o i ↔ kD μ o i) := fun {μ1} f i => by
    unfold kA kB kD
    rw [ff f (o + 1) i (by omega) (by omega), ff f (o + 5) i (by omega) (by omega)]
    exact ⟨Iff.rfl, Iff.rfl, Iff.rfl⟩
  have s119 : ∀ (q : Nat) (l : ab_l) (μ1 : ab_m) (r : Int), l 0 = p → l 1 = o → l 2 = r → 0 ≤ r → r ≤ 300 → (300 - r).toNat = q → kY p μ μ1 → (∀ i, 0 ≤ i → i < μ o 5 → (kA μ o i → μ1 (p + 4) (μ (o + 3) i) ≠ 0) ∧ (kB μ o i → μ1 (p + 4) (μ (o + 4) i) ≠ 0) ∧ (kD μ o i → μ1 (p + 4) (μ (o + 2) i) ≠ 0)) → (∀ k, 0 ≤ k → k < r → μ1 (p + 6) k ≤ k ∧ (μ1 (p + 4) k ≠ 0 → 0 ≤ μ1 (p + 6) k)) → jj_mLi_giveColours X (d + 3) 119 l [] μ1 P := by
    intro q
    induction q using Nat.strongRecOn with
    | ind q ih =>
      intro l μ1 r l0 l1 l2 r0 r1 eq f hth hc
      refine bk_mLi_giveColours_119 (by rw [l0]; exact hp) (by rw [l1]; exact ho) ?_
      rw [l0, l2]
      refine ⟨fun z => hP μ1 f fun i i0 i1 => ?_, fun z => ?_⟩
      · rw [ff f o 5 (by omega) (by omega)] at i1
        obtain ⟨k1, k2, k3⟩ := kk f i
        obtain ⟨t1, t2, t3⟩ := hth i i0 i1
        have ki := hW.i i i0 i1
        rw [ff f (o + 3) i (by omega) (by omega), ff f (o + 4) i (by omega) (by omega), ff f (o + 2) i (by omega) (by omega)]
        have g : ∀ x, 0 ≤ x ∧ x < 300 → μ1 (p + 4) x ≠ 0 → 0 ≤ μ1 (p + 6) x ∧ μ1 (p + 6) x < 300 := fun x hx y => by
          obtain ⟨c1, c2⟩ := hc x hx.1 (by omega)
          have := c2 y
          omega
        exact ⟨fun y => g _ (ki.a (k1.mp y)) (t1 (k1.mp y)), fun y => g _ (ki.b (k2.mp y)) (t2 (k2.mp y)), fun y => g _ (ki.d (k3.mp y)) (t3 (k3.mp y))⟩
      · have go : ∀ (μ2 : ab_m) (s2 : Int), (∀ c j, c ≠ p + 5 → μ2 c j = μ1 c j) → s2 ≤ r → -1 ≤ s2 → (μ1 (p + 4) r ≠ 0 → 0 ≤ s2) → jj_mLi_giveColours X (d + 3) 149 l [(0, s2), (0, r), (2, p + 6)] μ2 P := by
          intro μ2 s2 f2 a1 a2 a3
          have bk := bk_mLi_giveColours_149 (X := X) (d := d + 2) (l := l) (μ := μ2) (P := P) (s1 := r) (s2 := s2) (by rw [l0]; exact hp) (by rw [l1]; exact ho)
          rw [l0] at bk
          refine bk ?_
          rw [l2, show ab_w (r + 1) = r + 1 from ab_wi (by omega) (by omega)]
          refine ⟨by omega, fun μ3 e3 => ⟨by omega, fun μ4 e4 => ?_⟩⟩
          have f4 : ∀ c j, c ≠ p + 5 → ¬ (c = p + 6 ∧ j = r) → ¬ (c = p ∧ j = 6) → μ4 c j = μ1 c j := fun c j y1 y2 y3 => by rw [e4, ab_mud, if_neg y3, e3, ab_mud, if_neg y2]; exact f2 c j y1
          have e4' : ∀ k, μ4 (p + 4) k = μ1 (p + 4) k := fun k => f4 _ k (by omega) (by omega) (by omega)
          refine ih _ (by omega) _ μ4 (r + 1) l0 l1 rfl (by omega) (by omega) rfl (f.trans fun c j y => f4 c j (by omega) (by omega) (by omega)) (fun i i0 i1 => by rw [e4', e4', e4']; exact hth i i0 i1) fun k k0 k1 => ?_
          rw [e4']
          by_cases e : k = r
          · subst e
            have : μ4 (p + 6) k = s2 := by rw [e4, ab_mud, if_neg (by omega), e3, ab_mud, if_pos ⟨rfl, rfl⟩]
            rw [this]
            exact ⟨a1, a3⟩
          · rw [f4 (p + 6) k (by omega) (by omega) (by omega)]; exact hc k k0 (by omega)
        refine ⟨by omega, fun y => go μ1 (-1) (fun _ _ _ => rfl) (by omega) (by omega) fun x => absurd y x, fun y => c_mLi_leastColour hp (by omega) (fun k k0 k1 => (hc k k0 k1).1) fun q μ2 q0 q1 f2 => go μ2 q f2 q1 (by omega) fun _ => q0⟩
  have s32 : ∀ (q : Nat) (l : ab_l) (μ1 : ab_m) (i : Int), l 0 = p → l 1 = o → l 2 = i → 0 ≤ i → i ≤ μ o 5 → (μ o 5 - i).toNat = q → kY p μ μ1 → (∀ k, 0 ≤ k → k < i → (kA μ o k → μ1 (p + 4) (μ (o + 3) k) ≠ 0) ∧ (kB μ o k → μ1 (p + 4) (μ (o + 4) k) ≠ 0) ∧ (kD μ o k → μ1 (p + 4) (μ (o + 2) k) ≠ 0)) → jj_mLi_giveColours X (d + 3) 32 l [] μ1 P := by
    intro q
    induction q using Nat.strongRecOn with
    | ind q ih =>
      intro l μ1 i l0 l1 l2 i0 i1 eq f hth
      refine bk_mLi_giveColours_32 (by rw [l0]; exact hp) (by rw [l1]; exact ho) ?_
      rw [l0, l1, l2, ff f o 5 (by omega) (by omega)]
      refine ⟨fun z μ2 e2 => ?_, fun z => ?_⟩
      · have e : i = μ o 5 := by omega
        refine s119 _ _ μ2 0 l0 l1 rfl (by omega) (by omega) rfl (f.mu e2 (by omega)) (fun k k0 k1 => ?_) fun k k0 k1 => by omega
        rw [e2, mu_ne (by omega)]
        exact hth k k0 (by omega)
      · have ki := hW.i i i0 z
        have i4 : 0 ≤ i ∧ i < 400 := by omega
        -- a mark more
        have mark : ∀ {μ2 μ3 : ab_m} {x : Int}, μ3 = ab_mu μ2 (p + 4) x (1 % 2) → ∀ y, μ2 (p + 4) y ≠ 0 ∨ y = x → μ3 (p + 4) y ≠ 0 := fun {μ2 μ3 x} e y hy => by
          rw [e, ab_mud]
          by_cases q : p + 4 = p + 4 ∧ y = x
          · rw [if_pos q]; decide
          · rw [if_neg q]; exact hy.resolve_right fun y => q ⟨rfl, y⟩
        have s80 : ∀ (μ2 : ab_m), kY p μ μ2 → (∀ y, μ1 (p + 4) y ≠ 0 → μ2 (p + 4) y ≠ 0) → (kA μ o i → μ2 (p + 4) (μ (o + 3) i) ≠ 0) → (kB μ o i → μ2 (p + 4) (μ (o + 4) i) ≠ 0) → jj_mLi_giveColours X (d + 3) 80 l [] μ2 P := by
          intro μ2 f2 mo ta tb
          refine bk_mLi_giveColours_80 (by rw [l0]; exact hp) (by rw [l1]; exact ho) ?_
          rw [l0, l1, l2, show ab_w (i + 1) = i + 1 from ab_wi (by omega) (by omega)]
          obtain ⟨-, -, k3⟩ := kk f2 i
          refine c_mCo_defines ho i4 (fun y => ⟨fun y => absurd y (by decide), fun _ => ?_⟩) fun y => ⟨fun _ => ?_, fun y => absurd rfl y⟩
          · have kd := ki.d (k3.mp y)
            rw [ff f2 (o + 2) i (by omega) (by omega)]
            refine ⟨i4, kd, fun μ3 e3 => ?_⟩
            have f3 : kY p μ μ3 := f2.mu e3 (by omega)
            refine c_mLi_setApart hp ho (by rw [ff f3 o 6 (by omega) (by omega)]; exact hr) i4 (by rw [ff f3 (o + 2) i (by omega) (by omega)]; exact kd) fun μ4 f4 => ?_
            have e4 : ∀ y, μ4 (p + 4) y = μ3 (p + 4) y := fun y => f4 _ y (by omega)
            refine ih _ (by omega) _ μ4 (i + 1) l0 l1 rfl (by omega) (by omega) rfl (f3.trans (kY.of f4 (by omega))) fun k k0 k1 => ?_
            rw [e4, e4, e4]
            by_cases e : k = i
            · subst e
              exact ⟨fun y => mark e3 _ (Or.inl (ta y)), fun y => mark e3 _ (Or.inl (tb y)), fun y => mark e3 _ (Or.inr rfl)⟩
            · obtain ⟨h1, h2, h3⟩ := hth k k0 (by omega)
              exact ⟨fun y => mark e3 _ (Or.inl (mo _ (h1 y))), fun y => mark e3 _ (Or.inl (mo _ (h2 y))), fun y => mark e3 _ (Or.inl (mo _ (h3 y)))⟩
          · refine ih _ (by omega) _ μ2 (i + 1) l0 l1 rfl (by omega) (by omega) rfl f2 fun k k0 k1 => ?_
            by_cases e : k = i
            · subst e
              exact ⟨ta, tb, fun x => absurd (k3.mpr x) y⟩
            · obtain ⟨h1, h2, h3⟩ := hth k k0 (by omega)
              exact ⟨fun y => mo _ (h1 y), fun y => mo _ (h2 y), fun y => mo _ (h3 y)⟩
        have s60 : ∀ (μ2 : ab_m), kY p μ μ2 → (∀ y, μ1 (p + 4) y ≠ 0 → μ2 (p + 4) y ≠ 0) → (kA μ o i → μ2 (p + 4) (μ (o + 3) i) ≠ 0) → jj_mLi_giveColours X (d + 3) 60 l [] μ2 P := by
          intro μ2 f2 mo ta
          refine bk_mLi_giveColours_60 (by rw [l0]; exact hp) (by rw [l1]; exact ho) ?_
          rw [l0, l1, l2]
          obtain ⟨-, k2, -⟩ := kk f2 i
          refine c_mCo_usesB ho i4 (fun y => ⟨fun y => absurd y (by decide), fun _ => ?_⟩) fun y => ⟨fun _ => s80 μ2 f2 mo ta fun x => absurd (k2.mpr x) y, fun y => absurd rfl y⟩
          rw [ff f2 (o + 4) i (by omega) (by omega)]
          exact ⟨i4, ki.b (k2.mp y), fun μ3 e3 => s80 μ3 (f2.mu e3 (by omega)) (fun y hy => mark e3 y (Or.inl (mo y hy))) (fun y => mark e3 _ (Or.inl (ta y))) fun _ => mark e3 _ (Or.inr rfl)⟩
        obtain ⟨k1, -, -⟩ := kk f i
        refine c_mCo_usesA ho i4 (fun y => ⟨fun y => absurd y (by decide), fun _ => ?_⟩) fun y => ⟨fun _ => s60 μ1 f (fun _ h => h) fun x => absurd (k1.mpr x) y, fun y => absurd rfl y⟩
        rw [ff f (o + 3) i (by omega) (by omega)]
        exact ⟨i4, ki.a (k1.mp y), fun μ3 e3 => s60 μ3 (f.mu e3 (by omega)) (fun y hy => mark e3 y (Or.inl hy)) fun _ => mark e3 _ (Or.inr rfl)⟩
  have s10 : ∀ (q : Nat) (l : ab_l) (μ1 : ab_m) (r : Int), l 0 = p → l 1 = o → l 2 = r → 0 ≤ r → r ≤ 300 → (300 - r).toNat = q → kY p μ μ1 → jj_mLi_giveColours X (d + 3) 10 l [] μ1 P := by
    intro q
    induction q using Nat.strongRecOn with
    | ind q ih =>
      intro l μ1 r l0 l1 l2 r0 r1 eq f
      refine bk_mLi_giveColours_10 (by rw [l0]; exact hp) (by rw [l1]; exact ho) ?_
      rw [l0, l2, show ab_w (r + 1) = r + 1 from ab_wi (by omega) (by omega)]
      exact ⟨fun _ => s32 _ _ μ1 0 l0 l1 rfl (by omega) (by omega) rfl f fun k k0 k1 => by omega, fun z => ⟨by omega, fun μ2 e2 => ih _ (by omega) _ μ2 (r + 1) l0 l1 rfl (by omega) (by omega) rfl (f.mu e2 (by omega))⟩⟩
  refine bk_mLi_giveColours_0 hp ho (c_mArr_fill2 (li3 hp) (by decide) fun μ1 f1 => s10 _ _ μ1 0 rfl rfl rfl (by omega) (by omega) rfl (kY.of f1 ?_))
  show p ≤ p + 3 ∧ p + 3 ≤ p + 6
  omega
end K4

/-! THE CLASS, part k5: Knowledge -/
section K5
variable {X : jm_X} {d : Nat} {P : Int → ab_m → Prop} {μ μ' : ab_m} {o i : Int}
theorem c_mP_isDivision {k : Int} (h : ∀ r, (r = 0 ∨ r = 1) → P r μ) : jj_mP_isDivision X d 0 (ab_la [k]) [] μ P :=
  bk_mP_isDivision_0 ⟨fun _ => h 1 (Or.inr rfl), fun _ => ⟨fun _ => h 0 (Or.inl rfl), fun _ => h 1 (Or.inr rfl)⟩⟩
theorem c_mP_work {k x y : Int} (h : ∀ r, P r μ) : jj_mP_work X d 0 (ab_la [k, x, y]) [] μ P :=
  bk_mP_work_0 ⟨⟨fun _ => h _, fun _ => h _, fun _ => h _, fun _ => ⟨fun z => ⟨z, h _⟩, fun _ => h _⟩, fun _ => ⟨fun z => ⟨z, h _⟩, fun _ => h _⟩, fun _ => h _, fun _ => h _, fun _ => h _, fun _ => h _, fun _ => h _, fun _ => ⟨fun _ => h _, fun _ => h _⟩, fun _ => ⟨fun _ => h _, fun _ => h _⟩, fun _ => ⟨fun _ => h _, fun _ => h _⟩, fun _ => ⟨fun _ => h _, fun _ => h _⟩, fun _ => ⟨fun _ => h _, fun _ => h _⟩, fun _ => ⟨fun _ => h _, fun _ => h _⟩, fun _ => h _, fun _ => ⟨fun _ => h _, fun _ => h _⟩, fun _ => h _, trivial⟩, fun _ => h _⟩
/-- nothing but what is known -/
def kN (μ μ' : ab_m) : Prop := ∀ c j, ¬ (64 ≤ c ∧ c ≤ 69) → μ' c j = μ c j
theorem kN.rf : kN μ μ := fun _ _ _ => rfl
theorem kN.trans {μ2 : ab_m} (h : kN μ μ') (h2 : kN μ' μ2) : kN μ μ2 := fun c j z => (h2 c j z).trans (h c j z)
theorem kN.mu {c j v : Int} {μ2 : ab_m} (h : kN μ μ') (e : μ2 = ab_mu μ' c j v) (hc : 64 ≤ c ∧ c ≤ 69) : kN μ μ2 := fun b i z => by rw [e, ab_mud, if_neg (by omega)]; exact h b i z
theorem kN.w (h : kN μ μ') (ho : ab_is 1 o) (hW : kW μ o) : kW μ' o := by
  have ho : o = 45 ∨ o = 88 := ho
  exact hW.same (h o 5 (by omega)) (h o 6 (by omega)) fun c j a b => h c j (by omega)
theorem kN.c (h : kN μ μ') (ho : ab_is 1 o) {c j : Int} (a : o ≤ c) (b : c ≤ o + 11) : μ' c j = μ c j := by
  have ho : o = 45 ∨ o = 88 := ho
  exact h c j (by omega)
theorem c_mKn_begin {k : Int} (hk : 0 ≤ k ∧ k < 400) (hP : ∀ μ', (∀ c j, c ≠ 69 → μ' c j = μ c j) → P 0 μ') : jj_mKn_begin X (d + 1) 0 (ab_la [64, k]) [] μ P := by
  refine bk_mKn_begin_0 rfl ?_
  simp only [la1]
  rw [show ab_w (k * 300) = k * 300 from ab_wi (by omega) (by omega)]
  exact ⟨by omega, fun μ1 e1 => hP μ1 fun c j y => by rw [e1]; unfold ab_cp; rw [if_neg (fun q => y q.1)]⟩
theorem c_mKn_first (ho : ab_is 1 o) (hi : 0 ≤ i ∧ i < 400) (hk : kA μ o i → 0 ≤ μ (o + 3) i ∧ μ (o + 3) i < 300) (h : ∀ r, P r μ) : jj_mKn_first X (d + 1) 0 (ab_la [64, o, i]) [] μ P := by
  refine bk_mKn_first_0 rfl ho ?_
  simp only [la1, la2]
  exact c_mCo_usesA ho hi (fun y => ⟨fun y => absurd y (by decide), fun _ => ⟨hi, hk y, h _⟩⟩) fun _ => ⟨fun _ => ⟨hi, h _⟩, fun y => absurd rfl y⟩
theorem c_mKn_second (ho : ab_is 1 o) (hi : 0 ≤ i ∧ i < 400) (hk : kB μ o i → 0 ≤ μ (o + 4) i ∧ μ (o + 4) i < 300) (h : ∀ r, P r μ) : jj_mKn_second X (d + 1) 0 (ab_la [64, o, i]) [] μ P := by
  refine bk_mKn_second_0 rfl ho ?_
  simp only [la1, la2]
  exact c_mCo_usesB ho hi (fun y => ⟨fun y => absurd y (by decide), fun _ => ⟨hi, hk y, h _⟩⟩) fun _ => ⟨fun _ => ⟨hi, h _⟩, fun y => absurd rfl y⟩
theorem c_mKn_pass (ho : ab_is 1 o) (hi : 0 ≤ i ∧ i < 400) (hk : kI μ o i) (hP : ∀ μ', (∀ c j, c ≠ 69 → μ' c j = μ c j) → P 0 μ') : jj_mKn_pass X (d + 2) 0 (ab_la [64, o, i]) [] μ P := by
  have ho' : o = 45 ∨ o = 88 := ho
  refine bk_mKn_pass_0 rfl ho ?_
  simp only [la1, la2]
  refine c_mCo_defines ho hi (fun y => ⟨fun _ => ⟨hi, ?_⟩, fun y => absurd y (by decide)⟩) fun _ => ⟨fun y => absurd rfl y, fun _ => hP μ fun _ _ _ => rfl⟩
  have s104 : ∀ (l : ab_l), l 0 = 64 → l 1 = o → l 2 = i → jj_mKn_pass X (d + 2) 104 l [] μ P := by
    intro l l0 l1 l2
    refine bk_mKn_pass_104 l0 (by rw [l1]; exact ho) ?_
    rw [l1, l2]
    exact ⟨hi, hk.d y, fun μ1 e1 => hP μ1 fun c j y => by rw [e1, mu_ne y]⟩
  refine ⟨fun _ => s104 _ rfl rfl rfl, fun _ => c_mKn_first ho hi hk.a fun a => c_mKn_second ho hi hk.b fun b => ⟨fun _ => s104 _ rfl rfl rfl, fun _ => ⟨fun _ => ⟨fun _ => s104 _ rfl rfl rfl, fun _ => ⟨fun _ => s104 _ rfl rfl rfl, fun _ => c_mP_isDivision fun r _ => ⟨fun _ => c_mP_work fun _ => s104 _ rfl rfl rfl, fun _ => ⟨fun _ => s104 _ rfl rfl rfl, fun _ => c_mP_work fun _ => s104 _ rfl rfl rfl⟩⟩⟩⟩, fun _ => s104 _ rfl rfl rfl⟩⟩⟩
end K5
/-- what waits: places in the code, no more than are marked -/
def kQ (μ : ab_m) (n : Int) : Prop := (0 ≤ μ 64 4 ∧ μ 64 4 ≤ ab_nz (μ 67) 400) ∧ (∀ k, 0 ≤ k → k < μ 64 4 → 0 ≤ μ 68 k ∧ μ 68 k < n)
theorem kQ.c {μ : ab_m} {n : Int} (h'' : kQ μ n) : 0 ≤ μ 64 4 ∧ μ 64 4 ≤ ab_nz (μ 67) 400 := h''.1
theorem kQ.w {μ : ab_m} {n : Int} (h'' : kQ μ n) : ∀ k, 0 ≤ k → k < μ 64 4 → 0 ≤ μ 68 k ∧ μ 68 k < n := h''.2
section K5
variable {X : jm_X} {d : Nat} {P : Int → ab_m → Prop} {μ μ' : ab_m} {o i : Int}
theorem kQ.same {n : Int} (h : kQ μ n) (f4 : μ' 64 4 = μ 64 4) (f : ∀ c j, c = 67 ∨ c = 68 → μ' c j = μ c j) : kQ μ' n := by
  refine ⟨by rw [f4, show μ' 67 = μ 67 from funext fun j => f 67 j (Or.inl rfl)]; exact h.c, fun k a b => ?_⟩
  rw [f4] at b
  rw [f 68 k (Or.inr rfl)]
  exact h.w k a b
set_option maxHeartbeats 1000000 in
theorem c_mKn_flow {t : Int} (ho : ab_is 1 o) (hn : 0 ≤ μ o 5 ∧ μ o 5 ≤ 400) (hr : 0 ≤ μ o 6 ∧ μ o 6 ≤ 300) (hq : kQ μ (μ o 5)) (hP : ∀ μ', kN μ μ' → kQ μ' (μ o 5) → P 0 μ') : jj_mKn_flow X (d + 1) 0 (ab_la [64, o, t]) [] μ P := by
  have ho' : o = 45 ∨ o = 88 := ho
  refine bk_mKn_flow_0 rfl ho ?_
  simp only [la1, la2]
  refine ⟨fun _ => hP μ kN.rf hq, fun t0 => ⟨fun t1 => ?_, fun _ => hP μ kN.rf hq⟩⟩
  have t4 : 0 ≤ t ∧ t < 400 := by omega
  rw [show ab_w (t * 300) = t * 300 from ab_wi (by omega) (by omega)]
  have s140 : ∀ (l : ab_l) (μ1 : ab_m), l 0 = 64 → l 1 = o → l 2 = t → kN μ μ1 → kQ μ1 (μ o 5) → jj_mKn_flow X (d + 1) 140 l [] μ1 P := by
    intro l μ1 l0 l1 l2 f q
    refine bk_mKn_flow_140 l0 (by rw [l1]; exact ho) ?_
    rw [l2]
    refine ⟨fun _ => hP μ1 f q, fun _ => ⟨t4, fun _ => hP μ1 f q, fun y => ⟨t4, fun μ2 e2 => ?_⟩⟩⟩
    have c := q.c
    have g : ab_nz (μ1 67) 400 < ab_nz (μ2 67) 400 := by rw [e2]; exact nz_set t4.1 t4.2 y (by decide)
    have nn := nz_le_n (μ2 67) 400
    have e4 : μ2 64 4 = μ1 64 4 := by rw [e2, mu_ne (by decide)]
    rw [e4]
    refine ⟨by omega, fun μ3 e3 μ4 e5 => ?_⟩
    have e34 : μ3 64 4 = μ1 64 4 := by rw [e3, mu_ne (by decide)]; exact e4
    rw [e34, show ab_w (μ1 64 4 + 1) = μ1 64 4 + 1 from ab_wi (by omega) (by omega)] at e5
    have v4 : μ4 64 4 = μ1 64 4 + 1 := by rw [e5, ab_mud, if_pos ⟨rfl, rfl⟩]
    have m67 : μ4 67 = μ2 67 := by rw [e5, mu_ne (by decide), e3, mu_ne (by decide)]
    refine hP μ4 (((f.mu e2 (by decide)).mu e3 (by decide)).mu e5 (by decide)) ⟨by rw [v4, m67]; omega, fun k k0 k1 => ?_⟩
    rw [v4] at k1
    by_cases e : k = μ1 64 4
    · rw [e5, mu_ne (by decide), e3, ab_mud, if_pos ⟨rfl, e⟩]; omega
    · rw [e5, mu_ne (by decide), e3, ab_mud, if_neg (fun q => e q.2), e2, mu_ne (by decide)]
      exact q.w k k0 (by omega)
  have s74 : ∀ (q : Nat) (l : ab_l) (μ1 : ab_m) (r : Int), l 0 = 64 → l 1 = o → l 2 = t → l 3 = t * 300 → l 6 = r → 0 ≤ r → r ≤ 300 → (μ o 6 - r).toNat = q → kN μ μ1 → kQ μ1 (μ o 5) → jj_mKn_flow X (d + 1) 74 l [] μ1 P := by
    intro q
    induction q using Nat.strongRecOn with
    | ind q ih =>
      intro l μ1 r l0 l1 l2 l3 l6 r0 r1 eq f kq
      refine bk_mKn_flow_74 l0 (by rw [l1]; exact ho) ?_
      rw [l1, l3, l6, f.c ho (Int.le_refl _) (by omega), show ab_w (t * 300 + r) = t * 300 + r from ab_wi (by omega) (by omega), show ab_w (r + 1) = r + 1 from ab_wi (by omega) (by omega)]
      refine ⟨fun _ => s140 _ μ1 l0 l1 l2 f kq, fun z => ⟨by omega, by omega, fun _ => ih _ (by omega) _ μ1 (r + 1) l0 l1 l2 l3 rfl (by omega) (by omega) rfl f kq, fun _ => ⟨by omega, fun _ => ih _ (by omega) _ μ1 (r + 1) l0 l1 l2 l3 rfl (by omega) (by omega) rfl f kq, fun _ => ⟨by omega, fun μ2 e2 => ih _ (by omega) _ μ2 (r + 1) l0 l1 l2 l3 rfl (by omega) (by omega) rfl (f.mu e2 (by decide)) (kq.same (by rw [e2, mu_ne (by decide)]) fun c j y => by rw [e2, mu_ne (by omega)])⟩⟩⟩⟩
  have s33 : ∀ (l : ab_l) (s0 : Int), l 0 = 64 → l 1 = o → l 2 = t → l 3 = t * 300 → jj_mKn_flow X (d + 1) 33 l [(0, s0)] μ P := by
    intro l s0 l0 l1 l2 l3
    refine bk_mKn_flow_33 l0 (by rw [l1]; exact ho) ?_
    rw [l1, l2, l3]
    refine ⟨t4, fun μ1 e1 => ?_⟩
    have f1 : kN μ μ1 := kN.rf.mu e1 (by decide)
    have q1 : kQ μ1 (μ o 5) := hq.same (by rw [e1, mu_ne (by decide)]) fun c j y => by rw [e1, mu_ne (by omega)]
    have e6 : μ1 o 6 = μ o 6 := f1.c ho (Int.le_refl _) (by omega)
    refine ⟨fun _ => s74 _ _ μ1 0 l0 l1 l2 l3 rfl (by omega) (by omega) rfl f1 q1, fun _ => ⟨by rw [e6]; omega, fun μ2 e2 => ?_⟩⟩
    have f2 : ∀ c j, c ≠ 65 → μ2 c j = μ1 c j := fun c j y => by rw [e2]; unfold ab_cp; rw [if_neg (fun q => y q.1)]
    exact s140 _ μ2 l0 l1 l2 (f1.trans fun c j y => f2 c j (by omega)) (q1.same (f2 64 4 (by decide)) fun c j y => f2 c j (by omega))
  exact ⟨t4, fun _ => s33 _ 0 rfl rfl rfl rfl, fun _ => s33 _ 1 rfl rfl rfl rfl⟩
theorem c_mKn_follow {k : Int} (ho : ab_is 1 o) (hW : kW μ o) (hk : 0 ≤ k ∧ k < μ o 5) (hq : kQ μ (μ o 5)) (hP : ∀ μ', kN μ μ' → kQ μ' (μ o 5) → P 0 μ') : jj_mKn_follow X (d + 3) 0 (ab_la [64, o, k]) [] μ P := by
  have ho' : o = 45 ∨ o = 88 := ho
  have hn := hW.n
  have hr := hW.r
  have s183 : ∀ (l : ab_l) (μ1 : ab_m) (ls : Int), l 0 = 64 → l 1 = o → l 3 = ls → 0 ≤ ls → ls < μ o 5 → kN μ μ1 → kQ μ1 (μ o 5) → jj_mKn_follow X (d + 3) 183 l [] μ1 P := by
    intro l μ1 ls l0 l1 l3 s0 s1 f q
    have c5 : ∀ {μ2 : ab_m}, kN μ μ2 → μ2 o 5 = μ o 5 ∧ μ2 o 6 = μ o 6 := fun f => ⟨f.c ho (Int.le_refl _) (by omega), f.c ho (Int.le_refl _) (by omega)⟩
    have fl : ∀ {t : Int} {μ2 : ab_m} {Q : Int → ab_m → Prop}, kN μ μ2 → kQ μ2 (μ o 5) → (∀ μ3, kN μ μ3 → kQ μ3 (μ o 5) → Q 0 μ3) → jj_mKn_flow X (d + 2) 0 (ab_la [64, o, t]) [] μ2 Q := fun {t μ2 Q} f2 q2 h => by
      obtain ⟨a, b⟩ := c5 f2
      exact c_mKn_flow ho (by rw [a]; exact hn) (by rw [b]; exact hr) (by rw [a]; exact q2) fun μ3 f3 q3 => h μ3 (f2.trans f3) (by rw [a] at q3; exact q3)
    refine bk_mKn_follow_183 l0 (by rw [l1]; exact ho) ?_
    rw [l1, l3]
    exact ⟨fun _ => ⟨fun _ => hP μ1 f q, fun _ => fl f q fun μ3 f3 q3 => hP μ3 f3 q3⟩, fun _ => ⟨by omega, fl f q fun μ3 f3 q3 => ⟨fun _ => hP μ3 f3 q3, fun _ => fl f3 q3 fun μ4 f4 q4 => hP μ4 f4 q4⟩⟩⟩
  have s161 : ∀ (l : ab_l) (μ1 : ab_m) (ls s0 : Int), l 0 = 64 → l 1 = o → l 3 = ls → 0 ≤ ls → ls < μ o 5 → kN μ μ1 → kQ μ1 (μ o 5) → jj_mKn_follow X (d + 3) 161 l [(0, s0)] μ1 P := by
    intro l μ1 ls s0 l0 l1 l3 a b f q
    exact bk_mKn_follow_161 l0 (by rw [l1]; exact ho) ⟨fun _ => ⟨fun _ => s183 _ μ1 ls l0 l1 l3 a b f q, fun _ => s183 _ μ1 ls l0 l1 l3 a b f q⟩, fun _ => ⟨fun _ => s183 _ μ1 ls l0 l1 l3 a b f q, fun _ => s183 _ μ1 ls l0 l1 l3 a b f q⟩⟩
  have s133 : ∀ (l : ab_l) (μ1 : ab_m) (ls s0 : Int), l 0 = 64 → l 1 = o → l 3 = ls → 0 ≤ ls → ls < μ o 5 → kN μ μ1 → kQ μ1 (μ o 5) → jj_mKn_follow X (d + 3) 133 l [(0, s0)] μ1 P := by
    intro l μ1 ls s0 l0 l1 l3 a b f q
    exact bk_mKn_follow_133 l0 (by rw [l1]; exact ho) ⟨fun _ => s183 _ μ1 ls l0 l1 l3 a b f q, fun _ => ⟨fun _ => s183 _ μ1 ls l0 l1 l3 a b f q, fun _ => ⟨fun _ => s161 _ μ1 ls 0 l0 l1 l3 a b f q, fun _ => s161 _ μ1 ls 1 l0 l1 l3 a b f q⟩⟩⟩
  have s84 : ∀ (l : ab_l) (μ1 : ab_m) (ls : Int), l 0 = 64 → l 1 = o → l 3 = ls → 0 ≤ ls → ls < μ o 5 → kN μ μ1 → kQ μ1 (μ o 5) → jj_mKn_follow X (d + 3) 84 l [] μ1 P := by
    intro l μ1 ls l0 l1 l3 a b f q
    refine bk_mKn_follow_84 l0 (by rw [l1]; exact ho) ?_
    rw [l1, l3]
    refine c_mKn_first ho (by omega) ((f.w ho hW).i ls a (by rw [f.c ho (Int.le_refl _) (by omega)]; exact b)).a fun r => ⟨fun _ => s133 _ μ1 ls 1 l0 l1 l3 a b f q, fun _ => ⟨fun _ => ⟨fun _ => s133 _ μ1 ls 1 l0 l1 l3 a b f q, fun _ => s133 _ μ1 ls 0 l0 l1 l3 a b f q⟩, fun _ => ⟨fun _ => s133 _ μ1 ls 0 l0 l1 l3 a b f q, fun _ => s133 _ μ1 ls 1 l0 l1 l3 a b f q⟩⟩⟩
  have s14 : ∀ (m : Nat) (l : ab_l) (μ1 : ab_m) (ls i : Int), l 0 = 64 → l 1 = o → l 3 = ls → l 4 = i → 0 ≤ ls → ls < μ o 5 → 0 ≤ i → i ≤ 400 → (ls + 1 - i).toNat = m → kN μ μ1 → kQ μ1 (μ o 5) → jj_mKn_follow X (d + 3) 14 l [] μ1 P := by
    intro m
    induction m using Nat.strongRecOn with
    | ind m ih =>
      intro l μ1 ls i l0 l1 l3 l4 a b i0 i1 em f q
      refine bk_mKn_follow_14 l0 (by rw [l1]; exact ho) ?_
      rw [l1, l3, l4, show ab_w (i + 1) = i + 1 from ab_wi (by omega) (by omega)]
      have ls4 : 0 ≤ ls ∧ ls < 400 := by omega
      have e5 : μ1 o 5 = μ o 5 := f.c ho (Int.le_refl _) (by omega)
      refine ⟨fun _ => ⟨ls4, fun _ => ?_, fun _ => ?_⟩, fun z => ⟨by omega, fun μ2 e2 => ?_⟩⟩
      · have go : ∀ r, (μ1 (o + 1) ls = 26 → jj_mKn_follow X (d + 3) 84 (ab_up (ab_up (ab_up l 4 (μ1 (o + 1) ls)) 5 0) 6 r) [] μ1 P) ∧ (μ1 (o + 1) ls ≠ 26 → (μ1 (o + 1) ls ≠ 27 → jj_mKn_follow X (d + 3) 183 (ab_up (ab_up (ab_up l 4 (μ1 (o + 1) ls)) 5 0) 6 r) [] μ1 P) ∧ (μ1 (o + 1) ls = 27 → jj_mKn_follow X (d + 3) 84 (ab_up (ab_up (ab_up l 4 (μ1 (o + 1) ls)) 5 0) 6 r) [] μ1 P)) := fun r => ⟨fun _ => s84 _ μ1 ls l0 l1 l3 a b f q, fun _ => ⟨fun _ => s183 _ μ1 ls l0 l1 l3 a b f q, fun _ => s84 _ μ1 ls l0 l1 l3 a b f q⟩⟩
        exact c_mCo_goesOn ho ls4 (fun _ => go 1) (go 0)
      · have go : ∀ r, (μ1 (o + 1) ls = 26 → jj_mKn_follow X (d + 3) 84 (ab_up (ab_up (ab_up l 4 (μ1 (o + 1) ls)) 5 1) 6 r) [] μ1 P) ∧ (μ1 (o + 1) ls ≠ 26 → (μ1 (o + 1) ls ≠ 27 → jj_mKn_follow X (d + 3) 183 (ab_up (ab_up (ab_up l 4 (μ1 (o + 1) ls)) 5 1) 6 r) [] μ1 P) ∧ (μ1 (o + 1) ls = 27 → jj_mKn_follow X (d + 3) 84 (ab_up (ab_up (ab_up l 4 (μ1 (o + 1) ls)) 5 1) 6 r) [] μ1 P)) := fun r => ⟨fun _ => s84 _ μ1 ls l0 l1 l3 a b f q, fun _ => ⟨fun _ => s183 _ μ1 ls l0 l1 l3 a b f q, fun _ => s84 _ μ1 ls l0 l1 l3 a b f q⟩⟩
        exact c_mCo_goesOn ho ls4 (fun _ => go 1) (go 0)
      · have f2 : kN μ μ2 := f.mu e2 (by decide)
        have q2 : kQ μ2 (μ o 5) := q.same (by rw [e2, mu_ne (by decide)]) fun c j y => by rw [e2, mu_ne (by omega)]
        refine c_mKn_pass ho (by omega) ((f2.w ho hW).i i i0 (by rw [f2.c ho (Int.le_refl _) (by omega)]; omega)) fun μ3 f3 => ih _ (by omega) _ μ3 ls (i + 1) l0 l1 l3 rfl a b (by omega) (by omega) rfl (f2.trans fun c j y => f3 c j (by omega)) (q2.same (f3 64 4 (by decide)) fun c j y => f3 c j (by omega))
  refine bk_mKn_follow_0 rfl ho ?_
  simp only [la1, la2]
  refine c_mKn_begin (by omega) fun μ1 f1 => ?_
  have g1 : kN μ μ1 := fun c j y => f1 c j (by omega)
  have q1 : kQ μ1 (μ o 5) := hq.same (f1 64 4 (by decide)) fun c j y => f1 c j (by omega)
  have e5 : μ1 o 5 = μ o 5 := g1.c ho (Int.le_refl _) (by omega)
  refine c_mCo_lastOf ho (by omega) (by omega) fun r r0 r1 => s14 _ _ μ1 r k rfl rfl rfl rfl (by omega) (by omega) (by omega) (by omega) rfl g1 q1
theorem c_mKn_learn (ho : ab_is 1 o) (hW : kW μ o) (hP : ∀ μ', (∀ c j, ¬ (64 ≤ c ∧ c ≤ 69) → ¬ (o + 7 ≤ c ∧ c ≤ o + 11) → μ' c j = μ c j) → P 0 μ') : jj_mKn_learn X (d + 4) 0 (ab_la [64, o]) [] μ P := by
  have ho' : o = 45 ∨ o = 88 := ho
  refine bk_mKn_learn_0 rfl ho (c_mCo_findLeaders ho hW.n fun μ0 f0 => ?_)
  have hW0 := hW.x f0
  have hn := hW0.n
  have hr := hW0.r
  have hP' : ∀ μ', kN μ0 μ' → P 0 μ' := fun μ' f => hP μ' fun c j y1 y2 => by rw [f c j y1]; exact f0 c j y2
  have s56 : ∀ (m : Nat) (l : ab_l) (μ1 : ab_m) (lf : Int), l 0 = 64 → l 1 = o → l 2 = lf → lf ≤ 1000000 → lf.toNat = m → kN μ0 μ1 → kQ μ1 (μ0 o 5) → jj_mKn_learn X (d + 4) 56 l [] μ1 P := by
    intro m
    induction m using Nat.strongRecOn with
    | ind m ih =>
      intro l μ1 lf l0 l1 l2 lf1 em f q
      refine bk_mKn_learn_56 l0 (by rw [l1]; exact ho) ?_
      rw [l1, l2]
      refine ⟨fun _ => hP' μ1 f, fun z => ⟨fun _ => hP' μ1 f, fun z2 μ2 e2 => ?_⟩⟩
      have c := q.c
      have nn := nz_le_n (μ1 67) 400
      rw [show ab_w (μ1 64 4 - 1) = μ1 64 4 - 1 from ab_wi (by omega) (by omega)] at e2
      have v2 : μ2 64 4 = μ1 64 4 - 1 := by rw [e2, ab_mud, if_pos ⟨rfl, rfl⟩]
      have x68 : ∀ j, μ2 68 j = μ1 68 j := fun j => by rw [e2, mu_ne (by decide)]
      have wk := q.w (μ1 64 4 - 1) (by omega) (by omega)
      rw [v2, x68, show ab_w (lf + -1) = lf - 1 from ab_wi (by omega) (by omega)]
      refine ⟨by omega, by omega, fun μ3 e3 => ?_⟩
      have f3 : kN μ0 μ3 := (f.mu e2 (by decide)).mu e3 (by decide)
      have e35 : μ3 o 5 = μ0 o 5 := f3.c ho (Int.le_refl _) (by omega)
      have q3 : kQ μ3 (μ0 o 5) := by
        have e67 : ab_nz (μ2 67) 400 ≤ ab_nz (μ3 67) 400 + 1 := by rw [e3]; exact nz_clr
        have e267 : μ2 67 = μ1 67 := by rw [e2, mu_ne (by decide)]
        rw [e267] at e67
        have v3 : μ3 64 4 = μ1 64 4 - 1 := by rw [e3, mu_ne (by decide)]; exact v2
        refine ⟨by rw [v3]; omega, fun k k0 k1 => ?_⟩
        rw [v3] at k1
        rw [e3, mu_ne (by decide), x68]
        exact q.w k k0 (by omega)
      refine c_mKn_follow ho (f3.w ho hW0) (by omega) (by rw [e35]; exact q3) fun μ4 f4 q4 => ih _ (by omega) _ μ4 (lf - 1) l0 l1 rfl (by omega) rfl (f3.trans f4) (by rw [e35] at q4; exact q4)
  have s6 : ∀ (m : Nat) (l : ab_l) (μ1 : ab_m) (i : Int), l 0 = 64 → l 1 = o → l 2 = i → 0 ≤ i → i ≤ 400 → (μ0 o 5 - i).toNat = m → kN μ0 μ1 → jj_mKn_learn X (d + 4) 6 l [] μ1 P := by
    intro m
    induction m using Nat.strongRecOn with
    | ind m ih =>
      intro l μ1 i l0 l1 l2 i0 i1 em f
      refine bk_mKn_learn_6 l0 (by rw [l1]; exact ho) ?_
      rw [l1, l2, f.c ho (Int.le_refl _) (by omega), show ab_w (i + 1) = i + 1 from ab_wi (by omega) (by omega)]
      refine ⟨fun _ μ2 e2 => c_mArr_fill2 (n := 300) ⟨69, rfl, by decide, by decide⟩ (by decide) fun μ3 f3 => ?_, fun z => ⟨by omega, fun μ2 e2 => ⟨by omega, fun μ3 e3 => ih _ (by omega) _ μ3 (i + 1) l0 l1 rfl (by omega) (by omega) rfl ((f.mu e2 (by decide)).mu e3 (by decide))⟩⟩⟩
      have g3 : kN μ0 μ3 := (f.mu e2 (by decide)).trans fun c j y => f3 c j (by omega)
      have v3 : μ3 64 4 = 0 := by rw [f3 64 4 (by decide), e2, ab_mud, if_pos ⟨rfl, rfl⟩]
      have q3 : kQ μ3 (μ0 o 5) := ⟨by rw [v3]; omega, fun k k0 k1 => by rw [v3] at k1; omega⟩
      have a := g3.c (c := o) (j := 5) ho (Int.le_refl _) (by omega)
      have b := g3.c (c := o) (j := 6) ho (Int.le_refl _) (by omega)
      refine c_mKn_flow ho (by rw [a]; exact hn) (by rw [b]; exact hr) (by rw [a]; exact q3) fun μ4 f4 q4 => s56 _ _ μ4 1000000 l0 l1 rfl (by omega) rfl (g3.trans f4) (by rw [a] at q4; exact q4)
  exact s6 _ _ μ0 0 rfl rfl rfl (by omega) (by omega) rfl kN.rf
theorem c_mKn_before {r : Int} (ho : ab_is 1 o) (hW : kW μ o) (hi : 0 ≤ i ∧ i < μ o 5) (hr : 0 ≤ r ∧ r < 300) (hP : ∀ q μ', kN μ μ' → P q μ') : jj_mKn_before X (d + 3) 0 (ab_la [64, o, i, r]) [] μ P := by
  have ho' : o = 45 ∨ o = 88 := ho
  have hn := hW.n
  have s47 : ∀ (m : Nat) (l : ab_l) (μ1 : ab_m) (k : Int), l 0 = 64 → l 1 = o → l 2 = i → l 3 = r → l 5 = k → 0 ≤ k → k ≤ i → (i - k).toNat = m → kN μ μ1 → jj_mKn_before X (d + 3) 47 l [] μ1 P := by
    intro m
    induction m using Nat.strongRecOn with
    | ind m ih =>
      intro l μ1 k l0 l1 l2 l3 l5 k0 k1 em f
      refine bk_mKn_before_47 l0 (by rw [l1]; exact ho) ?_
      rw [l1, l2, l3, l5, show ab_w (k + 1) = k + 1 from ab_wi (by omega) (by omega)]
      refine ⟨fun _ => ⟨hr, hP _ μ1 f⟩, fun z => c_mKn_pass ho (by omega) ((f.w ho hW).i k k0 (by rw [f.c ho (Int.le_refl _) (by omega)]; omega)) fun μ2 f2 => ih _ (by omega) _ μ2 (k + 1) l0 l1 l2 l3 rfl (by omega) (by omega) rfl (f.trans fun c j y => f2 c j (by omega))⟩
  have s16 : ∀ (m : Nat) (l : ab_l) (k : Int), l 0 = 64 → l 1 = o → l 2 = i → l 3 = r → l 4 = k → 0 ≤ k → k ≤ i → k.toNat = m → jj_mKn_before X (d + 3) 16 l [] μ P := by
    intro m
    induction m using Nat.strongRecOn with
    | ind m ih =>
      intro l k l0 l1 l2 l3 l4 k0 k1 em
      refine bk_mKn_before_16 l0 (by rw [l1]; exact ho) ?_
      rw [l1, l4, show ab_w (k + -1) = k - 1 from ab_wi (by omega) (by omega)]
      refine ⟨fun _ => c_mKn_begin (by omega) fun μ1 f1 => s47 _ _ μ1 k l0 l1 l2 l3 rfl k0 k1 rfl fun c j y => f1 c j (by omega), fun z => ⟨by omega, fun _ => c_mKn_begin (by omega) fun μ1 f1 => s47 _ _ μ1 k l0 l1 l2 l3 rfl k0 k1 rfl fun c j y => f1 c j (by omega), fun _ => ih _ (by omega) _ (k - 1) l0 l1 l2 l3 rfl (by omega) (by omega) rfl⟩⟩
  refine bk_mKn_before_0 rfl ho ?_
  simp only [la1, la2]
  exact ⟨by omega, fun _ => s16 _ _ i rfl rfl rfl rfl rfl hi.1 (Int.le_refl _) rfl, fun _ => hP _ μ kN.rf⟩
end K5

/-! THE CLASS, part k6: trailing zeros, Holdings -/
section K6
variable {X : jm_X} {d : Nat} {P : Int → ab_m → Prop} {μ μ' : ab_m} {o i : Int}
theorem ushr_b {x : Int} {k : Nat} (hk : 1 ≤ k ∧ k ≤ 31) (h : 0 ≤ x ∧ x < 2147483648) : ab_ushr x k = x / 2 ^ k := by
  unfold ab_ushr
  have e1 : (Int32.ofInt (k : Int)).toUInt32 &&& Int32.toUInt32 31 = UInt32.ofNat k := by
    have : ∀ k : Fin 32, (Int32.ofInt (k.val : Int)).toUInt32 &&& Int32.toUInt32 31 = UInt32.ofNat k.val := by decide
    exact this ⟨k, by omega⟩
  rw [e1]
  have e2 : (Int32.ofInt x).toUInt32.toNat = x.toNat := by
    show ((BitVec.ofInt 32 x).toNat) = _
    rw [BitVec.toNat_ofInt]
    omega
  have e3 : (((Int32.ofInt x).toUInt32 >>> UInt32.ofNat k)).toNat = x.toNat / 2 ^ k := by
    rw [UInt32.toNat_shiftRight, e2, UInt32.toNat_ofNat', Nat.shiftRight_eq_div_pow]
    congr 2
    omega
  show (((Int32.ofInt x).toUInt32 >>> UInt32.ofNat k).toBitVec).toInt = _
  have e4 : ((Int32.ofInt x).toUInt32 >>> UInt32.ofNat k).toBitVec.toNat = x.toNat / 2 ^ k := e3
  have lt : x.toNat / 2 ^ k ≤ x.toNat := Nat.div_le_self _ _
  rw [BitVec.toInt_eq_toNat_cond, e4, if_pos (by omega)]
  rw [Int.natCast_ediv, Int.toNat_of_nonneg h.1]
  norm_cast
theorem and_b {x m : Int} (hm : 0 ≤ m ∧ m < 2147483648) : 0 ≤ ab_and x m ∧ ab_and x m ≤ m := by
  unfold ab_and
  have e : (Int32.ofInt x &&& Int32.ofInt m).toInt = ((BitVec.ofInt 32 x &&& BitVec.ofInt 32 m)).toInt := rfl
  rw [e, BitVec.toInt_eq_toNat_cond, BitVec.toNat_and]
  have l : (BitVec.ofInt 32 x).toNat &&& (BitVec.ofInt 32 m).toNat ≤ (BitVec.ofInt 32 m).toNat := Nat.and_le_right
  have t : (BitVec.ofInt 32 m).toNat = m.toNat := by rw [BitVec.toNat_ofInt]; omega
  rw [if_pos (by omega)]
  omega
theorem and_lt {x y : Int} : ab_and x y ≤ 2147483647 := by
  unfold ab_and
  have := Int32.toInt_lt (Int32.ofInt x &&& Int32.ofInt y)
  omega
theorem c_mInt_ntz {x : Int} (h : ∀ r, 0 ≤ r → r ≤ 40 → P r μ) : jj_mInt_numberOfTrailingZeros X d 0 (ab_la [x]) [] μ P := by
  have s62 : ∀ (l : ab_l) (i n : Int), l 0 = i → l 1 = n → 0 ≤ i → i ≤ 16 → 1 ≤ n → n ≤ 29 → jj_mInt_numberOfTrailingZeros X d 62 l [] μ P := by
    intro l i n l0 l1 a b c e
    refine bk_mInt_numberOfTrailingZeros_62 ?_
    have u1 : ab_ushr i 1 = i / 2 := ushr_b (k := 1) (by omega) (by omega)
    have u2 : ab_ushr i 2 = i / 4 := ushr_b (k := 2) (by omega) (by omega)
    have u3 : ab_ushr (i / 4) 1 = i / 4 / 2 := ushr_b (k := 1) (by omega) (by omega)
    rw [l0, l1, u1, u2, u3]
    rw [show ab_w (n + 2) = n + 2 from ab_wi (by omega) (by omega), show ab_w (n + i / 2) = n + i / 2 from ab_wi (by omega) (by omega), show ab_w (n + 2 + i / 4 / 2) = n + 2 + i / 4 / 2 from ab_wi (by omega) (by omega)]
    exact ⟨fun _ => h _ (by omega) (by omega), fun _ => h _ (by omega) (by omega)⟩
  have s34 : ∀ (l : ab_l) (i n : Int), l 0 = i → l 1 = n → 0 ≤ i → i ≤ 65536 → 1 ≤ n → n ≤ 17 → jj_mInt_numberOfTrailingZeros X d 34 l [] μ P := by
    intro l i n l0 l1 a b c e
    refine bk_mInt_numberOfTrailingZeros_34 ?_
    have u4 : ab_ushr i 4 = i / 16 := ushr_b (k := 4) (by omega) (by omega)
    have u8 : ab_ushr i 8 = i / 256 := ushr_b (k := 8) (by omega) (by omega)
    have u84 : ab_ushr (i / 256) 4 = i / 256 / 16 := ushr_b (k := 4) (by omega) (by omega)
    rw [l0, l1, u4, u8, u84, show ab_w (n + 4) = n + 4 from ab_wi (by omega) (by omega), show ab_w (n + 8) = n + 8 from ab_wi (by omega) (by omega), show ab_w (n + 8 + 4) = n + 8 + 4 from ab_wi (by omega) (by omega)]
    exact ⟨fun z => ⟨fun _ => s62 _ i n l0 l1 a (by omega) c (by omega), fun _ => s62 _ (i / 16) (n + 4) rfl rfl (by omega) (by omega) (by omega) (by omega)⟩, fun z => ⟨fun _ => s62 _ (i / 256) (n + 8) rfl rfl (by omega) (by omega) (by omega) (by omega), fun _ => s62 _ (i / 256 / 16) (n + 8 + 4) rfl rfl (by omega) (by omega) (by omega) (by omega)⟩⟩
  refine bk_mInt_numberOfTrailingZeros_0 ?_
  have lt := and_lt (x := ab_xor x (-1)) (y := ab_w (x - 1))
  simp only [la0]
  generalize ab_and (ab_xor x (-1)) (ab_w (x - 1)) = i at *
  refine ⟨fun z => ⟨fun _ => s34 _ i 1 rfl rfl (by omega) (by omega) (by omega) (by omega), fun _ => ?_⟩, fun _ => ?_⟩
  · have u : ab_ushr i 16 = i / 65536 := ushr_b (k := 16) (by omega) (by omega)
    rw [u, show ab_w (1 + 16) = 17 from ab_wi (by omega) (by omega)]
    exact s34 _ (i / 65536) 17 rfl rfl (by omega) (by omega) (by omega) (by omega)
  · have := and_b (x := i) (m := 32) (by omega)
    exact h _ (by omega) (by omega)
theorem c_mLong_ntz {x y : Int} (h : ∀ r, 0 ≤ r → r ≤ 72 → P r μ) : jj_mLong_numberOfTrailingZeros X (d + 1) 0 (ab_la [x, y]) [] μ P :=
  bk_mLong_numberOfTrailingZeros_0 ⟨fun _ => c_mInt_ntz fun r a b => h r a (by omega), fun _ => c_mInt_ntz fun r a b => by rw [show ab_w (32 + r) = 32 + r from ab_wi (by omega) (by omega)]; exact h _ (by omega) (by omega)⟩
end K6
/-- the facts of the first i instructions -/
def kH (μ : ab_m) (i : Int) : Prop := (0 ≤ μ 71 6 ∧ μ 71 6 ≤ i) ∧ (∀ f, 0 ≤ f → f < μ 71 6 → (0 ≤ μ 73 f ∧ μ 73 f < 300) ∧ (μ 74 f = 1 → 0 ≤ μ 75 f ∧ μ 75 f < 300)) ∧ (∀ k, 0 ≤ k → k < i → -1 ≤ μ 72 k ∧ μ 72 k < μ 71 6)
theorem kH.c {μ : ab_m} {i : Int} (h'' : kH μ i) : 0 ≤ μ 71 6 ∧ μ 71 6 ≤ i := h''.1
theorem kH.h {μ : ab_m} {i : Int} (h'' : kH μ i) : ∀ f, 0 ≤ f → f < μ 71 6 → (0 ≤ μ 73 f ∧ μ 73 f < 300) ∧ (μ 74 f = 1 → 0 ≤ μ 75 f ∧ μ 75 f < 300) := h''.2.1
theorem kH.f {μ : ab_m} {i : Int} (h'' : kH μ i) : ∀ k, 0 ≤ k → k < i → -1 ≤ μ 72 k ∧ μ 72 k < μ 71 6 := h''.2.2
section K6
variable {X : jm_X} {d : Nat} {P : Int → ab_m → Prop} {μ μ' : ab_m} {o i : Int}
theorem kH.same (h : kH μ i) (e6 : μ' 71 6 = μ 71 6) (f : ∀ c j, 72 ≤ c → c ≤ 75 → μ' c j = μ c j) : kH μ' i := by
  refine ⟨by rw [e6]; exact h.c, fun k a b => ?_, fun k a b => ?_⟩
  · rw [e6] at b
    rw [f 73 k (by decide) (by decide), f 74 k (by decide) (by decide), f 75 k (by decide) (by decide)]
    exact h.h k a b
  · rw [e6, f 72 k (by decide) (by decide)]; exact h.f k a b
/-- nothing but what is held -/
def kG (μ μ' : ab_m) : Prop := ∀ c j, ¬ (71 ≤ c ∧ c ≤ 80) → μ' c j = μ c j
theorem kG.rf : kG μ μ := fun _ _ _ => rfl
theorem kG.trans {μ2 : ab_m} (h : kG μ μ') (h2 : kG μ' μ2) : kG μ μ2 := fun c j z => (h2 c j z).trans (h c j z)
theorem kG.mu {c j v : Int} {μ2 : ab_m} (h : kG μ μ') (e : μ2 = ab_mu μ' c j v) (hc : 71 ≤ c ∧ c ≤ 80) : kG μ μ2 := fun b i z => by rw [e, ab_mud, if_neg (by omega)]; exact h b i z
theorem kG.c (h : kG μ μ') (ho : ab_is 1 o) {c j : Int} (a : o ≤ c) (b : c ≤ o + 11) : μ' c j = μ c j := by
  have ho : o = 45 ∨ o = 88 := ho
  exact h c j (by omega)
theorem kG.w (h : kG μ μ') (ho : ab_is 1 o) (hW : kW μ o) : kW μ' o := hW.same (h.c ho (Int.le_refl _) (by omega)) (h.c ho (Int.le_refl _) (by omega)) fun c j a b => h.c ho (by omega) (by omega)
theorem kG.ki (h : kG μ μ') (ho : ab_is 1 o) (hk : kI μ o i) : kI μ' o i := hk.at (fun c a b => h.c ho (by omega) (by omega)) fun j => h.c ho (by omega) (by omega)
theorem c_mHo_isOf {f : Int} (ho : ab_is 1 o) (hf : 0 ≤ f ∧ f < 400) (hi : 0 ≤ i ∧ i < 400) (h : ∀ r, (r = 0 ∨ r = 1) → P r μ) : jj_mHo_isOf X d 0 (ab_la [71, f, o, i]) [] μ P :=
  bk_mHo_isOf_0 rfl ho ⟨hf, hi, fun _ => h 0 (Or.inl rfl), fun _ => ⟨hf, hi, fun _ => h 0 (Or.inl rfl), fun _ => ⟨hf, hi, fun _ => h 0 (Or.inl rfl), fun _ => ⟨hf, hi, fun _ => h 0 (Or.inl rfl), fun _ => h 1 (Or.inr rfl)⟩⟩⟩⟩
theorem c_mHo_endBy {r f : Int} (hr : 0 ≤ r ∧ r < 300) (hf : 0 ≤ f ∧ f < 400) (hP : ∀ μ', (∀ c j, c ≠ 78 → μ' c j = μ c j) → P 0 μ') : jj_mHo_endBy X d 0 (ab_la [71, r, f]) [] μ P := by
  refine bk_mHo_endBy_0 rfl ?_
  simp only [la1, la2]
  rw [show ab_w (r * 7) = r * 7 from ab_wi (by omega) (by omega), shr6 (by omega), show ab_w (r * 7 + f / 64) = r * 7 + f / 64 from ab_wi (by omega) (by omega)]
  exact ⟨by omega, by omega, fun μ1 e1 => hP μ1 fun c j y => by rw [e1, mu_ne y]⟩
theorem c_mHo_factFor (ho : ab_is 1 o) (hi : 0 ≤ i ∧ i < 400) (hk : kI μ o i) (hd : kD μ o i) (hH : kH μ i) (hP : ∀ r μ', kG μ μ' → (∀ j, μ' 72 j = μ 72 j) → μ 71 6 ≤ μ' 71 6 → μ' 71 6 ≤ i + 1 → (∀ f, 0 ≤ f → f < μ' 71 6 → (0 ≤ μ' 73 f ∧ μ' 73 f < 300) ∧ (μ' 74 f = 1 → 0 ≤ μ' 75 f ∧ μ' 75 f < 300)) → -1 ≤ r → r < μ' 71 6 → P r μ') : jj_mHo_factFor X (d + 1) 0 (ab_la [71, o, i]) [] μ P := by
  have c := hH.c
  have dd := hk.d hd
  have no : P (-1) μ := hP (-1) μ kG.rf (fun _ => rfl) (by omega) (by omega) hH.h (by omega) (by omega)
  have s48 : ∀ (m : Nat) (l : ab_l) (f : Int), l 0 = 71 → l 1 = o → l 2 = i → l 3 = μ (o + 2) i → l 4 = f → 0 ≤ f → f ≤ μ 71 6 → (μ 71 6 - f).toNat = m → jj_mHo_factFor X (d + 1) 48 l [] μ P := by
    intro m
    induction m using Nat.strongRecOn with
    | ind m ih =>
      intro l f l0 l1 l2 l3 l4 f0 f1 em
      refine bk_mHo_factFor_48 l0 (by rw [l1]; exact ho) ?_
      rw [l1, l2, l3, l4, show ab_w (f + 1) = f + 1 from ab_wi (by omega) (by omega), show ab_w (μ 71 6 + 1) = μ 71 6 + 1 from ab_wi (by omega) (by omega)]
      generalize hn : μ 71 6 = n at *
      have n4 : 0 ≤ n ∧ n < 400 := by omega
      refine ⟨fun z μ1 e1 => ⟨n4, fun μ2 e2 => ⟨hi, n4, fun μ3 e3 => ⟨hi, n4, fun μ4 e4 => ⟨hi, n4, fun μ5 e5 => ⟨hi, n4, fun μ6 e6 => ?_⟩⟩⟩⟩⟩, fun z => ⟨by omega, fun _ => ih _ (by omega) _ (f + 1) l0 l1 l2 l3 rfl (by omega) (by omega) rfl, fun _ => c_mHo_isOf ho (by omega) hi fun r _ => ⟨fun _ => ih _ (by omega) _ (f + 1) l0 l1 l2 l3 rfl (by omega) (by omega) rfl, fun _ => hP f μ kG.rf (fun _ => rfl) (by omega) (by omega) hH.h (by omega) (by omega)⟩⟩⟩
      have g2 : kG μ μ2 := (kG.rf.mu e1 (by decide)).mu e2 (by decide)
      have g3 : kG μ μ3 := g2.mu e3 (by decide)
      have g4 : kG μ μ4 := g3.mu e4 (by decide)
      have g5 : kG μ μ5 := g4.mu e5 (by decide)
      have g6 : kG μ μ6 := g5.mu e6 (by decide)
      rw [g2.c ho (by omega) (by omega)] at e3
      rw [g3.c ho (by omega) (by omega)] at e4
      have v6 : μ6 71 6 = n + 1 := by rw [e6, mu_ne (by decide), e5, mu_ne (by decide), e4, mu_ne (by decide), e3, mu_ne (by decide), e2, mu_ne (by decide), e1, ab_mud, if_pos ⟨rfl, rfl⟩]
      have r73 : ∀ j, μ6 73 j = ab_mu μ 73 n (μ (o + 2) i) 73 j := fun j => by rw [e6, mu_ne (by decide), e5, mu_ne (by decide), e4, mu_ne (by decide), e3, mu_ne (by decide), e2, ab_mud, ab_mud, e1, mu_ne (by decide)]
      have r74 : ∀ j, μ6 74 j = ab_mu μ 74 n (μ (o + 1) i) 74 j := fun j => by rw [e6, mu_ne (by decide), e5, mu_ne (by decide), e4, mu_ne (by decide), e3, ab_mud, ab_mud, e2, mu_ne (by decide), e1, mu_ne (by decide)]
      have r75 : ∀ j, μ6 75 j = ab_mu μ 75 n (μ (o + 3) i) 75 j := fun j => by rw [e6, mu_ne (by decide), e5, mu_ne (by decide), e4, ab_mud, ab_mud, e3, mu_ne (by decide), e2, mu_ne (by decide), e1, mu_ne (by decide)]
      have r72 : ∀ j, μ6 72 j = μ 72 j := fun j => by rw [e6, mu_ne (by decide), e5, mu_ne (by decide), e4, mu_ne (by decide), e3, mu_ne (by decide), e2, mu_ne (by decide), e1, mu_ne (by decide)]
      have facts : ∀ f, 0 ≤ f → f < n + 1 → (0 ≤ μ6 73 f ∧ μ6 73 f < 300) ∧ (μ6 74 f = 1 → 0 ≤ μ6 75 f ∧ μ6 75 f < 300) := fun f f0 f1 => by
        rw [r73, r74, r75, ab_mud, ab_mud, ab_mud]
        by_cases e : f = n
        · rw [if_pos ⟨rfl, e⟩, if_pos ⟨rfl, e⟩, if_pos ⟨rfl, e⟩]
          exact ⟨dd, fun y => hk.a ⟨Or.inl (by omega), hk.c y⟩⟩
        · rw [if_neg (fun q => e q.2), if_neg (fun q => e q.2), if_neg (fun q => e q.2)]
          exact hH.h f f0 (by omega)
      -- the end: nothing but 78 changes
      have fin : ∀ μ7, kG μ μ7 → (∀ c j, 71 ≤ c → c ≤ 75 → μ7 c j = μ6 c j) → P n μ7 := fun μ7 g7 f7 => by
        refine hP n μ7 g7 (fun j => by rw [f7 72 j (by decide) (by decide)]; exact r72 j) (by rw [f7 71 6 (by decide) (by decide), v6]; omega) (by rw [f7 71 6 (by decide) (by decide), v6]; omega) (fun f f0 f1 => ?_) (by omega) (by rw [f7 71 6 (by decide) (by decide), v6]; omega)
        rw [f7 71 6 (by decide) (by decide), v6] at f1
        rw [f7 73 f (by decide) (by decide), f7 74 f (by decide) (by decide), f7 75 f (by decide) (by decide)]
        exact facts f f0 f1
      have s191 : ∀ (l : ab_l) (μ7 : ab_m), l 0 = 71 → l 1 = o → l 2 = i → l 4 = n → kG μ μ7 → (∀ c j, 71 ≤ c → c ≤ 75 → μ7 c j = μ6 c j) → jj_mHo_factFor X (d + 1) 191 l [] μ7 P := by
        intro l μ7 l0 l1 l2 l4 g7 f7
        refine bk_mHo_factFor_191 l0 (by rw [l1]; exact ho) ?_
        rw [l1, l2, l4]
        exact c_mCo_usesB ho hi (fun y => ⟨fun y => absurd y (by decide), fun _ => ⟨hi, c_mHo_endBy ((g7.ki ho hk).b y) n4 fun μ8 f8 => fin μ8 (g7.trans fun c j y => f8 c j (by omega)) fun c j a b => by rw [f8 c j (by omega)]; exact f7 c j a b⟩⟩) fun _ => ⟨fun _ => fin μ7 g7 f7, fun y => absurd rfl y⟩
      refine c_mHo_endBy dd n4 fun μ7 f7 => ?_
      have g7 : kG μ μ7 := g6.trans fun c j y => f7 c j (by omega)
      have x7 : ∀ c j, 71 ≤ c → c ≤ 75 → μ7 c j = μ6 c j := fun c j a b => f7 c j (by omega)
      exact c_mCo_usesA ho hi (fun y => ⟨fun y => absurd y (by decide), fun _ => ⟨hi, c_mHo_endBy ((g7.ki ho hk).a y) n4 fun μ8 f8 => s191 _ μ8 l0 l1 l2 rfl (g7.trans fun c j y => f8 c j (by omega)) fun c j a b => by rw [f8 c j (by omega)]; exact x7 c j a b⟩⟩) fun _ => ⟨fun _ => s191 _ μ7 l0 l1 l2 rfl g7 x7, fun y => absurd rfl y⟩
  have s25 : ∀ (l : ab_l), l 0 = 71 → l 1 = o → l 2 = i → l 3 = μ (o + 2) i → jj_mHo_factFor X (d + 1) 25 l [] μ P := by
    intro l l0 l1 l2 l3
    refine bk_mHo_factFor_25 l0 (by rw [l1]; exact ho) ?_
    rw [l1, l2, l3]
    exact c_mCo_usesB ho hi (fun y => ⟨fun y => absurd y (by decide), fun _ => ⟨hi, fun _ => s48 _ _ 0 l0 l1 l2 l3 rfl (by omega) (by omega) rfl, fun _ => no⟩⟩) fun _ => ⟨fun _ => s48 _ _ 0 l0 l1 l2 l3 rfl (by omega) (by omega) rfl, fun y => absurd rfl y⟩
  refine bk_mHo_factFor_0 rfl ho ?_
  simp only [la1, la2]
  exact ⟨hi, c_mCo_usesA ho hi (fun y => ⟨fun y => absurd y (by decide), fun _ => ⟨hi, fun _ => no, fun _ => s25 _ rfl rfl rfl rfl⟩⟩) fun _ => ⟨fun _ => s25 _ rfl rfl rfl rfl, fun y => absurd rfl y⟩⟩
end K6

