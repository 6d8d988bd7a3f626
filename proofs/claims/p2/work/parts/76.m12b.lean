/-! THE REFERENCE, part 80: lowerValue -/
section M80
variable {X : jm_X} {d : Nat} {P : Int → ab_m → Prop} {μ0 μ μ' : ab_m} {O : List Int} {dp m : Int} {U : Int → Prop}
/-- what lower may write -/
def fLw (μ μ' : ab_m) : Prop := ∀ c j, ¬ (145 ≤ c ∧ c ≤ 160 ∧ c ≠ 159) → ¬ (c = 109 ∧ (j = 69 ∨ j = 71 ∨ j = 74 ∨ j = 78 ∨ j = 83)) → μ' c j = μ c j
end M80
def lB (μ0 μ : ab_m) : Prop := (fLw μ0 μ) ∧ (0 ≤ μ 109 69 ∧ μ 109 69 ≤ 400) ∧ (0 ≤ μ 109 71 ∧ μ 109 71 ≤ 300)
theorem lB.fr {μ0 μ : ab_m} (h'' : lB μ0 μ) : fLw μ0 μ := h''.1
theorem lB.n {μ0 μ : ab_m} (h'' : lB μ0 μ) : 0 ≤ μ 109 69 ∧ μ 109 69 ≤ 400 := h''.2.1
theorem lB.r {μ0 μ : ab_m} (h'' : lB μ0 μ) : 0 ≤ μ 109 71 ∧ μ 109 71 ≤ 300 := h''.2.2
section M80
variable {X : jm_X} {d : Nat} {P : Int → ab_m → Prop} {μ0 μ μ' : ab_m} {O : List Int} {dp m : Int} {U : Int → Prop}
theorem lB.self (h : lB μ0 μ) : lB μ μ := ⟨fun _ _ _ _ => rfl, h.n, h.r⟩
end M80
def lS (μ0 μ : ab_m) (O : List Int) (dp m : Int) (U : Int → Prop) : Prop := (lB μ0 μ) ∧ (μ 109 78 = m) ∧ (μ 109 83 = O.length) ∧ (μ 109 74 = 0 → ∃ w, lQ μ w O dp m (-1) U)
theorem lS.b {μ0 μ : ab_m} {O : List Int} {dp m : Int} {U : Int → Prop} (h'' : lS μ0 μ O dp m U) : lB μ0 μ := h''.1
theorem lS.n8 {μ0 μ : ab_m} {O : List Int} {dp m : Int} {U : Int → Prop} (h'' : lS μ0 μ O dp m U) : μ 109 78 = m := h''.2.1
theorem lS.k {μ0 μ : ab_m} {O : List Int} {dp m : Int} {U : Int → Prop} (h'' : lS μ0 μ O dp m U) : μ 109 83 = O.length := h''.2.2.1
theorem lS.q {μ0 μ : ab_m} {O : List Int} {dp m : Int} {U : Int → Prop} (h'' : lS μ0 μ O dp m U) : μ 109 74 = 0 → ∃ w, lQ μ w O dp m (-1) U := h''.2.2.2
section M80
variable {X : jm_X} {d : Nat} {P : Int → ab_m → Prop} {μ0 μ μ' : ab_m} {O : List Int} {dp m : Int} {U : Int → Prop}
theorem lS.self (h : lS μ0 μ O dp m U) : lS μ μ O dp m U := ⟨h.b.self, h.n8, h.k, h.q⟩
/-- what lower may write, the frames' own row too -/
def fLm (μ μ' : ab_m) : Prop := ∀ c j, ¬ (145 ≤ c ∧ c ≤ 160) → ¬ (c = 109 ∧ (j = 69 ∨ j = 71 ∨ j = 74 ∨ j = 78 ∨ j = 83)) → μ' c j = μ c j
theorem fLm.tr {μ1 μ2 : ab_m} (h : fLm μ μ1) (h2 : fLw μ1 μ2) : fLm μ μ2 := fun c j a b => by rw [h2 c j (by omega) b]; exact h c j a b
theorem lB.mu {c j v : Int} (h : lB μ0 μ) (e : μ' = ab_mu μ c j v) (hc : (145 ≤ c ∧ c ≤ 160 ∧ c ≠ 159) ∨ (c = 109 ∧ (j = 74 ∨ j = 78 ∨ j = 83))) : lB μ0 μ' := by
  have f : ∀ b i, ¬ (b = c ∧ i = j) → μ' b i = μ b i := fun b i z => by rw [e, ab_mud, if_neg z]
  refine ⟨fun b i z1 z2 => by rw [f b i (by omega)]; exact h.fr b i z1 z2, by rw [f 109 69 (by omega)]; exact h.n, by rw [f 109 71 (by omega)]; exact h.r⟩
theorem lB.op {v c : Int} (h : lB μ0 μ) (p : mOp μ μ' v c) : lB μ0 μ' := ⟨fun b i z1 z2 => by rw [p.1 b i (by omega) (by omega)]; exact h.fr b i z1 z2, by rw [p.1 109 69 (by omega) (by omega)]; exact h.n, by rw [p.1 109 71 (by omega) (by omega)]; exact h.r⟩
theorem lB.ou {k x y : Int} (h : lB μ0 μ) (p : mOu μ μ' k x y) : lB μ0 μ' := ⟨fun b i z1 z2 => by rw [p.1 b i (by omega) (by omega)]; exact h.fr b i z1 z2, by rw [p.1 109 69 (by omega) (by omega)]; exact h.n, by rw [p.1 109 71 (by omega) (by omega)]; exact h.r⟩
theorem c_lw_reg (hb : lB μ0 μ) (hP : ∀ r μ', lB μ0 μ' → (∀ c j, ¬ (c = 109 ∧ (j = 71 ∨ j = 74)) → μ' c j = μ c j) → μ 109 71 ≤ μ' 109 71 → (μ' 109 74 = 0 → μ 109 74 = 0 ∧ lR μ' r) → P r μ') : jj_mM_newRegister X d 0 (ab_la [109]) [] μ P := by
  have n := hb.n
  have r := hb.r
  refine c_mM_newRegister r (fun lt μ1 f e => ?_) fun μ1 e => ?_
  · refine hP _ μ1 ⟨fun b i z1 z2 => by rw [f b i (by omega)]; exact hb.fr b i z1 z2, by rw [f 109 69 (by omega)]; exact n, by omega⟩ (fun c j z => f c j (by omega)) (by omega) fun z => ⟨by rw [← f 109 74 (by omega)]; exact z, by omega, by omega⟩
  · obtain ⟨f, e⟩ := e
    exact hP _ μ1 ⟨fun b i z1 z2 => by rw [f b i (by omega)]; exact hb.fr b i z1 z2, by rw [f 109 69 (by omega)]; exact n, by rw [f 109 71 (by omega)]; exact r⟩ (fun c j z => f c j (by omega)) (by rw [f 109 71 (by omega)]; exact Int.le_refl _) fun z => by omega
theorem c_lw_emit {k t x ix y iy : Int} (hb : lB μ0 μ) (hP : ∀ r μ', lB μ0 μ' → (∀ c j, ¬ (145 ≤ c ∧ c ≤ 150) → ¬ (c = 109 ∧ (j = 69 ∨ j = 74)) → μ' c j = μ c j) → (0 ≤ r ∧ r < 400) → (μ' 109 74 = 0 → μ 109 74 = 0 ∧ r = μ 109 69 ∧ mEm μ μ' k t x ix y iy) → P r μ') : jj_mM_emit X d 0 (ab_la [109, k, t, x, ix, y, iy]) [] μ P := by
  have n := hb.n
  have r := hb.r
  refine c_mM_emit n (fun lt μ1 e => ?_) fun μ1 e => ?_
  · have f := e.1
    refine hP _ μ1 ⟨fun b i z1 z2 => by rw [f b i (by omega) (by omega)]; exact hb.fr b i z1 z2, by rw [e.2.1]; omega, by rw [f 109 71 (by omega) (by omega)]; exact r⟩ (fun c j z1 z2 => f c j (by omega) (by omega)) (by omega) fun z => ⟨by rw [← f 109 74 (by omega) (by omega)]; exact z, rfl, e⟩
  · obtain ⟨f, e⟩ := e
    exact hP _ μ1 ⟨fun b i z1 z2 => by rw [f b i (by omega)]; exact hb.fr b i z1 z2, by rw [f 109 69 (by omega)]; exact n, by rw [f 109 71 (by omega)]; exact r⟩ (fun c j z1 z2 => f c j (by omega)) (by omega) fun z => by omega
theorem c_lw_lay {r k : Int} (hb : lB μ0 μ) (hk : 0 ≤ k ∧ k < 9000) (hP : ∀ μ', lB μ0 μ' → (∀ c j, ¬ (145 ≤ c ∧ c ≤ 150) → ¬ (c = 109 ∧ (j = 69 ∨ j = 74)) → μ' c j = μ c j) → (μ' 109 74 = 0 → μ 109 74 = 0 ∧ mEm μ μ' (if μ 152 k = 0 then 1 else 0) r (μ 153 k) (μ 152 k) 0 0) → P 0 μ') : jj_mM_lay X (d + 1) 0 (ab_la [109, r, k]) [] μ P := by
  have n := hb.n
  have r := hb.r
  refine c_mM_lay hk n (fun lt μ1 e => ?_) fun μ1 e => ?_
  · have f := e.1
    refine hP μ1 ⟨fun b i z1 z2 => by rw [f b i (by omega) (by omega)]; exact hb.fr b i z1 z2, by rw [e.2.1]; omega, by rw [f 109 71 (by omega) (by omega)]; exact r⟩ (fun c j z1 z2 => f c j (by omega) (by omega)) fun z => ⟨by rw [← f 109 74 (by omega) (by omega)]; exact z, e⟩
  · obtain ⟨f, e⟩ := e
    exact hP μ1 ⟨fun b i z1 z2 => by rw [f b i (by omega)]; exact hb.fr b i z1 z2, by rw [f 109 69 (by omega)]; exact n, by rw [f 109 71 (by omega)]; exact r⟩ (fun c j z1 z2 => f c j (by omega)) fun z => by omega
theorem lI.of {o k t x ix y iy : Int} (e : mEm μ μ' k t x ix y iy) (hk : 0 ≤ k ∧ k ≤ 28) (ha : ix % 2 = 0 → (1 ≤ k ∧ k ≤ 22) ∨ k = 24 ∨ k = 26 ∨ k = 27 → lR μ x) (hb : iy % 2 = 0 → (2 ≤ k ∧ k ≤ 17) ∨ k = 22 → lR μ y) (hd : k ≤ 21 ∨ k = 23 → lR μ t) (hl : k = 25 ∨ k = 26 ∨ k = 27 → o ≠ 0 ∨ (0 ≤ t ∧ t ≤ μ 109 69)) (h1 : k = 21 → 0 ≤ y ∧ y < 8) (h2 : k = 22 → 0 ≤ t ∧ t < 8) (hc : (k = 1 → ix % 2 = 0) ∧ (k = 0 → ix % 2 ≠ 0)) : lI μ' o (μ 109 69) := by
  obtain ⟨f, e1, e2, e3, e4, e5, e6, e7⟩ := e
  have r : μ 109 71 ≤ μ' 109 71 := by rw [f 109 71 (by omega) (by omega)]; exact Int.le_refl _
  refine ⟨by rw [e2]; exact hk, fun q => ?_, fun q => ?_, fun q => ?_, fun q => ?_, fun q => ?_, fun q => ?_, ?_⟩
  · unfold mUA at q; rw [e2, e6] at q; rw [e4]; exact (ha q.1 q.2).le r
  · unfold mUB at q; rw [e2, e7] at q; rw [e5]; exact (hb q.1 q.2).le r
  · rw [e2] at q; rw [e3]; exact (hd q).le r
  · rw [e2] at q; rw [e3, e1]
    rcases hl q with z | z
    · exact Or.inl z
    · exact Or.inr ⟨z.1, Int.le_trans z.2 (by omega)⟩
  · rw [e2] at q; rw [e5]; exact h1 q
  · rw [e2] at q; rw [e3]; exact h2 q
  · rw [e2, e6]; exact hc
theorem tMv_v {k m h h' : Int} {s s' : List Int} (e : tMv k m h s = some (h', s')) : tHu k m h h' := tMv_u _ e
theorem hd_of {a : Int} {s : List Int} (h : s.head? = some a) : s = a :: s.tail := by
  cases s with
  | nil => cases h
  | cons x r => injection h with h; rw [h]; rfl
/-- what a step makes of what is open -/
theorem tMv_s {k m h h' : Int} {s s' : List Int} (e : tMv k m h s = some (h', s')) : (k = 6 → s' = 1 :: s) ∧ (k = 7 → ∃ r, s = 1 :: r ∧ s' = 2 :: r) ∧ (k = 8 → ∃ r, s = 2 :: r ∧ s' = r) ∧ (k = 15 → s' = 7 :: s) ∧ (k = 16 → ∃ r, s = 7 :: r ∧ s' = s) ∧ (k = 17 → ∃ r, s = 7 :: r ∧ s' = r) ∧ (k = 18 → s' = 3 :: s) ∧ (k = 19 → ∃ r, s = 3 :: r ∧ s' = 4 :: r) ∧ (k = 20 → ∃ r, s = 4 :: r ∧ s' = r) ∧ (k = 21 → s' = 5 :: s) ∧ (k = 22 → ∃ r, s = 5 :: r ∧ s' = 6 :: r) ∧ (k = 23 → ∃ r, s = 6 :: r ∧ s' = r) ∧ (k = 24 ∨ k = 25 → (4 ∈ s ∨ 5 ∈ s) ∧ ¬ 6 ∈ s ∧ s' = s) ∧ (k ≤ 5 ∨ (9 ≤ k ∧ k ≤ 14) ∨ 26 ≤ k → s' = s) := by
  have O1 : ∀ {a : Int} {l : List Int}, some (a, l) = some (h', s') → s' = l := fun z => by injection z with z; injection z with z1 z2; exact z2.symm
  have O2 : ∀ {C : Prop} [Decidable C] {a : Int} {l : List Int}, (if C then some (a, l) else none) = some (h', s') → C ∧ s' = l := fun {C} _ {a} {l} z => by
    by_cases q : C
    · rw [if_pos q] at z; exact ⟨q, O1 z⟩
    · rw [if_neg q] at z; cases z
  refine ⟨fun q => ?_, fun q => ?_, fun q => ?_, fun q => ?_, fun q => ?_, fun q => ?_, fun q => ?_, fun q => ?_, fun q => ?_, fun q => ?_, fun q => ?_, fun q => ?_, fun q => ?_, fun q => ?_⟩
  · subst q; exact O1 (show some (h, 1 :: s) = _ from e)
  · subst q
    obtain ⟨⟨-, q1⟩, q2⟩ := O2 (show (if 1 ≤ h ∧ s.head? = some 1 then some (h - 1, 2 :: s.tail) else none) = _ from e)
    exact ⟨_, hd_of q1, q2⟩
  · subst q
    obtain ⟨⟨-, q1⟩, q2⟩ := O2 (show (if 1 ≤ h ∧ s.head? = some 2 then some (h, s.tail) else none) = _ from e)
    exact ⟨_, hd_of q1, q2⟩
  · subst q; exact (O2 (show (if 1 ≤ h then some (h - 1, 7 :: s) else none) = _ from e)).2
  · subst q
    obtain ⟨q1, q2⟩ := O2 (show (if s.head? = some 7 then some (h, s) else none) = _ from e)
    exact ⟨_, hd_of q1, q2⟩
  · subst q
    obtain ⟨q1, q2⟩ := O2 (show (if s.head? = some 7 then some (h, s.tail) else none) = _ from e)
    exact ⟨_, hd_of q1, q2⟩
  · subst q; exact O1 (show some (h, 3 :: s) = _ from e)
  · subst q
    obtain ⟨⟨-, q1⟩, q2⟩ := O2 (show (if 1 ≤ h ∧ s.head? = some 3 then some (h - 1, 4 :: s.tail) else none) = _ from e)
    exact ⟨_, hd_of q1, q2⟩
  · subst q
    obtain ⟨q1, q2⟩ := O2 (show (if s.head? = some 4 then some (h, s.tail) else none) = _ from e)
    exact ⟨_, hd_of q1, q2⟩
  · subst q; exact O1 (show some (h, 5 :: s) = _ from e)
  · subst q
    obtain ⟨q1, q2⟩ := O2 (show (if s.head? = some 5 then some (h, 6 :: s.tail) else none) = _ from e)
    exact ⟨_, hd_of q1, q2⟩
  · subst q
    obtain ⟨⟨-, q1⟩, q2⟩ := O2 (show (if 1 ≤ h ∧ s.head? = some 6 then some (h - 1, s.tail) else none) = _ from e)
    exact ⟨_, hd_of q1, q2⟩
  · have : (if (4 ∈ s ∨ 5 ∈ s) ∧ ¬ 6 ∈ s then some (h, s) else none) = some (h', s') := by
      rcases q with q | q <;> subst q <;> exact e
    obtain ⟨⟨q1, q2⟩, q3⟩ := O2 this
    exact ⟨q1, q2, q3⟩
  · have u := (tMv_u _ e).1
    have c : k = 1 ∨ k = 2 ∨ k = 3 ∨ k = 4 ∨ k = 5 ∨ k = 9 ∨ k = 10 ∨ k = 11 ∨ k = 12 ∨ k = 13 ∨ k = 14 ∨ k = 26 ∨ k = 27 ∨ k = 28 := by omega
    rcases c with c | c | c | c | c | c | c | c | c | c | c | c | c | c <;> subst c
    · exact O1 (show some (h + 1, s) = _ from e)
    · exact O1 (show some (h + 1, s) = _ from e)
    · exact (O2 (show (if 1 ≤ h then some (h, s) else none) = _ from e)).2
    · exact (O2 (show (if 1 ≤ h then some (h, s) else none) = _ from e)).2
    · exact (O2 (show (if 2 ≤ h then some (h - 1, s) else none) = _ from e)).2
    · exact (O2 (show (if 0 ≤ m ∧ m ≤ h then some (h - m + 1, s) else none) = _ from e)).2
    · exact (O2 (show (if 1 ≤ h then some (h - 1, s) else none) = _ from e)).2
    · exact O1 (show some (h, s) = _ from e)
    · exact (O2 (show (if 1 ≤ h then some (h - 1, s) else none) = _ from e)).2
    · exact (O2 (show (if 2 ≤ h then some (h - 2, s) else none) = _ from e)).2
    · exact O1 (show some (h, s) = _ from e)
    · exact (O2 (show (if 1 ≤ h then some (h - 1, s) else none) = _ from e)).2
    · exact (O2 (show (if 1 ≤ h then some (h - 1, s) else none) = _ from e)).2
    · exact O1 (show some (h, s) = _ from e)
end M80

