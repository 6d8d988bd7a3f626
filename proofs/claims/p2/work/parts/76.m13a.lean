/-! THE REFERENCE, part 85: lower whole; what all its methods keep -/
section M85
variable {X : jm_X} {d : Nat} {P : Int → ab_m → Prop} {μ μ' : ab_m} {g N dn : Int} {Γ : tQ}
theorem lJ.zero (h : μ 109 69 = 0) : lJ μ (fun _ => 0) 0 0 (-1) := ⟨fun i a b => by omega, fun i z => absurd rfl z, fun i z => absurd z (show ¬ (0 : Int) = 100000 by decide), fun z => by omega⟩
set_option maxHeartbeats 1000000 in
theorem c_mM_lower (n01 : μ 109 18 = 0 ∨ μ 109 18 = 1) (txt : μ 109 19 ≠ 0 → ∃ Γ N dn, tW μ (μ 109 18) Γ N dn) (hE : μ 109 19 = 0 → ∀ μ', μ' = ab_mu μ 109 0 1 → P 0 μ') (hP : μ 109 19 ≠ 0 → ∀ r μ', (∀ c j, ¬ (145 ≤ c ∧ c ≤ 160) → ¬ (c = 109 ∧ (j = 0 ∨ j = 69 ∨ (71 ≤ j ∧ j ≤ 74) ∨ j = 78 ∨ j = 83)) → μ' c j = μ c j) → μ' 109 73 = 0 → (μ' 109 72 ≠ 0 → mWF μ' 0 (μ' 109 69) (μ' 109 71)) → P r μ') : jj_mM_lower X (d + 3) 0 (ab_la [109]) [] μ P := by
  refine bk_mM_lower_0 rfl ⟨fun z => bk_mM_lower_13 rfl fun μ1 e1 => ⟨fun y => ?_, fun _ => hE z μ1 e1⟩, fun z => bk_mM_lower_13 rfl fun μ1 e1 => ⟨fun _ μ2 e2 μ3 e3 μ4 e4 μ5 e5 μ6 e6 μ7 e7 μ8 e8 => ?_, fun y => ?_⟩⟩
  · rw [e1, ab_mud, if_pos ⟨rfl, rfl⟩] at y; exact absurd y (by decide)
  · obtain ⟨Γ, N, dn, t⟩ := txt z
    have g8 : ∀ c j, ¬ (c = 109 ∧ (j = 0 ∨ j = 69 ∨ (71 ≤ j ∧ j ≤ 74) ∨ j = 78 ∨ j = 83)) → μ8 c j = μ c j := fun c j y => by
      rw [e8, ab_mud, if_neg (by omega), e7, ab_mud, if_neg (by omega), e6, ab_mud, if_neg (by omega), e5, ab_mud, if_neg (by omega), e4, ab_mud, if_neg (by omega), e3, ab_mud, if_neg (by omega), e2, ab_mud, if_neg (by omega), e1, ab_mud, if_neg (by omega)]
    have v83 : μ8 109 83 = 0 := by rw [e8, ab_mud, if_pos ⟨rfl, rfl⟩]
    have v78 : μ8 109 78 = 0 := by rw [e8, ab_mud, if_neg (by omega), e7, ab_mud, if_pos ⟨rfl, rfl⟩]
    have v71 : μ8 109 71 = 0 := by rw [e8, ab_mud, if_neg (by omega), e7, ab_mud, if_neg (by omega), e6, ab_mud, if_pos ⟨rfl, rfl⟩]
    have v69 : μ8 109 69 = 0 := by rw [e8, ab_mud, if_neg (by omega), e7, ab_mud, if_neg (by omega), e6, ab_mud, if_neg (by omega), e5, ab_mud, if_pos ⟨rfl, rfl⟩]
    have v74 : μ8 109 74 = 0 := by rw [e8, ab_mud, if_neg (by omega), e7, ab_mud, if_neg (by omega), e6, ab_mud, if_neg (by omega), e5, ab_mud, if_neg (by omega), e4, ab_mud, if_pos ⟨rfl, rfl⟩]
    have v73 : μ8 109 73 = 0 := by rw [e8, ab_mud, if_neg (by omega), e7, ab_mud, if_neg (by omega), e6, ab_mud, if_neg (by omega), e5, ab_mud, if_neg (by omega), e4, ab_mud, if_neg (by omega), e3, ab_mud, if_pos ⟨rfl, rfl⟩]
    have v72 : μ8 109 72 = 0 := by rw [e8, ab_mud, if_neg (by omega), e7, ab_mud, if_neg (by omega), e6, ab_mud, if_neg (by omega), e5, ab_mud, if_neg (by omega), e4, ab_mud, if_neg (by omega), e3, ab_mud, if_neg (by omega), e2, ab_mud, if_pos ⟨rfl, rfl⟩]
    clear e1 e2 e3 e4 e5 e6 e7 e8
    generalize hg : μ 109 18 = g at *
    have g18 : μ8 109 18 = g := by rw [g8 109 18 (by omega)]; exact hg
    have t8 : tW μ8 g Γ N dn := t.same (g := 1 - g) (fun c j z _ => g8 c j (by omega)) ⟨by omega, n01, by omega⟩
    have s414 : ∀ (l : ab_l) (μ' : ab_m), l 0 = 109 → fLm μ8 μ' → (μ' 109 74 = 0 → mWF μ' 0 (μ' 109 69) (μ' 109 71)) → jj_mM_lower X (d + 3) 414 l [] μ' P := by
      intro l μ' l0 fr hw
      have fm : ∀ c j, ¬ (145 ≤ c ∧ c ≤ 160) → ¬ (c = 109 ∧ (j = 0 ∨ j = 69 ∨ (71 ≤ j ∧ j ≤ 74) ∨ j = 78 ∨ j = 83)) → μ' c j = μ c j := fun c j y1 y2 => by rw [fr c j y1 (by omega)]; exact g8 c j y2
      refine bk_mM_lower_414 l0 ⟨fun y μ1 e1 => ?_, fun y μ3 e3 μ4 e4 => ?_⟩
      · have f1 : ∀ c j, ¬ (c = 109 ∧ j = 72) → μ1 c j = μ' c j := fun c j y => by rw [e1, ab_mud, if_neg y]
        refine hP z _ μ1 (fun c j y1 y2 => by rw [f1 c j (by omega)]; exact fm c j y1 y2) (by rw [f1 109 73 (by omega), fr 109 73 (by omega) (by omega)]; exact v73) fun _ => ?_
        rw [f1 109 69 (by omega), f1 109 71 (by omega)]
        exact (hw y).same fun c i a b => f1 c i (by omega)
      · have f4 : ∀ c j, ¬ (c = 109 ∧ (j = 69 ∨ j = 71)) → μ4 c j = μ' c j := fun c j y => by rw [e4, ab_mud, if_neg (by omega), e3, ab_mud, if_neg (by omega)]
        refine hP z _ μ4 (fun c j y1 y2 => by rw [f4 c j (by omega)]; exact fm c j y1 y2) (by rw [f4 109 73 (by omega), fr 109 73 (by omega) (by omega)]; exact v73) fun q => ?_
        rw [f4 109 72 (by omega), fr 109 72 (by omega) (by omega), v72] at q
        exact absurd rfl q
    have dm := t8.dm
    obtain ⟨b1, b2, b3, b4, b5, b6⟩ := t8.b
    -- the program begins
    have beg : ∀ (l : ab_l) (μ1 : ab_m), l 0 = 109 → fLw μ8 μ1 → lB μ1 μ1 → μ1 109 78 = 0 → μ1 109 83 = 0 → (μ1 109 74 = 0 → ∃ w, lQ μ1 w [] 0 0 (-1) (fun y => (tEv μ8 g dn).2.2.2.2.1 y)) → jj_mM_lower X (d + 3) 126 (ab_up (ab_up (ab_up l 1 (μ8 124 g)) 2 0) 3 1) [] μ1 P := by
      intro l μ1 l0 fr bb m1 k1 q1
      refine c_mM_lower126 t8 g18 n01 s414 _ _ μ1 [] 0 (μ8 124 g) [] l0 rfl rfl (show (1 : Int) ≠ 0 by decide) b1 b2 ⟨b3, rfl, rfl⟩ trivial (fun c j y1 y2 => fr c j (by omega) y2) ⟨bb, by rw [b4]; exact m1, by rw [b5]; exact k1, fun y => ?_⟩ rfl
      obtain ⟨w, Q⟩ := q1 y
      rw [b5, b4]
      refine ⟨w, Q.sub fun y hy => ?_⟩
      rcases hy with hy | ⟨b, hb, -⟩
      · rcases hy with hy | hy | ⟨j, j0, j1, j2, j3, j4⟩
        · exact hy
        · have : Γ.2.2.2.1 (μ8 124 g) < dn := hy.1
          omega
        · exact (t8.first j0 j1 b2 j3 b6).elim
      · exact absurd hb List.not_mem_nil
    have s62 : ∀ (n : Nat) (l : ab_l) (μ1 : ab_m) (k : Int), l 0 = 109 → l 1 = k → 0 ≤ k → k ≤ μ8 123 g → (μ8 123 g - k).toNat = n → lS μ8 μ1 [] 0 0 (fun y => ∃ i, 0 ≤ i ∧ i < k ∧ μ8 122 (3000 * g + i) = y) → jj_mM_lower X (d + 3) 62 l [] μ1 P := by
      intro n
      induction n with
      | zero =>
        intro l μ1 k l0 l1 k0 k1 en hS
        have fr := hS.b.fr
        have ek : k = μ8 123 g := by omega
        refine bk_mM_lower_62 l0 ?_
        rw [fr 109 18 (by omega) (by omega), g18, fr 123 _ (by omega) (by omega), fr 124 _ (by omega) (by omega), l1]
        refine ⟨by omega, fun _ => ⟨by omega, beg l μ1 l0 fr hS.b.self hS.n8 hS.k fun y => ?_⟩, fun y => by omega⟩
        obtain ⟨w, Q⟩ := hS.q y
        exact ⟨w, Q.sub fun y hy => by rw [ek]; exact hy⟩
      | succ n ih =>
        intro l μ1 k l0 l1 k0 k1 en hS
        have fr := hS.b.fr
        refine bk_mM_lower_62 l0 ?_
        rw [fr 109 18 (by omega) (by omega), g18, fr 123 _ (by omega) (by omega), fr 124 _ (by omega) (by omega), l1]
        refine ⟨by omega, fun y => by omega, fun _ => ⟨fun y => ⟨by omega, beg l μ1 l0 fr hS.b.self hS.n8 hS.k fun q => absurd q y⟩, fun y => ?_⟩⟩
        rw [show ab_w (3000 * g) = 3000 * g from ab_wi (by omega) (by omega), show ab_w (3000 * g + k) = 3000 * g + k from ab_wi (by omega) (by omega), fr 122 _ (by omega) (by omega), show ab_w (k + 1) = k + 1 from ab_wi (by omega) (by omega)]
        have Dk := t8.D (μ8 122 (3000 * g + k)) ⟨k, k0, by omega, rfl⟩
        refine ⟨by omega, c_lw_reg hS.b fun r μ2 b2 f2 r2 g2 => ⟨Dk, fun μ3 e3 => ?_⟩⟩
        have f3 : ∀ c j, c ≠ 151 → μ3 c j = μ2 c j := fun c j y => by rw [e3, mu_ne y]
        refine ih _ μ3 (k + 1) l0 rfl (by omega) (by omega) (by omega) ⟨b2.mu e3 (by omega), by rw [f3 109 78 (by decide), f2 109 78 (by omega)]; exact hS.n8, by rw [f3 109 83 (by decide), f2 109 83 (by omega)]; exact hS.k, fun z3 => ?_⟩
        rw [f3 109 74 (by decide)] at z3
        obtain ⟨z1, lr⟩ := g2 z3
        obtain ⟨w, Q⟩ := hS.q z1
        have Q2 : lQ μ2 w [] 0 0 (-1) (fun y => ∃ i, 0 ≤ i ∧ i < k ∧ μ8 122 (3000 * g + i) = y) := Q.fr (fun c i y1 y2 y3 => f2 c i (by omega)) (f2 109 69 (by omega)) r2 (Int.le_refl _)
        refine ⟨w, Q2.reg e3 lr fun y hy => ?_⟩
        obtain ⟨i, i0, i1, i2⟩ := hy
        by_cases e : i = k
        · subst e; exact Or.inl i2.symm
        · exact Or.inr ⟨i, i0, by omega, i2⟩
    refine s62 _ _ μ8 0 rfl rfl (by omega) dm.1 rfl ⟨⟨fun _ _ _ _ => rfl, by omega, by omega⟩, v78, v83, fun _ => ⟨fun _ => 0, lJ.zero v69, ⟨by simp, by omega⟩, fun j a b => by omega, fun j a h => h.elim, fun i a b => by omega, fun y ⟨i, i0, i1, _⟩ => by omega⟩⟩
  · rw [e1, ab_mud, if_pos ⟨rfl, rfl⟩] at y; exact absurd y (by decide)
end M85
/-- the text, the code, the code that is improved -/
def gC (μ : ab_m) : Prop := (μ 109 18 = 0 ∨ μ 109 18 = 1) ∧ (∀ j, 0 ≤ j → j < 16 → 0 ≤ μ 121 j ∧ μ 121 j ≤ 100) ∧ (μ 109 19 ≠ 0 → ∃ Γ N dn, tW μ (μ 109 18) Γ N dn) ∧ (μ 109 72 ≠ 0 → mWF μ 0 (μ 109 69) (μ 109 71)) ∧ (μ 109 73 ≠ 0 → mWF μ 500 (μ 109 70) (μ 109 71) ∧ ∀ i, 0 ≤ i → i < μ 109 70 → mRs μ (500 + i) fun r => 0 ≤ μ 175 r ∧ μ 175 r < 300)
theorem gC.now {μ : ab_m} (h'' : gC μ) : μ 109 18 = 0 ∨ μ 109 18 = 1 := h''.1
theorem gC.rs {μ : ab_m} (h'' : gC μ) : ∀ j, 0 ≤ j → j < 16 → 0 ≤ μ 121 j ∧ μ 121 j ≤ 100 := h''.2.1
theorem gC.txt {μ : ab_m} (h'' : gC μ) : μ 109 19 ≠ 0 → ∃ Γ N dn, tW μ (μ 109 18) Γ N dn := h''.2.2.1
theorem gC.low {μ : ab_m} (h'' : gC μ) : μ 109 72 ≠ 0 → mWF μ 0 (μ 109 69) (μ 109 71) := h''.2.2.2.1
theorem gC.imp {μ : ab_m} (h'' : gC μ) : μ 109 73 ≠ 0 → mWF μ 500 (μ 109 70) (μ 109 71) ∧ ∀ i, 0 ≤ i → i < μ 109 70 → mRs μ (500 + i) fun r => 0 ≤ μ 175 r ∧ μ 175 r < 300 := h''.2.2.2.2
section M85
variable {X : jm_X} {d : Nat} {P : Int → ab_m → Prop} {μ μ' : ab_m} {g N dn : Int} {Γ : tQ}
theorem tW.keep (t : tW μ g Γ N dn) (g01 : g = 0 ∨ g = 1) (f : ∀ c j, 115 ≤ c ∧ c ≤ 124 → μ' c j = μ c j) : tW μ' g Γ N dn := t.same (g := 1 - g) (fun c j z _ => f c j z) ⟨by omega, g01, by omega⟩
theorem gC.impK {n : Int} (f : ∀ c j, 145 ≤ c → c ≤ 150 → 500 ≤ j → μ' c j = μ c j) (u : ∀ j, μ' 175 j = μ 175 j) (h : ∀ i, 0 ≤ i → i < n → mRs μ (500 + i) fun r => 0 ≤ μ 175 r ∧ μ 175 r < 300) : ∀ i, 0 ≤ i → i < n → mRs μ' (500 + i) fun r => 0 ≤ μ' 175 r ∧ μ' 175 r < 300 := fun i a b => by
  have := h i a b
  unfold mRs mUA mUB mDf at this ⊢
  simp only [f 145 (500 + i) (by decide) (by decide) (by omega), f 146 (500 + i) (by decide) (by decide) (by omega), f 147 (500 + i) (by decide) (by decide) (by omega), f 148 (500 + i) (by decide) (by decide) (by omega), f 149 (500 + i) (by decide) (by decide) (by omega), f 150 (500 + i) (by decide) (by decide) (by omega), u]
  exact this
theorem gC.same (h : gC μ) (f9 : ∀ j, j = 18 ∨ j = 19 ∨ (69 ≤ j ∧ j ≤ 73) → μ' 109 j = μ 109 j) (f : ∀ c j, (115 ≤ c ∧ c ≤ 124) ∨ (145 ≤ c ∧ c ≤ 150) ∨ c = 175 → μ' c j = μ c j) : gC μ' := by
  have sm : ∀ c i, 145 ≤ c → c ≤ 150 → μ' c i = μ c i := fun c i a b => f c i (by omega)
  refine ⟨by rw [f9 18 (by omega)]; exact h.now, fun j a b => by rw [f 121 j (by omega)]; exact h.rs j a b, fun q => ?_, fun q => ?_, fun q => ?_⟩
  · rw [f9 19 (by omega)] at q
    obtain ⟨Γ, N, dn, t⟩ := h.txt q
    rw [f9 18 (by omega)]
    exact ⟨Γ, N, dn, t.keep h.now fun c j z => f c j (by omega)⟩
  · rw [f9 72 (by omega)] at q
    rw [f9 69 (by omega), f9 71 (by omega)]
    exact (h.low q).same sm
  · rw [f9 73 (by omega)] at q
    rw [f9 70 (by omega), f9 71 (by omega)]
    exact ⟨(h.imp q).1.same sm, gC.impK (fun c j a b _ => sm c j a b) (fun j => f 175 j (by omega)) (h.imp q).2⟩
end M85
/-- what stands between two calls -/
def gR (μ : ab_m) : Prop := (gC μ) ∧ (0 ≤ μ 109 2 ∧ μ 109 2 ≤ 3000) ∧ (0 ≤ μ 109 53 ∧ μ 109 53 ≤ 200) ∧ (0 ≤ μ 109 56 ∧ μ 109 56 ≤ 300)
theorem gR.c {μ : ab_m} (h'' : gR μ) : gC μ := h''.1
theorem gR.tp {μ : ab_m} (h'' : gR μ) : 0 ≤ μ 109 2 ∧ μ 109 2 ≤ 3000 := h''.2.1
theorem gR.inp {μ : ab_m} (h'' : gR μ) : 0 ≤ μ 109 53 ∧ μ 109 53 ≤ 200 := h''.2.2.1
theorem gR.pr {μ : ab_m} (h'' : gR μ) : 0 ≤ μ 109 56 ∧ μ 109 56 ≤ 300 := h''.2.2.2
section M85
variable {X : jm_X} {d : Nat} {P : Int → ab_m → Prop} {μ μ' : ab_m} {g N dn : Int} {Γ : tQ}
theorem gR.rn (h : gR μ) : rnI μ := ⟨h.c.now, h.c.rs, h.inp, h.c.txt, h.c.low, h.c.imp⟩
theorem gR.f0 (h : gR μ) (f : ∀ c j, ¬ (c = 109 ∧ (j = 0 ∨ j = 91 ∨ j = 92)) → ¬ (161 ≤ c ∧ c ≤ 164) → c ≠ 174 → μ' c j = μ c j) : gR μ' :=
  ⟨h.c.same (fun j z => f 109 j (by omega) (by omega) (by omega)) (fun c j z => f c j (by omega) (by omega) (by omega)), by rw [f 109 2 (by omega) (by omega) (by omega)]; exact h.tp, by rw [f 109 53 (by omega) (by omega) (by omega)]; exact h.inp, by rw [f 109 56 (by omega) (by omega) (by omega)]; exact h.pr⟩
end M85

