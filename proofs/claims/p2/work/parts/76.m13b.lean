/-! THE REFERENCE, part m86: what stands between two calls is kept -/
section M86
variable {X : jm_X} {d : Nat} {P : Int → ab_m → Prop} {μ μ' : ab_m}
/-- the class and the law's own row are as they were -/
def gOf (μ μ' : ab_m) : Prop := ∀ c j, c < 109 ∨ c = 179 → μ' c j = μ c j
end M86
/-- kept, and neither fed nor given input -/
def gKp (μ μ' : ab_m) : Prop := (gR μ') ∧ (gOf μ μ') ∧ (μ' 109 53 = μ 109 53) ∧ (μ' 109 2 = μ 109 2)
theorem gKp.r {μ μ' : ab_m} (h'' : gKp μ μ') : gR μ' := h''.1
theorem gKp.o {μ μ' : ab_m} (h'' : gKp μ μ') : gOf μ μ' := h''.2.1
theorem gKp.i {μ μ' : ab_m} (h'' : gKp μ μ') : μ' 109 53 = μ 109 53 := h''.2.2.1
theorem gKp.t {μ μ' : ab_m} (h'' : gKp μ μ') : μ' 109 2 = μ 109 2 := h''.2.2.2
section M86
variable {X : jm_X} {d : Nat} {P : Int → ab_m → Prop} {μ μ' : ab_m}
theorem gR.k0 (h : gR μ) (f : ∀ c j, ¬ (c = 109 ∧ (j = 0 ∨ j = 91 ∨ j = 92)) → ¬ (161 ≤ c ∧ c ≤ 164) → c ≠ 174 → μ' c j = μ c j) : gKp μ μ' := ⟨h.f0 f, fun c j q => f c j (by omega) (by omega) (by omega), f 109 53 (by omega) (by omega) (by omega), f 109 2 (by omega) (by omega) (by omega)⟩
theorem gR_f1 (h : gR μ) (f : f0 μ μ') : gKp μ μ' := h.k0 fun c j a _ _ => f c j (by omega)
theorem mWF.low0 {n R : Int} (h : mWF μ 0 n R) (hs : ∀ c i, 145 ≤ c → c ≤ 150 → i < 500 → μ' c i = μ c i) : mWF μ' 0 n R := by
  obtain ⟨h1, h2, h3, h4, h5⟩ := h
  refine ⟨h1, h2, h3, h4, fun i g1 g2 => ?_⟩
  have := h5 i g1 g2
  unfold mUA mUB at this ⊢
  rw [hs 145 _ (by decide) (by decide) (by omega), hs 146 _ (by decide) (by decide) (by omega), hs 147 _ (by decide) (by decide) (by omega), hs 148 _ (by decide) (by decide) (by omega), hs 149 _ (by decide) (by decide) (by omega), hs 150 _ (by decide) (by decide) (by omega)]
  exact this
theorem g_place (h : gR μ) (hP : ∀ r μ', gKp μ μ' → P r μ') : jj_mM_place X d 0 (ab_la [109]) [] μ P := c_mM_place fun r μ' f => hP r μ' (gR_f1 h f)
theorem g_told {i : Int} (h : gR μ) (hP : ∀ r μ', gKp μ μ' → P r μ') : jj_mM_told X d 0 (ab_la [109, i]) [] μ P := c_mM_told fun r μ' f => hP r μ' (gR_f1 h f)
theorem g_printed {i : Int} (h : gR μ) (hP : ∀ r μ', gKp μ μ' → P r μ') : jj_mM_printed X d 0 (ab_la [109, i]) [] μ P := c_mM_printed h.pr.2 fun r μ' f => hP r μ' (gR_f1 h f)
theorem g_colour {i : Int} (h : gR μ) (hP : ∀ r μ', gKp μ μ' → P r μ') : jj_mM_colour X d 0 (ab_la [109, i]) [] μ P := c_mM_colour (fun q => (h.c.imp q).1.2.2.2.1) fun r μ' f => hP r μ' (gR_f1 h f)
theorem g_code {bt i p : Int} (h : gR μ) (hP : ∀ r μ', gKp μ μ' → P r μ') : jj_mM_code X d 0 (ab_la [109, bt, i, p]) [] μ P := c_mM_code (fun q => (h.c.low q).2.1) (fun q => (h.c.imp q).1.2.1) fun r μ' f => hP r μ' (gR_f1 h f)
theorem g_isLive {bt i r : Int} (h : gR μ) (hP : ∀ r μ', gKp μ μ' → P r μ') : jj_mM_isLive X (d + 3) 0 (ab_la [109, bt, i, r]) [] μ P := c_mM_isLive h.c.low (fun q => (h.c.imp q).1) fun q μ' f => hP q μ' (h.k0 fun c j a _ b => f c j b (by omega))
theorem g_isKnown {i r : Int} (h : gR μ) (hP : ∀ r μ', gKp μ μ' → P r μ') : jj_mM_isKnown X (d + 4) 0 (ab_la [109, i, r]) [] μ P := c_mM_isKnown h.c.low fun q μ' f => hP q μ' (h.k0 fun c j a b _ => f c j (by omega) a)
theorem g_known {i r : Int} (h : gR μ) (hP : ∀ r μ', gKp μ μ' → P r μ') : jj_mM_known X (d + 4) 0 (ab_la [109, i, r]) [] μ P := c_mM_known h.c.low fun q μ' f => hP q μ' (h.k0 fun c j a b _ => f c j (by omega) a)
theorem g_run {w f : Int} (h : gR μ) (hP : ∀ r μ', gKp μ μ' → P r μ') : jj_mM_run X (d + 3) 0 (ab_la [109, w, f]) [] μ P := c_mM_run h.rn h.pr fun r μ' f p0 p1 => by
  have n := h.rn.same f
  exact hP r μ' ⟨⟨⟨n.now, n.rs, n.txt, n.low, n.imp⟩, by rw [f 109 2 (by decide) (by decide) (by decide)]; exact h.tp, n.inp, p0, p1⟩, fun c j q => f c j (by omega) (by omega) (by omega), f 109 53 (by decide) (by decide) (by decide), f 109 2 (by decide) (by decide) (by decide)⟩
theorem g_clear (h : gR μ) (hP : ∀ μ', gR μ' → gOf μ μ' → μ' 109 53 = 0 → μ' 109 2 = μ 109 2 → P (μ 109 53) μ') : jj_mM_clear X d 0 (ab_la [109]) [] μ P := c_mM_clear fun μ' f e =>
  hP μ' ⟨h.c.same (fun j q => f 109 j (by omega)) (fun c j q => f c j (by omega)), by rw [f 109 2 (by omega)]; exact h.tp, by rw [e]; decide, by rw [f 109 56 (by omega)]; exact h.pr⟩ (fun c j q => f c j (by omega)) e (f 109 2 (by omega))
theorem g_input {v : Int} (h : gR μ) (h1 : μ 109 53 = 200 → ∀ μ', gKp μ μ' → μ' 109 0 = 1 → P 0 μ') (h0 : μ 109 53 < 200 → ∀ μ', gR μ' → gOf μ μ' → μ' 109 0 = 0 → μ' 109 53 = μ 109 53 + 1 → μ' 109 2 = μ 109 2 → P (μ 109 53 + 1) μ') : jj_mM_input X d 0 (ab_la [109, v]) [] μ P := by
  have hi := h.inp
  refine c_mM_input hi (fun q μ' f e => h1 q μ' (gR_f1 h f) e) fun q μ' f e e2 => h0 q μ' ⟨h.c.same (fun j z => f 109 j (by decide) (by omega)) (fun c j z => f c j (by omega) (by omega)), by rw [f 109 2 (by decide) (by omega)]; exact h.tp, by omega, by rw [f 109 56 (by decide) (by omega)]; exact h.pr⟩ (fun c j z => f c j (by omega) (by omega)) e e2 (f 109 2 (by decide) (by omega))
theorem g_feed {row n : Int} (h : gR μ) (hB : ¬ fdOk row n → ∀ μ', gKp μ μ' → μ' 109 0 = 1 → P 0 μ') (hS : fdOk row n → 3000 < μ 109 2 + n → ∀ μ', gKp μ μ' → μ' 109 0 = 2 → P 0 μ') (hP : fdOk row n → μ 109 2 + n ≤ 3000 → ∀ μ', gR μ' → gOf μ μ' → μ' 109 0 = 0 → μ' 109 53 = μ 109 53 → μ' 109 2 = μ 109 2 + n → P (μ 109 2 + n) μ') : jj_mM_feed X (d + 1) 0 (ab_la [109, row, 0, n]) [] μ P := by
  have tp := h.tp
  refine c_mM_feed rfl rfl rfl rfl tp (fun q μ' f e => hB q μ' (gR_f1 h f) e) (fun q1 q2 μ' f e => hS q1 q2 μ' (gR_f1 h f) e) fun q1 q2 μ' f e e2 => hP q1 q2 μ' ⟨h.c.same (fun j z => f 109 j (by decide) (by omega)) (fun c j z => f c j (by omega) (by omega)), ?_, by rw [f 109 53 (by decide) (by omega)]; exact h.inp, by rw [f 109 56 (by decide) (by omega)]; exact h.pr⟩ (fun c j z => f c j (by omega) (by omega)) e (f 109 53 (by decide) (by omega)) e2
  have := q1.1
  omega
theorem g_lower (h : gR μ) (hP : ∀ r μ', gKp μ μ' → P r μ') : jj_mM_lower X (d + 3) 0 (ab_la [109]) [] μ P := c_mM_lower h.c.now h.c.txt (fun _ μ' e => hP _ μ' (gR_f1 h (by rw [e]; exact f0.mu))) fun _ r μ' f e1 e2 => hP r μ' ⟨⟨⟨by rw [f 109 18 (by omega) (by omega)]; exact h.c.now, fun j a b => by rw [f 121 j (by omega) (by omega)]; exact h.c.rs j a b, fun q => by
    rw [f 109 19 (by omega) (by omega)] at q
    obtain ⟨Γ, N, dn, t⟩ := h.c.txt q
    rw [f 109 18 (by omega) (by omega)]
    exact ⟨Γ, N, dn, t.keep h.c.now fun c j z => f c j (by omega) (by omega)⟩, e2, fun q => absurd e1 q⟩, by rw [f 109 2 (by omega) (by omega)]; exact h.tp, by rw [f 109 53 (by omega) (by omega)]; exact h.inp, by rw [f 109 56 (by omega) (by omega)]; exact h.pr⟩, fun c j q => f c j (by omega) (by omega), f 109 53 (by omega) (by omega), f 109 2 (by omega) (by omega)⟩
theorem g_improve (h : gR μ) (hP : ∀ r μ', gKp μ μ' → P r μ') : jj_mM_improve X (d + 4) 0 (ab_la [109]) [] μ P := by
  obtain ⟨n, hn⟩ : ∃ n : Nat, μ 109 72 ≠ 0 → μ 109 69 = n := ⟨(μ 109 69).toNat, fun q => by have := (h.c.low q).1; omega⟩
  by_cases q : μ 109 72 = 0
  · refine bk_mM_improve_0 rfl ⟨fun _ μ1 e1 => ⟨fun y => ?_, fun _ => hP _ μ1 (gR_f1 h (by rw [e1]; exact f0.mu))⟩, fun y => absurd q y⟩
    rw [e1, ab_mud, if_pos ⟨rfl, rfl⟩] at y
    exact absurd y (by decide)
  · have hn := hn q
    refine c_mM_improve (n := n) (R := μ 109 71) (fun _ => by rw [← hn]; exact h.c.low q) rfl hn h.c.now (fun y => absurd y q) fun _ n' μ' f' e1 e2 e3 e4 => ?_
    have f : ∀ c i, (c < 161 ∨ 177 < c) → ¬ (c = 109 ∧ (i = 0 ∨ i = 70 ∨ i = 73 ∨ i = 91 ∨ i = 92 ∨ i = 93 ∨ i = 104 ∨ i = 105)) → ¬ (145 ≤ c ∧ c ≤ 150 ∧ 500 ≤ i) → μ' c i = μ c i := fun c i a b e => by rw [f' c i a (by omega) e, ab_mud, if_neg (by omega)]
    have f9 : ∀ i, ¬ (i = 0 ∨ i = 70 ∨ i = 73 ∨ i = 91 ∨ i = 92 ∨ i = 93 ∨ i = 104 ∨ i = 105) → μ' 109 i = μ 109 i := fun i z => f 109 i (by omega) (by omega) (by omega)
    refine hP _ μ' ⟨⟨⟨by rw [f9 18 (by omega)]; exact h.c.now, fun j a b => by rw [f 121 j (by omega) (by omega) (by omega)]; exact h.c.rs j a b, fun q => ?_, fun q => ?_, fun _ => ?_⟩, by rw [f9 2 (by omega)]; exact h.tp, by rw [f9 53 (by omega)]; exact h.inp, by rw [f9 56 (by omega)]; exact h.pr⟩, fun c j q => f c j (by omega) (by omega) (by omega), f9 53 (by omega), f9 2 (by omega)⟩
    · rw [f9 19 (by omega)] at q
      obtain ⟨Γ, N, dn, t⟩ := h.c.txt q
      rw [f9 18 (by omega)]
      exact ⟨Γ, N, dn, t.keep h.c.now fun c j z => f c j (by omega) (by omega) (by omega)⟩
    · rw [f9 69 (by omega), f9 71 (by omega)]
      rw [f9 72 (by omega)] at q
      exact (h.c.low q).low0 fun c i a b e => f c i (by omega) (by omega) (by omega)
    · rw [e1, f9 71 (by omega)]
      exact ⟨e3, e4⟩
theorem g_read (h : gR μ) (hP : ∀ r μ', gR μ' → gOf μ μ' → μ' 109 53 = μ 109 53 → μ' 109 2 = 0 → P r μ') : jj_mM_read X (d + 8) 0 (ab_la [109]) [] μ P := c_mM_read h.tp h.c.now h.c.rs fun r μ' p => by
  have f : ∀ c j, ¬ (c = 109 ∧ (j = 0 ∨ j = 2 ∨ j = 7 ∨ (18 ≤ j ∧ j ≤ 22) ∨ (27 ≤ j ∧ j ≤ 32) ∨ (38 ≤ j ∧ j ≤ 46) ∨ j = 51 ∨ j = 72 ∨ j = 73)) → ¬ (111 ≤ c ∧ c ≤ 137) → μ' c j = μ c j := fun c j a b => p.fr c j fun z => z.elim a b
  have sm : ∀ c i, 145 ≤ c → c ≤ 150 → μ' c i = μ c i := fun c i a b => f c i (by omega) (by omega)
  refine hP r μ' ⟨⟨?_, p.rs, fun q => ?_, fun q => ?_, fun q => ?_⟩, by rw [p.tp]; decide, by rw [f 109 53 (by omega) (by omega)]; exact h.inp, by rw [f 109 56 (by omega) (by omega)]; exact h.pr⟩ (fun c j q => f c j (by omega) (by omega)) (f 109 53 (by omega) (by omega)) p.tp
  · have := h.c.now
    rcases p.ok with k | k
    · omega
    · omega
  · rcases p.ok with ⟨k1, k2, k3, k4, k5⟩ | ⟨k1, k2, k3, k4, k5⟩
    · rw [k2] at q
      obtain ⟨Γ, N, dn, t⟩ := h.c.txt q
      rw [k1]
      exact ⟨Γ, N, dn, k5 Γ N dn t⟩
    · rw [k1]; exact k5
  · rcases p.ok with ⟨k1, k2, k3, k4, k5⟩ | ⟨k1, k2, k3, k4, k5⟩
    · rw [k3] at q
      rw [f 109 69 (by omega) (by omega), f 109 71 (by omega) (by omega)]
      exact (h.c.low q).same sm
    · exact absurd k3 q
  · rcases p.ok with ⟨k1, k2, k3, k4, k5⟩ | ⟨k1, k2, k3, k4, k5⟩
    · rw [k4] at q
      rw [f 109 70 (by omega) (by omega), f 109 71 (by omega) (by omega)]
      exact ⟨(h.c.imp q).1.same sm, gC.impK (fun c j a b _ => sm c j a b) (fun j => f 175 j (by omega) (by omega)) (h.c.imp q).2⟩
    · exact absurd k4 q
end M86

