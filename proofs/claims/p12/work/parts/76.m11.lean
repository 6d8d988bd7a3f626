/-! THE REFERENCE, part 71: read -/
section M71
variable {X : jm_X} {d : Nat} {P : Int → ab_m → Prop} {μ μ' ν : ab_m}
/-- what read may write -/
def rdF (c j : Int) : Prop := (c = 109 ∧ (j = 0 ∨ j = 2 ∨ j = 7 ∨ (18 ≤ j ∧ j ≤ 22) ∨ (27 ≤ j ∧ j ≤ 32) ∨ (38 ≤ j ∧ j ≤ 46) ∨ j = 51 ∨ j = 72 ∨ j = 73)) ∨ (111 ≤ c ∧ c ≤ 137)
end M71
def rdP (μ μ' : ab_m) : Prop := (∀ c j, ¬ rdF c j → μ' c j = μ c j) ∧ (μ' 109 2 = 0) ∧ (∀ j, 0 ≤ j → j < 16 → 0 ≤ μ' 121 j ∧ μ' 121 j ≤ 100) ∧ ((μ' 109 18 = μ 109 18 ∧ μ' 109 19 = μ 109 19 ∧ μ' 109 72 = μ 109 72 ∧ μ' 109 73 = μ 109 73 ∧ ∀ Γ N dn, tW μ (μ 109 18) Γ N dn → tW μ' (μ 109 18) Γ N dn) ∨ (μ' 109 18 = 1 - μ 109 18 ∧ μ' 109 19 = 1 ∧ μ' 109 72 = 0 ∧ μ' 109 73 = 0 ∧ ∃ Γ N dn, tW μ' (1 - μ 109 18) Γ N dn))
theorem rdP.fr {μ μ' : ab_m} (h'' : rdP μ μ') : ∀ c j, ¬ rdF c j → μ' c j = μ c j := h''.1
theorem rdP.tp {μ μ' : ab_m} (h'' : rdP μ μ') : μ' 109 2 = 0 := h''.2.1
theorem rdP.rs {μ μ' : ab_m} (h'' : rdP μ μ') : ∀ j, 0 ≤ j → j < 16 → 0 ≤ μ' 121 j ∧ μ' 121 j ≤ 100 := h''.2.2.1
theorem rdP.ok {μ μ' : ab_m} (h'' : rdP μ μ') : (μ' 109 18 = μ 109 18 ∧ μ' 109 19 = μ 109 19 ∧ μ' 109 72 = μ 109 72 ∧ μ' 109 73 = μ 109 73 ∧ ∀ Γ N dn, tW μ (μ 109 18) Γ N dn → tW μ' (μ 109 18) Γ N dn) ∨ (μ' 109 18 = 1 - μ 109 18 ∧ μ' 109 19 = 1 ∧ μ' 109 72 = 0 ∧ μ' 109 73 = 0 ∧ ∃ Γ N dn, tW μ' (1 - μ 109 18) Γ N dn) := h''.2.2.2
section M71
variable {X : jm_X} {d : Nat} {P : Int → ab_m → Prop} {μ μ' ν : ab_m}
set_option maxHeartbeats 1000000 in
theorem c_mM_read (ht : 0 ≤ μ 109 2 ∧ μ 109 2 ≤ 3000) (n01 : μ 109 18 = 0 ∨ μ 109 18 = 1) (rs : ∀ j, 0 ≤ j → j < 16 → 0 ≤ μ 121 j ∧ μ 121 j ≤ 100) (hP : ∀ r μ', rdP μ μ' → P r μ') : jj_mM_read X (d + 8) 0 (ab_la [109]) [] μ P := by
  refine bk_mM_read_0 rfl fun μ1 e1 => ?_
  refine c_mM_cutWords (by rw [e1, ab_mud, if_neg (by omega)]; exact ht) fun μ2 W f2 wd W0 W3 kW kW1 μ5 e5 => ?_
  have f5 : ∀ c j, ¬ (c = 109 ∧ (j = 0 ∨ j = 2 ∨ j = 7)) → ¬ (111 ≤ c ∧ c ≤ 114) → μ5 c j = μ c j := fun c j z1 z2 => by
    rw [e5, ab_mud, if_neg (by omega), f2 c j (by omega) (by omega), e1, ab_mud, if_neg (by omega)]
  have w7 : μ5 109 7 = W := by rw [e5, ab_mud, if_neg (by omega)]; exact wd.1
  have w2 : μ5 109 2 = 0 := by rw [e5, ab_mud, if_pos ⟨rfl, rfl⟩]
  have hk : aK (fun i => μ5 111 i) W := ⟨W0, W3, fun k a b => by show 1 ≤ μ5 111 k; rw [e5, ab_mud, if_neg (by omega)]; exact wd.2 k a b, by show μ5 111 W = 0; rw [e5, ab_mud, if_neg (by omega)]; exact kW, by show μ5 111 (W + 1) = 0; rw [e5, ab_mud, if_neg (by omega)]; exact kW1⟩
  clear e1 e5
  generalize hg : (1 : Int) - μ 109 18 = g at *
  have g01 : g = 0 ∨ g = 1 := by omega
  -- the end
  have s103 : ∀ (ν : ab_m) (v : Int), (∀ c j, ¬ rdF c j → ν c j = μ c j) → ν 109 2 = 0 → ν 109 18 = μ 109 18 → ν 109 19 = μ 109 19 → ν 109 72 = μ 109 72 → ν 109 73 = μ 109 73 → ν 109 20 = g → (∀ j, 0 ≤ j → j < 16 → 0 ≤ ν 121 j ∧ ν 121 j ≤ 100) → ((1 ≤ ν 109 43 ∧ ν 109 43 ≤ 6 ∧ ∀ Γ N dn, tW μ (μ 109 18) Γ N dn → tW ν (μ 109 18) Γ N dn) ∨ (ν 109 43 = 0 ∧ ∃ Γ N dn, tW ν g Γ N dn)) → ∀ l : ab_l, l 0 = 109 → jj_mM_read X (d + 8) 103 l [(0, v), (2, 109)] ν P := by
    intro ν v fr q2 q18 q19 q72 q73 q20 qrs hout l l0
    refine bk_mM_read_103 l0 fun ν1 e1 => ?_
    have g1 : ∀ c j, ¬ (c = 109 ∧ j = 45) → ν1 c j = ν c j := fun c j z => by rw [e1, ab_mud, if_neg z]
    rw [g1 109 43 (by omega), g1 109 20 (by omega), q20]
    have tc : ∀ (ν' : ab_m) h Γ N dn, (∀ c j, 115 ≤ c ∧ c ≤ 124 → ν' c j = ν c j) → (h = 0 ∨ h = 1) → tW ν h Γ N dn → tW ν' h Γ N dn := fun ν' h Γ N dn fe h01 t => t.same (g := 1 - h) (fun c j z _ => fe c j z) ⟨by omega, h01, by omega⟩
    refine ⟨fun le ν2 e2 ν3 e3 ν4 e4 ν5 e5 => hP _ ν5 ?_, fun lt => hP _ ν1 ?_⟩
    · rcases hout with h | h
      · omega
      · have g5 : ∀ c j, ¬ (c = 109 ∧ (j = 45 ∨ j = 18 ∨ j = 19 ∨ j = 72 ∨ j = 73)) → ν5 c j = ν c j := fun c j z => by
          rw [e5, ab_mud, if_neg (by omega), e4, ab_mud, if_neg (by omega), e3, ab_mud, if_neg (by omega), e2, ab_mud, if_neg (by omega)]; exact g1 c j (by omega)
        obtain ⟨Γ, N, dn, t⟩ := h.2
        refine ⟨fun c j z => by rw [g5 c j (fun y => z (by unfold rdF; omega))]; exact fr c j z, by rw [g5 109 2 (by omega)]; exact q2, fun j a b => by rw [g5 121 j (by omega)]; exact qrs j a b, Or.inr ⟨?_, ?_, ?_, ?_, Γ, N, dn, ?_⟩⟩
        · rw [e5, ab_mud, if_neg (by omega), e4, ab_mud, if_neg (by omega), e3, ab_mud, if_neg (by omega), e2, ab_mud, if_pos ⟨rfl, rfl⟩, hg]
        · rw [e5, ab_mud, if_neg (by omega), e4, ab_mud, if_neg (by omega), e3, ab_mud, if_pos ⟨rfl, rfl⟩]
        · rw [e5, ab_mud, if_neg (by omega), e4, ab_mud, if_pos ⟨rfl, rfl⟩]
        · rw [e5, ab_mud, if_pos ⟨rfl, rfl⟩]
        · rw [hg]; exact tc ν5 g Γ N dn (fun c j z => g5 c j (by omega)) g01 t
    · rcases hout with h | h
      · exact ⟨fun c j z => by rw [g1 c j (fun y => z (by unfold rdF; omega))]; exact fr c j z, by rw [g1 109 2 (by omega)]; exact q2, fun j a b => by rw [g1 121 j (by omega)]; exact qrs j a b, Or.inl ⟨by rw [g1 109 18 (by omega)]; exact q18, by rw [g1 109 19 (by omega)]; exact q19, by rw [g1 109 72 (by omega)]; exact q72, by rw [g1 109 73 (by omega)]; exact q73, fun Γ N dn t => tc ν1 _ Γ N dn (fun c j z => g1 c j (by omega)) n01 (h.2.2 Γ N dn t)⟩⟩
      · omega
  -- both passes
  have pass : ∀ (l : ab_l) (ν : ab_m), l 0 = 109 → (∀ c j, c ≠ 135 → ν c j = μ5 c j) → (∀ j, 0 ≤ j → j ≤ W → ν 135 j = -1) → W < l 1 → jj_mM_read X (d + 8) 16 l [] ν P := by
    intro l ν l0 fv bv hl
    refine bk_mM_read_16 l0 ⟨fun _ ν1 e1 ν2 e2 ν3 e3 ν4 e4 => ?_, fun z => by rw [fv 109 7 (by decide), w7] at z; omega⟩
    have q18 : ν2 109 18 = μ 109 18 := by rw [e2, ab_mud, if_neg (by omega), e1, ab_mud, if_neg (by omega), fv 109 18 (by decide)]; exact f5 109 18 (by omega) (by omega)
    rw [q18, hg, show ab_w g = g from ab_wi (by omega) (by omega)] at e3
    have f4 : ∀ c j, ¬ (c = 109 ∧ (j = 51 ∨ j = 43 ∨ j = 20 ∨ j = 22)) → ν4 c j = ν c j := fun c j z => by rw [e4, ab_mud, if_neg (by omega), e3, ab_mud, if_neg (by omega), e2, ab_mud, if_neg (by omega), e1, ab_mud, if_neg (by omega)]
    have h22 : ν4 109 22 = 0 := by rw [e4, ab_mud, if_pos ⟨rfl, rfl⟩]
    have h20 : ν4 109 20 = g := by rw [e4, ab_mud, if_neg (by omega), e3, ab_mud, if_pos ⟨rfl, rfl⟩]
    have h43 : ν4 109 43 = 0 := by rw [e4, ab_mud, if_neg (by omega), e3, ab_mud, if_neg (by omega), e2, ab_mud, if_pos ⟨rfl, rfl⟩]
    have h51 : ν4 109 51 = 0 := by rw [e4, ab_mud, if_neg (by omega), e3, ab_mud, if_neg (by omega), e2, ab_mud, if_neg (by omega), e1, ab_mud, if_pos ⟨rfl, rfl⟩]
    have fm : ∀ c j, ¬ rdF c j → ν4 c j = μ c j := fun c j z => by
      rw [f4 c j (fun y => z (by unfold rdF; omega)), fv c j (fun y => z (by unfold rdF; omega)), f5 c j (fun y => z (by unfold rdF; omega)) (fun y => z (by unfold rdF; omega))]
    have f9 : ∀ j, j = 18 ∨ j = 19 ∨ j = 72 ∨ j = 73 → ν4 109 j = μ 109 j := fun j z => by rw [f4 109 j (by omega), fv 109 j (by decide)]; exact f5 109 j (by omega) (by omega)
    have ft : ∀ c j, 115 ≤ c ∧ c ≤ 124 → ν4 c j = μ c j := fun c j z => by rw [f4 c j (by omega), fv c j (by omega)]; exact f5 c j (by omega) (by omega)
    have t2 : ν4 109 2 = 0 := by rw [f4 109 2 (by omega), fv 109 2 (by decide)]; exact w2
    have K4 : ∀ i, ν4 111 i = μ5 111 i := fun i => by rw [f4 111 i (by omega)]; exact fv 111 i (by decide)
    have rs4 : ∀ j, 0 ≤ j → j < 16 → 0 ≤ ν4 121 j ∧ ν4 121 j ≤ 100 := fun j a b => by rw [ft 121 j (by omega)]; exact rs j a b
    have sub : ∀ c j, ¬ rdF c j → ¬ rdW g c j := fun c j z y => z (by unfold rdW at y; unfold rdF; omega)
    -- out of a fault, from a base that agrees with ν4 but for the pass
    have bad : ∀ (α β : ab_m) (v : Int), (∀ c j, ¬ (c = 109 ∧ j = 22) → (¬ rdW g c j → α c j = ν4 c j)) → rFt g α β → ∀ l : ab_l, l 0 = 109 → jj_mM_read X (d + 8) 103 l [(0, v), (2, 109)] β P := by
      intro α β v fa r l l0
      have fb : ∀ c j, ¬ (c = 109 ∧ j = 22) → ¬ rdW g c j → β c j = ν4 c j := fun c j z1 z2 => by rw [r.fr c j z2]; exact fa c j z1 z2
      refine s103 β v (fun c j z => ?_) ?_ ?_ ?_ ?_ ?_ ?_ r.rs (Or.inl ⟨r.ft.1, r.ft.2, fun Γ N dn t => ?_⟩) l l0
      · rw [fb c j (fun y => z (by unfold rdF; omega)) (sub c j z)]; exact fm c j z
      · rw [fb 109 2 (by omega) (by unfold rdW; omega)]; exact t2
      · rw [fb 109 18 (by omega) (by unfold rdW; omega)]; exact f9 18 (by omega)
      · rw [fb 109 19 (by omega) (by unfold rdW; omega)]; exact f9 19 (by omega)
      · rw [fb 109 72 (by omega) (by unfold rdW; omega)]; exact f9 72 (by omega)
      · rw [fb 109 73 (by omega) (by unfold rdW; omega)]; exact f9 73 (by omega)
      · rw [fb 109 20 (by omega) (by unfold rdW; omega)]; exact h20
      · exact t.same (g := g) (fun c j z1 z2 => by rw [fb c j (by omega) z2]; exact ft c j z1) ⟨g01, n01, by omega⟩
    refine c_rd_start (G := fun _ => []) hk K4 h43 h20 g01 (Or.inl h22) rs4 (fun _ => ⟨h51, fun w a b => by rw [f4 135 w (by omega)]; exact bv w a b⟩) (fun z => by omega) (fun β r => ?_) fun β r => ?_
    · have n0 : β 109 43 ≠ 0 := by have := r.ft; omega
      exact ⟨fun _ => ⟨fun _ => ⟨r.fw, bad ν4 β _ (fun _ _ _ _ => rfl) r l l0⟩, fun z => absurd z n0⟩, fun z => absurd z n0⟩
    · refine ⟨fun z => absurd r.ft z, fun _ α ea => ?_⟩
      obtain ⟨G, s1, Z, ar, aw⟩ := r.z (by rw [r.fr 109 22 (by unfold rdW; omega)]; exact h22)
      have fa : ∀ c j, ¬ (c = 109 ∧ j = 22) → α c j = β c j := fun c j z => by rw [ea, ab_mud, if_neg z]
      have a22 : α 109 22 = 1 := by rw [ea, ab_mud, if_pos ⟨rfl, rfl⟩]
      have fb : ∀ c j, ¬ (c = 109 ∧ j = 22) → ¬ rdW g c j → α c j = ν4 c j := fun c j z1 z2 => by rw [fa c j z1]; exact r.fr c j z2
      have zb := Z.bm
      have zs := Z.sm
      have B : β 109 51 ≤ 1500 := by split at zb <;> omega
      refine c_rd_start (G := G) hk (fun i => by rw [fb 111 i (by omega) (by unfold rdW; omega)]; exact K4 i) (by rw [fa 109 43 (by omega)]; exact r.ft) (by rw [fb 109 20 (by omega) (by unfold rdW; omega)]; exact h20) g01 (Or.inr a22) (fun j a b => by rw [fa 121 j (by omega)]; exact r.rs j a b) (fun z => by omega) (fun _ => ⟨ar, fun w a b => ?_, fun w b hb h2 => by rw [fa 134 w (by omega)]; exact Z.xc w b hb h2, by omega⟩) (fun γ r2 => ?_) fun γ r2 => ?_
      · rw [fa 135 w (by omega)]
        exact ((Z.tb w a b).bl (by omega)).same fun c j hc => fa c j (by omega)
      · have n0 : γ 109 43 ≠ 0 := by have := r2.ft; omega
        exact ⟨fun _ => ⟨r2.fw, bad α γ _ fb r2 l l0⟩, fun z => absurd z n0⟩
      · refine ⟨fun z => absurd r2.ft z, fun _ => ?_⟩
        have fg : ∀ c j, ¬ (c = 109 ∧ j = 22) → ¬ rdW g c j → γ c j = ν4 c j := fun c j z1 z2 => by rw [r2.fr c j z2]; exact fb c j z1 z2
        refine s103 γ (-1) (fun c j z => ?_) ?_ ?_ ?_ ?_ ?_ ?_ r2.rs (Or.inr ⟨r2.ft, r2.o (by rw [r2.fr 109 22 (by unfold rdW; omega)]; exact a22)⟩) l l0
        · rw [fg c j (fun y => z (by unfold rdF; omega)) (sub c j z)]; exact fm c j z
        · rw [fg 109 2 (by omega) (by unfold rdW; omega)]; exact t2
        · rw [fg 109 18 (by omega) (by unfold rdW; omega)]; exact f9 18 (by omega)
        · rw [fg 109 19 (by omega) (by unfold rdW; omega)]; exact f9 19 (by omega)
        · rw [fg 109 72 (by omega) (by unfold rdW; omega)]; exact f9 72 (by omega)
        · rw [fg 109 73 (by omega) (by unfold rdW; omega)]; exact f9 73 (by omega)
        · rw [fg 109 20 (by omega) (by unfold rdW; omega)]; exact h20
  -- beginsAt
  have key : ∀ (m : Nat) (l : ab_l) (ν : ab_m) (k : Int), l 0 = 109 → l 1 = k → 0 ≤ k → k ≤ W + 1 → (∀ c j, c ≠ 135 → ν c j = μ5 c j) → (∀ j, 0 ≤ j → j < k → ν 135 j = -1) → (W + 1 - k).toNat = m → jj_mM_read X (d + 8) 16 l [] ν P := by
    intro m
    induction m using Nat.strongRecOn with
    | ind m ih =>
      intro l ν k l0 l1 k0 kW fv bv hm
      by_cases hl : W < k
      · exact pass l ν l0 fv (fun j a b => bv j a (by omega)) (by omega)
      · refine bk_mM_read_16 l0 ⟨fun z => by rw [fv 109 7 (by decide), w7, l1] at z; omega, fun _ => ?_⟩
        rw [l1]
        refine ⟨by omega, fun ν1 e1 => ?_⟩
        rw [show ab_w (k + 1) = k + 1 from ab_wi (by omega) (by omega)]
        refine ih _ (by omega) _ ν1 (k + 1) l0 rfl (by omega) (by omega) (fun c j z => by rw [e1, mu_ne z]; exact fv c j z) (fun j a b => ?_) rfl
        by_cases ej : j = k
        · rw [e1, ab_mud, if_pos ⟨rfl, ej⟩]
        · rw [e1, ab_mud, if_neg (by omega)]; exact bv j a (by omega)
  exact key _ _ μ5 0 rfl rfl (by omega) (by omega) (fun _ _ _ => rfl) (fun j a b => by omega) rfl
end M71

/-! THE REFERENCE, part 72: what runs over well-made text keep -/
section M72
variable {μ : ab_m} {g N dn : Int} {Γ : tQ}
theorem tW.tr (t : tW μ g Γ N dn) {k : Int} (a : 0 ≤ k) (b : k < N) : tR Γ k := by
  have N9 := t.n0
  have tf : tF (tEv μ g dn) Γ (N - 1) (fun _ => False) := fun k a b => ⟨(t.k k a (by omega)).1, fun go => Or.inr ((t.k k a (by omega)).2 go)⟩
  have := tf.nr t.base (fun k a b => t.ns k a b) k.toNat (by omega)
  rwa [Int.toNat_of_nonneg a] at this
/-- the next step, where it isn't the last -/
theorem tW.nx (t : tW μ g Γ N dn) {k : Int} (a : 0 ≤ k) (b : k < N) (h29 : μ 115 (9000 * g + k) ≠ 29) (h30 : μ 115 (9000 * g + k) ≠ 30) : k + 1 < N ∧ tMv (μ 115 (9000 * g + k)) (tAr (tEv μ g dn) (μ 115 (9000 * g + k)) (μ 116 (9000 * g + k))) (Γ.1 k) (Γ.2.1 k) = some (Γ.1 (k + 1), Γ.2.1 (k + 1)) ∧ Γ.2.2.2.1 (k + 1) = Γ.2.2.2.1 k ∧ Γ.2.2.1 (k + 1) = Γ.2.2.1 k + tPu (μ 115 (9000 * g + k)) ∧ Γ.2.2.2.2 (k + 1) = Γ.2.2.2.2 k := by
  have st := t.st
  have ne : k ≠ N - 1 := fun z => by rw [z] at h30; exact h30 st
  rcases (t.k k a b).1.1 with h | h | h
  · exact absurd h.1 h29
  · exact absurd h.1 h30
  · exact ⟨by omega, h.1, h.2.2.1, h.2.1, h.2.2.2⟩
theorem tW.rstep (t : tW μ g Γ N dn) {k : Int} (a : 0 ≤ k) (b : k + 1 < N) : Γ.2.2.2.1 k ≤ Γ.2.2.2.1 (k + 1) ∧ Γ.2.2.1 k ≤ Γ.2.2.1 (k + 1) := by
  rcases (t.k k a (by omega)).1.1 with h | h | h
  · have := h.2.2.2.2.2.2.1; have := h.2.2.2.2.2.1; omega
  · exact absurd h.1 (t.ns k a (by omega))
  · have := tPu0 ((tEv μ g dn).1 k)
    have := h.2.2.1; have := h.2.1; omega
theorem tW.rmono (t : tW μ g Γ N dn) {k : Int} (a : 0 ≤ k) : ∀ n : Nat, k + n < N → Γ.2.2.2.1 k ≤ Γ.2.2.2.1 (k + n) ∧ Γ.2.2.1 k ≤ Γ.2.2.1 (k + n) := by
  intro n
  induction n with
  | zero => intro _; simp
  | succ n ih =>
    intro b
    have i := ih (by omega)
    have s := t.rstep (k := k + n) (by omega) (by omega)
    rw [show k + ((n + 1 : Nat) : Int) = k + n + 1 by omega]
    omega
theorem tW.mono (t : tW μ g Γ N dn) {k k' : Int} (a : 0 ≤ k) (b : k ≤ k') (c : k' < N) : Γ.2.2.2.1 k ≤ Γ.2.2.2.1 k' ∧ Γ.2.2.1 k ≤ Γ.2.2.1 k' := by
  have := t.rmono a (k' - k).toNat (by omega)
  rwa [show k + ((k' - k).toNat : Int) = k' by omega] at this
/-- all of an earlier def stands before a def begins -/
theorem tW.before (t : tW μ g Γ N dn) {k b : Int} (a : 0 ≤ k) (ak : k < N) (a' : 0 ≤ b) (bk : b < N) (h : Γ.2.2.2.1 k < Γ.2.2.2.1 b) : k < Γ.2.2.2.2 b := by
  have tr := t.tr a' bk
  have rz := tr.rz
  have z0 := tr.z0
  have hz := tr.hz
  have h0 := tr.h0
  by_cases c : Γ.2.2.2.2 b ≤ k
  · have := (t.mono z0 c ak).1
    omega
  · omega
theorem tW.rle (t : tW μ g Γ N dn) {k : Int} (a : 0 ≤ k) (b : k < N) : 0 ≤ Γ.2.2.2.1 k ∧ Γ.2.2.2.1 k ≤ dn := by
  have := (t.mono a (show k ≤ N - 1 by omega) (by omega)).1
  have := t.rN
  have := (t.tr a b).r0
  omega
/-- the frames below: where they go on; p: the def at hand, v: the values below it -/
def rFr (Γ : tQ) (N dn : Int) : List Int → Int → Int → Prop
  | [], p, v => p = dn ∧ v = 0
  | b :: bs, p, v => 0 ≤ b ∧ b < N ∧ p < Γ.2.2.2.1 b ∧ 1 ≤ Γ.1 b ∧ ∃ v', v = v' + Γ.1 b - 1 ∧ rFr Γ N dn bs (Γ.2.2.2.1 b) v'
theorem rFr.le (t : tW μ g Γ N dn) : ∀ {L : List Int} {p v : Int}, rFr Γ N dn L p v → 0 ≤ v ∧ (∀ k, 0 ≤ k → k < N → Γ.2.2.2.1 k = p → v + k ≤ N - 1) ∧ (L.length : Int) ≤ dn - p
  | [], p, v, h => ⟨by rw [h.2]; decide, fun k a b _ => by rw [h.2]; omega, by rw [h.1]; simp⟩
  | b :: bs, p, v, h => by
    obtain ⟨h1, h2, h3, h4, v', h5, h6⟩ := h
    obtain ⟨i1, i2, i3⟩ := h6.le t
    have tr := t.tr h1 h2
    have hz := tr.hz
    have ib := i2 b h1 h2 rfl
    refine ⟨by omega, fun k a c e => ?_, by simp; omega⟩
    have := t.before a c h1 h2 (by omega)
    omega
/-- only DO_TEST lets a 6 in -/
theorem tMv_6 {k m h : Int} {s : List Int} (k22 : k ≠ 22) : oAl (fun x : Int × List Int => 6 ∈ x.2 → 6 ∈ s) (tMv k m h s) := by
  unfold tMv
  have S : ∀ a : Int, oAl (fun x : Int × List Int => 6 ∈ x.2 → 6 ∈ s) (some (a, s)) := fun a => oAl_s fun z => z
  have St : ∀ a : Int, oAl (fun x : Int × List Int => 6 ∈ x.2 → 6 ∈ s) (some (a, s.tail)) := fun a => oAl_s fun z => List.mem_of_mem_tail z
  have Sc : ∀ a v : Int, v ≠ 6 → oAl (fun x : Int × List Int => 6 ∈ x.2 → 6 ∈ s) (some (a, v :: s)) := fun a v hv => oAl_s fun z => by
    rcases List.mem_cons.mp z with y | y
    · exact absurd y.symm hv
    · exact y
  have Sr : ∀ a v : Int, v ≠ 6 → oAl (fun x : Int × List Int => 6 ∈ x.2 → 6 ∈ s) (some (a, v :: s.tail)) := fun a v hv => oAl_s fun z => by
    rcases List.mem_cons.mp z with y | y
    · exact absurd y.symm hv
    · exact List.mem_of_mem_tail y
  refine oAl_i (fun _ => S _) fun _ => oAl_i (fun _ => oAl_i (fun _ => S _) fun _ => oAl_n) fun _ => oAl_i (fun _ => oAl_i (fun _ => S _) fun _ => oAl_n) fun _ => oAl_i (fun _ => Sc _ _ (by decide)) fun _ => oAl_i (fun _ => oAl_i (fun _ => Sr _ _ (by decide)) fun _ => oAl_n) fun _ => oAl_i (fun _ => oAl_i (fun _ => St _) fun _ => oAl_n) fun _ => oAl_i (fun _ => oAl_i (fun _ => S _) fun _ => oAl_n) fun _ => oAl_i (fun _ => oAl_i (fun _ => S _) fun _ => oAl_n) fun _ => oAl_i (fun _ => oAl_i (fun _ => S _) fun _ => oAl_n) fun _ => oAl_i (fun _ => S _) fun _ => oAl_i (fun _ => oAl_i (fun _ => Sc _ _ (by decide)) fun _ => oAl_n) fun _ => oAl_i (fun _ => oAl_i (fun _ => S _) fun _ => oAl_n) fun _ => oAl_i (fun _ => oAl_i (fun _ => St _) fun _ => oAl_n) fun _ => oAl_i (fun _ => Sc _ _ (by decide)) fun _ => oAl_i (fun _ => oAl_i (fun _ => Sr _ _ (by decide)) fun _ => oAl_n) fun _ => oAl_i (fun _ => oAl_i (fun _ => St _) fun _ => oAl_n) fun _ => oAl_i (fun _ => Sc _ _ (by decide)) fun _ => oAl_i (fun z => absurd z k22) fun _ => oAl_i (fun _ => oAl_i (fun _ => St _) fun _ => oAl_n) fun _ => oAl_i (fun _ => oAl_i (fun _ => S _) fun _ => oAl_n) fun _ => oAl_n
/-- how far a step is from the next use of fuel -/
def rtK (μ : ab_m) (g : Int) (Γ : tQ) (N k : Int) : Nat := if μ 115 (9000 * g + k) = 14 ∨ μ 115 (9000 * g + k) = 18 ∨ μ 115 (9000 * g + k) = 22 then 0 else if 6 ∈ Γ.2.1 k then (2 * N - k).toNat else (N - k).toNat
theorem rtK_pos {k : Int} (b : k < N) (N0 : 0 < N) (h : ¬ (μ 115 (9000 * g + k) = 14 ∨ μ 115 (9000 * g + k) = 18 ∨ μ 115 (9000 * g + k) = 22)) : (N - k).toNat ≤ rtK μ g Γ N k ∧ 0 < rtK μ g Γ N k ∧ (6 ∈ Γ.2.1 k → rtK μ g Γ N k = (2 * N - k).toNat) := by
  unfold rtK
  rw [if_neg h]
  split
  · next z => exact ⟨by omega, by omega, fun _ => rfl⟩
  · next z => exact ⟨by omega, by omega, fun y => absurd y z⟩
theorem rtK_le {k : Int} (a : 0 ≤ k) : rtK μ g Γ N k ≤ (2 * N).toNat := by
  unfold rtK
  split
  · omega
  · split <;> omega
/-- forward, and no 6 comes in: nearer -/
theorem rtK_lt {k k' : Int} (a : 0 ≤ k) (b : k < k') (c : k' < N) (h : ¬ (μ 115 (9000 * g + k) = 14 ∨ μ 115 (9000 * g + k) = 18 ∨ μ 115 (9000 * g + k) = 22)) (h6 : 6 ∈ Γ.2.1 k' → 6 ∈ Γ.2.1 k) : rtK μ g Γ N k' < rtK μ g Γ N k := by
  have p := rtK_pos (Γ := Γ) (show k < N by omega) (by omega) h
  have e : rtK μ g Γ N k' = 0 ∨ (6 ∈ Γ.2.1 k' ∧ rtK μ g Γ N k' = (2 * N - k').toNat) ∨ rtK μ g Γ N k' = (N - k').toNat := by
    unfold rtK
    split
    · exact Or.inl rfl
    · split
      · next z => exact Or.inr (Or.inl ⟨z, rfl⟩)
      · exact Or.inr (Or.inr rfl)
  rcases e with e | ⟨z, e⟩ | e
  · omega
  · rw [e, p.2.2 (h6 z)]; omega
  · omega
/-- the next step is nearer -/
theorem tW.rk (t : tW μ g Γ N dn) {k : Int} (a : 0 ≤ k) (b : k < N) (h29 : μ 115 (9000 * g + k) ≠ 29) (h30 : μ 115 (9000 * g + k) ≠ 30) (h : ¬ (μ 115 (9000 * g + k) = 14 ∨ μ 115 (9000 * g + k) = 18 ∨ μ 115 (9000 * g + k) = 22)) : rtK μ g Γ N (k + 1) < rtK μ g Γ N k := by
  obtain ⟨n1, n2, -⟩ := t.nx a b h29 h30
  exact rtK_lt a (by omega) n1 h fun z => tMv_6 (by omega) _ n2 z
/-- a jump goes nearer -/
theorem tW.rkj (t : tW μ g Γ N dn) {k : Int} (a : 0 ≤ k) (b : k < N) (go : tGo (μ 115 (9000 * g + k))) : 0 ≤ μ 116 (9000 * g + k) ∧ μ 116 (9000 * g + k) < N ∧ Γ.2.2.2.1 (μ 116 (9000 * g + k)) = Γ.2.2.2.1 k ∧ Γ.1 (μ 116 (9000 * g + k)) = tHj (μ 115 (9000 * g + k)) (Γ.1 k) ∧ rtK μ g Γ N (μ 116 (9000 * g + k)) < rtK μ g Γ N k := by
  have N9 := t.n0
  obtain ⟨j1, j2, j3, j4, j5⟩ := (t.k k a b).2 go
  have j1 : 0 ≤ μ 116 (9000 * g + k) := j1
  have j2 : μ 116 (9000 * g + k) ≤ N - 1 := j2
  have nf : ¬ (μ 115 (9000 * g + k) = 14 ∨ μ 115 (9000 * g + k) = 18 ∨ μ 115 (9000 * g + k) = 22) := by unfold tGo at go; omega
  refine ⟨j1, by omega, j3, j4, ?_⟩
  have p := rtK_pos (Γ := Γ) b (by omega) nf
  rcases j5 with ⟨-, z⟩ | ⟨z1, z2⟩ | ⟨-, z1, z2, z3⟩
  · have z : μ 115 (9000 * g + μ 116 (9000 * g + k)) = 18 := z
    have : rtK μ g Γ N (μ 116 (9000 * g + k)) = 0 := by unfold rtK; rw [if_pos (by omega)]
    omega
  · exact rtK_lt a z1 (by omega) nf z2
  · have e1 := p.2.2 z1
    have e2 : rtK μ g Γ N (μ 116 (9000 * g + k)) ≤ (N - μ 116 (9000 * g + k)).toNat := by
      unfold rtK
      split
      · omega
      · rw [if_neg (show ¬ 6 ∈ Γ.2.1 (μ 116 (9000 * g + k)) from z2)]; omega
    omega
end M72

/-! THE REFERENCE, part 73: the measure of a run of the text -/
section M73
variable {μ : ab_m} {g N dn : Int} {Γ : tQ}
/-- what the frames below may still do without fuel -/
def rtM (μ : ab_m) (g : Int) (Γ : tQ) (N : Int) : List Int → Nat
  | [] => 0
  | b :: bs => rtK μ g Γ N b * ((2 * N).toNat + 1) ^ (Γ.2.2.2.1 b).toNat + rtM μ g Γ N bs
def rtT (μ : ab_m) (g : Int) (Γ : tQ) (N : Int) (L : List Int) (pc : Int) : Nat := rtM μ g Γ N (pc :: L)
/-- on in the same frame -/
theorem rtT_on {L : List Int} {k k' : Int} (h : rtK μ g Γ N k' < rtK μ g Γ N k) (r : Γ.2.2.2.1 k' = Γ.2.2.2.1 k) : rtT μ g Γ N L k' < rtT μ g Γ N L k := by
  unfold rtT rtM
  rw [r]
  have p : 0 < ((2 * N).toNat + 1) ^ (Γ.2.2.2.1 k).toNat := Nat.pow_pos (by omega)
  have := Nat.mul_lt_mul_of_pos_right h p
  omega
/-- into a def -/
theorem rtT_call {L : List Int} {k b : Int} (h : rtK μ g Γ N (k + 1) < rtK μ g Γ N k) (r : Γ.2.2.2.1 (k + 1) = Γ.2.2.2.1 k) (b0 : 0 ≤ b) (rb : 0 ≤ Γ.2.2.2.1 b ∧ Γ.2.2.2.1 b < Γ.2.2.2.1 k) : rtT μ g Γ N ((k + 1) :: L) b < rtT μ g Γ N L k := by
  unfold rtT
  show rtK μ g Γ N b * ((2 * N).toNat + 1) ^ (Γ.2.2.2.1 b).toNat + (rtK μ g Γ N (k + 1) * ((2 * N).toNat + 1) ^ (Γ.2.2.2.1 (k + 1)).toNat + rtM μ g Γ N L) < rtK μ g Γ N k * ((2 * N).toNat + 1) ^ (Γ.2.2.2.1 k).toNat + rtM μ g Γ N L
  rw [r]
  have l1 := rtK_le (μ := μ) (g := g) (Γ := Γ) (N := N) b0
  generalize (2 * N).toNat = B at *
  have p : 0 < (B + 1) ^ (Γ.2.2.2.1 b).toNat := Nat.pow_pos (by omega)
  have e1 : rtK μ g Γ N b * (B + 1) ^ (Γ.2.2.2.1 b).toNat < (B + 1) ^ ((Γ.2.2.2.1 b).toNat + 1) := by
    rw [Nat.pow_succ, Nat.mul_comm ((B + 1) ^ (Γ.2.2.2.1 b).toNat)]
    exact Nat.mul_lt_mul_of_pos_right (by omega) p
  have e2 : (B + 1) ^ ((Γ.2.2.2.1 b).toNat + 1) ≤ (B + 1) ^ (Γ.2.2.2.1 k).toNat := Nat.pow_le_pow_right (by omega) (by omega)
  have e3 : (rtK μ g Γ N (k + 1) + 1) * (B + 1) ^ (Γ.2.2.2.1 k).toNat ≤ rtK μ g Γ N k * (B + 1) ^ (Γ.2.2.2.1 k).toNat := Nat.mul_le_mul_right _ h
  rw [Nat.add_mul, Nat.one_mul] at e3
  omega
/-- back out of a def -/
theorem rtT_back {L : List Int} {k b : Int} (h : 0 < rtK μ g Γ N k) : rtT μ g Γ N L b < rtT μ g Γ N (b :: L) k := by
  unfold rtT
  show rtM μ g Γ N (b :: L) < rtK μ g Γ N k * ((2 * N).toNat + 1) ^ (Γ.2.2.2.1 k).toNat + rtM μ g Γ N (b :: L)
  have p : 0 < ((2 * N).toNat + 1) ^ (Γ.2.2.2.1 k).toNat := Nat.pow_pos (by omega)
  have := Nat.mul_pos h p
  omega
end M73

/-! THE REFERENCE, part 74: what a step does to the height -/
section M74
/-- the height behind a step, by its kind -/
def tHu (k m h h' : Int) : Prop := (1 ≤ k ∧ k ≤ 28) ∧ (k = 1 ∨ k = 2 → h' = h + 1) ∧ (k = 3 ∨ k = 4 ∨ k = 8 → 1 ≤ h ∧ h' = h) ∧ (k = 5 ∨ k = 7 ∨ k = 10 ∨ k = 12 ∨ k = 15 ∨ k = 19 ∨ k = 23 ∨ k = 26 ∨ k = 27 → 1 ≤ h ∧ h' = h - 1) ∧ (k = 5 ∨ k = 13 → 2 ≤ h) ∧ (k = 6 ∨ k = 11 ∨ k = 14 ∨ k = 16 ∨ k = 17 ∨ k = 18 ∨ k = 20 ∨ k = 21 ∨ k = 22 ∨ k = 24 ∨ k = 25 ∨ k = 28 → h' = h) ∧ (k = 9 → 0 ≤ m ∧ m ≤ h ∧ h' = h - m + 1) ∧ (k = 13 → h' = h - 2)
theorem tMv_u {k m h : Int} {s : List Int} : oAl (fun x : Int × List Int => tHu k m h x.1) (tMv k m h s) := by
  unfold tMv
  have S : ∀ (a : Int) (l : List Int), tHu k m h a → oAl (fun x : Int × List Int => tHu k m h x.1) (some (a, l)) := fun a l p => oAl_s p
  refine oAl_i (fun _ => S _ _ ?_) fun _ => oAl_i (fun _ => oAl_i (fun _ => S _ _ ?_) fun _ => oAl_n) fun _ => oAl_i (fun _ => oAl_i (fun _ => S _ _ ?_) fun _ => oAl_n) fun _ => oAl_i (fun _ => S _ _ ?_) fun _ => oAl_i (fun _ => oAl_i (fun z => S _ _ ?_) fun _ => oAl_n) fun _ => oAl_i (fun _ => oAl_i (fun z => S _ _ ?_) fun _ => oAl_n) fun _ => oAl_i (fun _ => oAl_i (fun _ => S _ _ ?_) fun _ => oAl_n) fun _ => oAl_i (fun _ => oAl_i (fun _ => S _ _ ?_) fun _ => oAl_n) fun _ => oAl_i (fun _ => oAl_i (fun _ => S _ _ ?_) fun _ => oAl_n) fun _ => oAl_i (fun _ => S _ _ ?_) fun _ => oAl_i (fun _ => oAl_i (fun _ => S _ _ ?_) fun _ => oAl_n) fun _ => oAl_i (fun _ => oAl_i (fun _ => S _ _ ?_) fun _ => oAl_n) fun _ => oAl_i (fun _ => oAl_i (fun _ => S _ _ ?_) fun _ => oAl_n) fun _ => oAl_i (fun _ => S _ _ ?_) fun _ => oAl_i (fun _ => oAl_i (fun z => S _ _ ?_) fun _ => oAl_n) fun _ => oAl_i (fun _ => oAl_i (fun _ => S _ _ ?_) fun _ => oAl_n) fun _ => oAl_i (fun _ => S _ _ ?_) fun _ => oAl_i (fun _ => oAl_i (fun _ => S _ _ ?_) fun _ => oAl_n) fun _ => oAl_i (fun _ => oAl_i (fun z => S _ _ ?_) fun _ => oAl_n) fun _ => oAl_i (fun _ => oAl_i (fun _ => S _ _ ?_) fun _ => oAl_n) fun _ => oAl_n
  all_goals (unfold tHu; refine ⟨by omega, fun _ => by omega, fun _ => by omega, fun _ => by omega, fun _ => by omega, fun _ => by omega, fun _ => by omega, fun _ => by omega⟩)
/-- the return places of the frames -/
def rtB (μ : ab_m) : List Int → Prop
  | [] => True
  | b :: bs => μ 143 bs.length = b ∧ rtB μ bs
theorem rtB.same {μ μ' : ab_m} : ∀ {L : List Int}, rtB μ L → (∀ j, 0 ≤ j → j < (L.length : Int) → μ' 143 j = μ 143 j) → rtB μ' L
  | [], _, _ => trivial
  | b :: bs, h, f => ⟨by rw [f _ (by omega) (by simp; omega)]; exact h.1, h.2.same fun j a c => f j a (by simp; omega)⟩
/-- what runText may write -/
def fRt (μ μ' : ab_m) : Prop := ∀ c j, ¬ (139 ≤ c ∧ c ≤ 144) → ¬ (c = 109 ∧ (j = 54 ∨ j = 56 ∨ j = 57)) → μ' c j = μ c j
end M74

/-! THE REFERENCE, part 75: runText -/
section M75
variable {X : jm_X} {d : Nat} {P : Int → ab_m → Prop} {μ : ab_m} {g N dn fuel : Int} {Γ : tQ}
end M75
/-- the counters of a run -/
def rtC (μ μ1 : ab_m) (fuel : Int) : Prop := (fRt μ μ1) ∧ (0 ≤ μ1 109 57 ∧ μ1 109 57 ≤ fuel) ∧ (0 ≤ μ1 109 54 ∧ μ1 109 54 ≤ μ 109 53) ∧ (0 ≤ μ1 109 56 ∧ μ1 109 56 ≤ 300)
theorem rtC.fr {μ μ1 : ab_m} {fuel : Int} (h'' : rtC μ μ1 fuel) : fRt μ μ1 := h''.1
theorem rtC.u {μ μ1 : ab_m} {fuel : Int} (h'' : rtC μ μ1 fuel) : 0 ≤ μ1 109 57 ∧ μ1 109 57 ≤ fuel := h''.2.1
theorem rtC.tk {μ μ1 : ab_m} {fuel : Int} (h'' : rtC μ μ1 fuel) : 0 ≤ μ1 109 54 ∧ μ1 109 54 ≤ μ 109 53 := h''.2.2.1
theorem rtC.pr {μ μ1 : ab_m} {fuel : Int} (h'' : rtC μ μ1 fuel) : 0 ≤ μ1 109 56 ∧ μ1 109 56 ≤ 300 := h''.2.2.2
section M75
variable {X : jm_X} {d : Nat} {P : Int → ab_m → Prop} {μ : ab_m} {g N dn fuel : Int} {Γ : tQ}
theorem rtC.mu {μ1 μ2 : ab_m} {c j x : Int} (h : rtC μ μ1 fuel) (e : μ2 = ab_mu μ1 c j x) (hc : 139 ≤ c ∧ c ≤ 144) : rtC μ μ2 fuel := by
  have f : ∀ b i, b ≠ c → μ2 b i = μ1 b i := fun b i z => by rw [e, mu_ne z]
  exact ⟨fun b i z1 z2 => by rw [f b i (by omega)]; exact h.fr b i z1 z2, by rw [f 109 57 (by omega)]; exact h.u, by rw [f 109 54 (by omega)]; exact h.tk, by rw [f 109 56 (by omega)]; exact h.pr⟩
set_option maxHeartbeats 2000000 in
theorem c_mM_runText37 (t : tW μ g Γ N dn) (hg : μ 109 18 = g) (g01 : g = 0 ∨ g = 1) (rs : ∀ j, 0 ≤ j → j < 16 → 0 ≤ μ 121 j ∧ μ 121 j ≤ 100) (h53 : μ 109 53 ≤ 200) (f31 : fuel ≤ 2147483647) (hP : ∀ r μ', rtC μ μ' fuel → P r μ') : ∀ (f m : Nat) (l : ab_l) (μ1 : ab_m) (L : List Int) (v pc : Int), l 0 = 109 → l 1 = fuel → l 2 = pc → l 3 = (L.length : Int) → l 4 = v + Γ.1 pc → 0 ≤ pc → pc < N → rFr Γ N dn L (Γ.2.2.2.1 pc) v → rtB μ1 L → rtC μ μ1 fuel → (fuel - μ1 109 57).toNat = f → rtT μ g Γ N L pc = m → jj_mM_runText X (d + 1) 37 l [] μ1 P := by
  intro f
  induction f using Nat.strongRecOn with
  | ind f ihf =>
  intro m
  induction m using Nat.strongRecOn with
  | ind m ihm =>
    intro l μ1 L v pc l0 l1 l2 l3 l4 p0 pN hL hB hC hf hm
    have N9 := t.n0
    have d15 := t.d15
    have fr := hC.fr
    obtain ⟨v0, vb, Ll⟩ := hL.le t
    have vk := vb pc p0 pN rfl
    have tr := t.tr p0 pN
    have hh0 := tr.h0
    have hhz := tr.hz
    have hz0 := tr.z0
    have rp := t.rle p0 pN
    have w18 : μ1 109 18 = g := by rw [fr 109 18 (by omega) (by omega)]; exact hg
    have wk : ab_w (ab_w (9000 * g) + pc) = 9000 * g + pc := by rw [show ab_w (9000 * g) = 9000 * g from ab_wi (by omega) (by omega)]; exact ab_wi (by omega) (by omega)
    have wS : μ1 115 (9000 * g + pc) = μ 115 (9000 * g + pc) := fr 115 _ (by omega) (by omega)
    have wT : μ1 116 (9000 * g + pc) = μ 116 (9000 * g + pc) := fr 116 _ (by omega) (by omega)
    -- on, without fuel
    have on : ∀ (l' : ab_l) (μ2 : ab_m) (L' : List Int) (v' pc' : Int), l' 0 = 109 → l' 1 = fuel → l' 2 = pc' → l' 3 = (L'.length : Int) → l' 4 = v' + Γ.1 pc' → 0 ≤ pc' → pc' < N → rFr Γ N dn L' (Γ.2.2.2.1 pc') v' → rtB μ2 L' → rtC μ μ2 fuel → μ2 109 57 = μ1 109 57 → rtT μ g Γ N L' pc' < m → jj_mM_runText X (d + 1) 879 l' [] μ2 P := fun l' μ2 L' v' pc' a0 a1 a2 a3 a4 a5 a6 a7 a8 a9 a10 a11 => bk_mM_runText_879 a0 (ihm _ a11 l' μ2 L' v' pc' a0 a1 a2 a3 a4 a5 a6 a7 a8 a9 (by rw [a10]; exact hf) rfl)
    have sB : ∀ {μ2 : ab_m} {c j x : Int}, μ2 = ab_mu μ1 c j x → c ≠ 143 → rtB μ2 L := fun e z => hB.same fun i _ _ => by rw [e, mu_ne (by omega)]
    have s57 : ∀ {μ2 : ab_m} {c j x : Int}, μ2 = ab_mu μ1 c j x → c ≠ 109 → μ2 109 57 = μ1 109 57 := fun e z => by rw [e, mu_ne (by omega)]
    refine bk_mM_runText_37 l0 ?_
    rw [l1, l2, l3, l4, w18, wk, wS, wT]
    have nxt : μ 115 (9000 * g + pc) ≠ 29 → μ 115 (9000 * g + pc) ≠ 30 → pc + 1 < N ∧ tHu (μ 115 (9000 * g + pc)) (tAr (tEv μ g dn) (μ 115 (9000 * g + pc)) (μ 116 (9000 * g + pc))) (Γ.1 pc) (Γ.1 (pc + 1)) ∧ Γ.2.2.2.1 (pc + 1) = Γ.2.2.2.1 pc := fun a b => by
      obtain ⟨n1, n2, n3, -⟩ := t.nx p0 pN a b
      exact ⟨n1, tMv_u _ n2, n3⟩
    have k29 : μ 115 (9000 * g + pc) = 29 → Γ.1 pc = 0 ∧ Γ.2.2.2.1 (pc + 1) = Γ.2.2.2.1 pc + 1 ∧ pc + 1 < N := fun a => by
      have st := t.st
      have ne : pc ≠ N - 1 := fun z => by rw [z] at a; omega
      rcases (t.k pc p0 pN).1.1 with h | h | h
      · exact ⟨h.2.1, h.2.2.2.2.2.2.1, by omega⟩
      · have : μ 115 (9000 * g + pc) = 30 := h.1
        omega
      · have h := (tMv_u _ h.1).1
        have h : 1 ≤ μ 115 (9000 * g + pc) ∧ μ 115 (9000 * g + pc) ≤ 28 := h
        omega
    have rk0 := @rtK_pos μ g N Γ pc pN (by omega)
    have vkk : tVk (tEv μ g dn) Γ pc (μ 115 (9000 * g + pc)) (μ 116 (9000 * g + pc)) := (t.k pc p0 pN).1.2
    have gj := t.rkj p0 pN
    have rkn := t.rk p0 pN
    generalize hS : μ 115 (9000 * g + pc) = S at *
    generalize hT : μ 116 (9000 * g + pc) = T at *
    have wp : ab_w (pc + 1) = pc + 1 := ab_wi (by omega) (by omega)
    have st : S ≠ 29 → S ≠ 30 → ¬ (S = 14 ∨ S = 18 ∨ S = 22) → ∀ (l' : ab_l) (μ2 : ab_m), l' 0 = 109 → l' 1 = fuel → l' 2 = ab_w (pc + 1) → l' 3 = (L.length : Int) → l' 4 = v + Γ.1 (pc + 1) → rtB μ2 L → rtC μ μ2 fuel → μ2 109 57 = μ1 109 57 → jj_mM_runText X (d + 1) 879 l' [] μ2 P := fun z1 z2 z3 l' μ2 a0 a1 a2 a3 a4 a5 a6 a7 => by
      obtain ⟨n1, n2, n3⟩ := nxt z1 z2
      exact on l' μ2 L v (pc + 1) a0 a1 (by rw [a2, wp]) a3 a4 (by omega) n1 (by rw [n3]; exact hL) a5 a6 a7 (by rw [← hm]; exact rtT_on (rkn z1 z2 z3) n3)
    have jp : tGo S → ∀ (l' : ab_l) (μ2 : ab_m), l' 0 = 109 → l' 1 = fuel → l' 2 = T → l' 3 = (L.length : Int) → l' 4 = v + tHj S (Γ.1 pc) → rtB μ2 L → rtC μ μ2 fuel → μ2 109 57 = μ1 109 57 → jj_mM_runText X (d + 1) 879 l' [] μ2 P := fun z1 l' μ2 a0 a1 a2 a3 a4 a5 a6 a7 => by
      obtain ⟨j1, j2, j3, j4, j5⟩ := gj z1
      exact on l' μ2 L v T a0 a1 a2 a3 (by rw [a4, j4]) j1 j2 (by rw [j3]; exact hL) a5 a6 a7 (by rw [← hm]; exact rtT_on j5 j3)
    have fu : S = 14 ∨ S = 18 ∨ S = 22 → μ1 109 57 ≠ fuel → ∀ (l' : ab_l) (μ2 : ab_m), μ2 = ab_mu μ1 109 57 (ab_w (μ1 109 57 + 1)) → l' 0 = 109 → l' 1 = fuel → l' 2 = ab_w (pc + 1) → l' 3 = (L.length : Int) → l' 4 = v + Γ.1 pc → jj_mM_runText X (d + 1) 879 l' [] μ2 P := fun z1 z2 l' μ2 e2 a0 a1 a2 a3 a4 => by
      obtain ⟨n1, n2, n3⟩ := nxt (by omega) (by omega)
      have u := hC.u
      rw [show ab_w (μ1 109 57 + 1) = μ1 109 57 + 1 from ab_wi (by omega) (by omega)] at e2
      have h57 : μ2 109 57 = μ1 109 57 + 1 := by rw [e2, ab_mud, if_pos ⟨rfl, rfl⟩]
      have ff : ∀ b i, ¬ (b = 109 ∧ i = 57) → μ2 b i = μ1 b i := fun b i z => by rw [e2, ab_mud, if_neg z]
      have hu := n2.2.2.2.2.2.1
      refine bk_mM_runText_879 a0 (ihf _ (by omega) _ l' μ2 L v (pc + 1) a0 a1 (by rw [a2, wp]) a3 (by rw [a4]; have := hu (by omega); omega) (by omega) n1 (by rw [n3]; exact hL) (hB.same fun i _ _ => ff 143 i (by omega)) ⟨fun b i y1 y2 => by rw [ff b i (by omega)]; exact fr b i y1 y2, by rw [h57]; omega, by rw [ff 109 54 (by omega)]; exact hC.tk, by rw [ff 109 56 (by omega)]; exact hC.pr⟩ (show (fuel - μ2 109 57).toNat = _ from rfl) rfl)
    have kb : (0 : Int) ≤ 9000 * g + pc ∧ (9000 * g + pc : Int) < 18000 := by omega
    have hu : S ≠ 29 → S ≠ 30 → tHu S (tAr (tEv μ g dn) S T) (Γ.1 pc) (Γ.1 (pc + 1)) := fun a b => (nxt a b).2.1
    have W1 : ab_w (v + Γ.1 pc + 1) = v + Γ.1 pc + 1 := ab_wi (by omega) (by omega)
    have Wm : ab_w (v + Γ.1 pc + -1) = v + Γ.1 pc + -1 := ab_wi (by omega) (by omega)
    have Wd : ab_w (v + Γ.1 pc - 1) = v + Γ.1 pc - 1 := ab_wi (by omega) (by omega)
    have W2 : ab_w (v + Γ.1 pc + -2) = v + Γ.1 pc + -2 := ab_wi (by omega) (by omega)
    rw [W1, Wm, Wd, W2]
    have mid : S = 7 → ∀ (s0 : Int) (l' : ab_l), l' 0 = 109 → l' 1 = fuel → l' 2 = ab_w (pc + 1) → l' 3 = (L.length : Int) → l' 4 = v + Γ.1 pc → l' 5 = 9000 * g + pc → l' 6 = T → jj_mM_runText X (d + 1) 388 l' [(0, s0)] μ1 P := fun z s0 l' a0 a1 a2 a3 a4 a5 a6 => by
      have u := hu (by omega) (by omega)
      unfold tHu at u
      refine bk_mM_runText_388 a0 ?_
      rw [a5, a4, a6, Wm, Wd]
      have h4 : l' 4 = v + tHj S (Γ.1 pc) := by rw [a4]; unfold tHj; rw [if_neg (by omega)]
      exact ⟨kb, fun _ => st (by omega) (by omega) (by omega) _ μ1 a0 a1 a2 a3 (by show v + Γ.1 pc + -1 = _; omega) hB hC rfl, fun _ => ⟨kb, fun _ => ⟨by omega, fun μ2 e2 => jp (by unfold tGo; omega) _ μ2 a0 a1 rfl a3 h4 (sB e2 (by decide)) (hC.mu e2 (by decide)) (s57 e2 (by decide))⟩, fun _ => ⟨by omega, fun μ2 e2 => jp (by unfold tGo; omega) _ μ2 a0 a1 rfl a3 h4 (sB e2 (by decide)) (hC.mu e2 (by decide)) (s57 e2 (by decide))⟩⟩⟩
    have cal : S = 9 → ∀ (n : Nat) (l' : ab_l) (μ2 : ab_m) (i : Int), l' 0 = 109 → l' 1 = fuel → l' 2 = pc + 1 → l' 3 = (L.length : Int) → l' 4 = v + Γ.1 pc - μ 120 (16 * g + T) → l' 6 = T → l' 7 = μ 120 (16 * g + T) → l' 8 = i → 0 ≤ i → (μ 120 (16 * g + T) - i).toNat = n → rtB μ2 L → rtC μ μ2 fuel → μ2 109 57 = μ1 109 57 → jj_mM_runText X (d + 1) 490 l' [] μ2 P := fun z => by
      obtain ⟨n1, n2, n3⟩ := nxt (by omega) (by omega)
      have q := vkk.2.2.2.1 z
      have q3 : T < dn := q.2.2
      obtain ⟨d1, d2, d3, d4, d5, d6, d7, d8, d9, d10⟩ := t.d T q.1 q3
      have u := n2.2.2.2.2.2.2.1 z
      unfold tAr at u
      rw [if_pos z] at u
      have u : 0 ≤ μ 120 (16 * g + T) ∧ μ 120 (16 * g + T) ≤ Γ.1 pc ∧ Γ.1 (pc + 1) = Γ.1 pc - μ 120 (16 * g + T) + 1 := u
      have rkk := rkn (by omega) (by omega) (by omega)
      intro n
      induction n with
      | zero =>
        intro l' μ2 i a0 a1 a2 a3 a4 a6 a7 a8 i0 en b2 c2 f2
        refine bk_mM_runText_490 a0 ?_
        rw [a2, a3, a6, a7, a8]
        refine ⟨fun _ => ⟨by omega, fun μ3 e3 => ⟨by omega, fun μ4 e4 => ?_⟩⟩, fun y => by omega⟩
        have c3 := c2.mu e3 (by decide)
        have c4 := c3.mu e4 (by decide)
        have x18 : μ4 109 18 = g := by rw [c4.fr 109 18 (by omega) (by omega)]; exact hg
        have x118 : μ4 118 (16 * g + T) = μ 118 (16 * g + T) := c4.fr 118 _ (by omega) (by omega)
        have wt : ab_w (ab_w (16 * g) + T) = 16 * g + T := by rw [show ab_w (16 * g) = 16 * g from ab_wi (by omega) (by omega)]; exact ab_wi (by omega) (by omega)
        rw [x18, wt, x118, show ab_w ((L.length : Int) + 1) = L.length + 1 from ab_wi (by omega) (by omega)]
        refine ⟨by omega, on _ μ4 ((pc + 1) :: L) (v + Γ.1 pc - μ 120 (16 * g + T)) (μ 118 (16 * g + T)) a0 a1 rfl (by simp; rfl) (by show l' 4 = _; rw [a4, d4]; omega) d1 d2 ⟨by omega, n1, by omega, by omega, v, by omega, by rw [n3]; exact hL⟩ ⟨?_, ?_⟩ c4 (by rw [e4, mu_ne (by decide), e3, mu_ne (by decide)]; exact f2) (by rw [← hm]; exact rtT_call rkk n3 d1 (by omega))⟩
        · rw [e4, mu_ne (by decide), e3, ab_mud, if_pos ⟨rfl, rfl⟩]
        · exact b2.same fun j j0 j1 => by rw [e4, mu_ne (by decide), e3, ab_mud, if_neg (by omega)]
      | succ n ih =>
        intro l' μ2 i a0 a1 a2 a3 a4 a6 a7 a8 i0 en b2 c2 f2
        refine bk_mM_runText_490 a0 ?_
        rw [a4, a6, a7, a8]
        refine ⟨fun y => by omega, fun y => ?_⟩
        have x18 : μ2 109 18 = g := by rw [c2.fr 109 18 (by omega) (by omega)]; exact hg
        have x119 : μ2 119 (16 * g + T) = μ 119 (16 * g + T) := c2.fr 119 _ (by omega) (by omega)
        have wt : ab_w (ab_w (16 * g) + T) = 16 * g + T := by rw [show ab_w (16 * g) = 16 * g from ab_wi (by omega) (by omega)]; exact ab_wi (by omega) (by omega)
        rw [x18, wt, x119, show ab_w (μ 119 (16 * g + T) + i) = μ 119 (16 * g + T) + i from ab_wi (by omega) (by omega), show ab_w (v + Γ.1 pc - μ 120 (16 * g + T) + i) = v + Γ.1 pc - μ 120 (16 * g + T) + i from ab_wi (by omega) (by omega), show ab_w (i + 1) = i + 1 from ab_wi (by omega) (by omega)]
        exact ⟨by omega, by omega, by omega, fun μ3 e3 => ih _ μ3 (i + 1) a0 a1 a2 a3 a4 a6 a7 rfl (by omega) (by omega) (b2.same fun j j0 j1 => by rw [e3, mu_ne (by decide)]) (c2.mu e3 (by decide)) (by rw [e3, mu_ne (by decide)]; exact f2)⟩
    refine ⟨kb, kb, ⟨?_, ?_, ?_, ?_, ?_, ?_, ?_, ?_, ?_, ?_, ?_, ?_, ?_, ?_, ?_, ?_, ?_, ?_, ?_, ?_, ?_, ?_, ?_, ?_, ?_, ?_, ?_, ?_, ?_, ?_, trivial⟩, fun z => ?_⟩
    · intro z; have u := hu (by omega) (by omega); unfold tHu at u; exact ⟨by omega, fun μ2 e2 => st (by omega) (by omega) (by omega) _ μ2 l0 l1 rfl l3 (by show v + Γ.1 pc + 1 = _; omega) (sB e2 (by decide)) (hC.mu e2 (by decide)) (s57 e2 (by decide))⟩
    · intro z; have u := hu (by omega) (by omega); unfold tHu at u; have q := vkk.2.2.2.2.1 (by omega); exact ⟨q, by omega, fun μ2 e2 => st (by omega) (by omega) (by omega) _ μ2 l0 l1 rfl l3 (by show v + Γ.1 pc + 1 = _; omega) (sB e2 (by decide)) (hC.mu e2 (by decide)) (s57 e2 (by decide))⟩
    · intro z
      have u := hu (by omega) (by omega)
      unfold tHu at u
      have q := vkk.1 (by omega)
      refine ⟨by omega, c_mM_isCell (by rw [w18]; exact g01) q (fun i0 i1 => ⟨fun _ => ?_, fun y => absurd y (by decide)⟩) ⟨fun y => absurd rfl y, fun _ => hP _ _ hC⟩⟩
      rw [w18, fr 121 _ (by omega) (by omega)] at i1
      have r1 := rs (8 * g + T) (by omega) (by omega)
      rw [show ab_w (100 * T) = 100 * T from ab_wi (by omega) (by omega), show ab_w (100 * T + μ1 142 (v + Γ.1 pc - 1)) = 100 * T + μ1 142 (v + Γ.1 pc - 1) from ab_wi (by omega) (by omega)]
      exact ⟨by omega, by omega, by omega, fun μ2 e2 => st (by omega) (by omega) (by omega) _ μ2 l0 l1 rfl l3 (by show l 4 = _; rw [l4]; omega) (sB e2 (by decide)) (hC.mu e2 (by decide)) (s57 e2 (by decide))⟩
    · intro z; have u := hu (by omega) (by omega); unfold tHu at u; exact ⟨by omega, c_mM_one fun x => ⟨by omega, fun μ2 e2 => st (by omega) (by omega) (by omega) _ μ2 l0 l1 rfl l3 (by show l 4 = _; rw [l4]; omega) (sB e2 (by decide)) (hC.mu e2 (by decide)) (s57 e2 (by decide))⟩⟩
    · intro z
      have u := hu (by omega) (by omega)
      unfold tHu at u
      rw [show ab_w (v + Γ.1 pc + -1 - 1) = v + Γ.1 pc + -1 - 1 from ab_wi (by omega) (by omega)]
      exact ⟨by omega, c_mM_isByNothing fun x _ => ⟨fun _ => ⟨by omega, by omega, c_mM_two fun y => ⟨by omega, fun μ2 e2 => st (by omega) (by omega) (by omega) _ μ2 l0 l1 rfl l3 (by show v + Γ.1 pc + -1 = _; omega) (sB e2 (by decide)) (hC.mu e2 (by decide)) (s57 e2 (by decide))⟩⟩, fun _ => hP _ _ hC⟩⟩
    · intro z; have u := hu (by omega) (by omega); unfold tHu at u; exact st (by omega) (by omega) (by omega) _ μ1 l0 l1 rfl l3 (by show l 4 = _; rw [l4]; omega) hB hC rfl
    · intro z; have u := hu (by omega) (by omega); unfold tHu at u; exact ⟨by omega, fun _ => mid z 0 _ l0 l1 rfl l3 l4 rfl rfl, fun _ => mid z 1 _ l0 l1 rfl l3 l4 rfl rfl⟩
    · intro z; have u := hu (by omega) (by omega); unfold tHu at u; exact ⟨by omega, fun _ => ⟨by omega, fun μ2 e2 => st (by omega) (by omega) (by omega) _ μ2 l0 l1 rfl l3 (by show l 4 = _; rw [l4]; omega) (sB e2 (by decide)) (hC.mu e2 (by decide)) (s57 e2 (by decide))⟩, fun _ => ⟨by omega, fun μ2 e2 => st (by omega) (by omega) (by omega) _ μ2 l0 l1 rfl l3 (by show l 4 = _; rw [l4]; omega) (sB e2 (by decide)) (hC.mu e2 (by decide)) (s57 e2 (by decide))⟩⟩
    · intro z
      have u := (hu (by omega) (by omega)).2.2.2.2.2.2.1 z
      unfold tAr at u
      rw [if_pos z] at u
      have u : 0 ≤ μ 120 (16 * g + T) ∧ μ 120 (16 * g + T) ≤ Γ.1 pc ∧ Γ.1 (pc + 1) = Γ.1 pc - μ 120 (16 * g + T) + 1 := u
      have q := vkk.2.2.2.1 z
      have q3 : T < dn := q.2.2
      have wt : ab_w (ab_w (16 * g) + T) = 16 * g + T := by rw [show ab_w (16 * g) = 16 * g from ab_wi (by omega) (by omega)]; exact ab_wi (by omega) (by omega)
      rw [wt, fr 120 _ (by omega) (by omega), show ab_w (v + Γ.1 pc - μ 120 (16 * g + T)) = v + Γ.1 pc - μ 120 (16 * g + T) from ab_wi (by omega) (by omega)]
      exact ⟨by omega, cal z _ _ μ1 0 l0 l1 wp l3 rfl rfl rfl rfl (by omega) rfl hB hC rfl⟩
    · intro z; have u := hu (by omega) (by omega); unfold tHu at u; exact st (by omega) (by omega) (by omega) _ μ1 l0 l1 rfl l3 (by show v + Γ.1 pc + -1 = _; omega) hB hC rfl
    · intro z; have u := hu (by omega) (by omega); unfold tHu at u; have q := vkk.2.2.2.2.1 (by omega); exact ⟨q, fun μ2 e2 => st (by omega) (by omega) (by omega) _ μ2 l0 l1 rfl l3 (by show l 4 = _; rw [l4]; omega) (sB e2 (by decide)) (hC.mu e2 (by decide)) (s57 e2 (by decide))⟩
    · intro z; have u := hu (by omega) (by omega); unfold tHu at u; have q := vkk.2.2.2.2.1 (by omega); exact ⟨by omega, q, fun μ2 e2 => st (by omega) (by omega) (by omega) _ μ2 l0 l1 rfl l3 (by show v + Γ.1 pc + -1 = _; omega) (sB e2 (by decide)) (hC.mu e2 (by decide)) (s57 e2 (by decide))⟩
    · intro z
      have u := hu (by omega) (by omega)
      unfold tHu at u
      have q := vkk.1 (by omega)
      refine ⟨by omega, c_mM_isCell (by rw [w18]; exact g01) q (fun i0 i1 => ⟨fun _ => ?_, fun y => absurd y (by decide)⟩) ⟨fun y => absurd rfl y, fun _ => hP _ _ hC⟩⟩
      rw [w18, fr 121 _ (by omega) (by omega)] at i1
      have r1 := rs (8 * g + T) (by omega) (by omega)
      rw [show ab_w (100 * T) = 100 * T from ab_wi (by omega) (by omega), show ab_w (100 * T + μ1 142 (v + Γ.1 pc + -2)) = 100 * T + μ1 142 (v + Γ.1 pc + -2) from ab_wi (by omega) (by omega), show ab_w (v + Γ.1 pc + -2 + 1) = v + Γ.1 pc + -2 + 1 from ab_wi (by omega) (by omega)]
      exact ⟨by omega, by omega, by omega, fun μ2 e2 => st (by omega) (by omega) (by omega) _ μ2 l0 l1 rfl l3 (by show v + Γ.1 pc + -2 = _; omega) (sB e2 (by decide)) (hC.mu e2 (by decide)) (s57 e2 (by decide))⟩
    · intro z; exact ⟨fun y μ2 e2 => fu (by omega) y _ μ2 e2 l0 l1 rfl l3 l4, fun _ => hP _ _ hC⟩
    · intro z; have u := hu (by omega) (by omega); unfold tHu at u; exact ⟨by omega, fun _ => st (by omega) (by omega) (by omega) _ μ1 l0 l1 rfl l3 (by show v + Γ.1 pc + -1 = _; omega) hB hC rfl, fun _ => jp (by unfold tGo; omega) _ μ1 l0 l1 rfl l3 (by show v + Γ.1 pc + -1 = v + tHj S (Γ.1 pc); unfold tHj; rw [if_pos (by omega)]; omega) hB hC rfl⟩
    · intro z; have u := hu (by omega) (by omega); unfold tHu at u; exact jp (by unfold tGo; omega) _ μ1 l0 l1 rfl l3 (by show l 4 = v + tHj S (Γ.1 pc); rw [l4]; unfold tHj; rw [if_neg (by omega)]) hB hC rfl
    · intro z; have u := hu (by omega) (by omega); unfold tHu at u; exact st (by omega) (by omega) (by omega) _ μ1 l0 l1 rfl l3 (by show l 4 = _; rw [l4]; omega) hB hC rfl
    · intro z; exact ⟨fun y μ2 e2 => fu (by omega) y _ μ2 e2 l0 l1 rfl l3 l4, fun _ => hP _ _ hC⟩
    · intro z; have u := hu (by omega) (by omega); unfold tHu at u; exact ⟨by omega, fun _ => st (by omega) (by omega) (by omega) _ μ1 l0 l1 rfl l3 (by show v + Γ.1 pc + -1 = _; omega) hB hC rfl, fun _ => jp (by unfold tGo; omega) _ μ1 l0 l1 rfl l3 (by show v + Γ.1 pc + -1 = v + tHj S (Γ.1 pc); unfold tHj; rw [if_pos (by omega)]; omega) hB hC rfl⟩
    · intro z; have u := hu (by omega) (by omega); unfold tHu at u; exact jp (by unfold tGo; omega) _ μ1 l0 l1 rfl l3 (by show l 4 = v + tHj S (Γ.1 pc); rw [l4]; unfold tHj; rw [if_neg (by omega)]) hB hC rfl
    · intro z; have u := hu (by omega) (by omega); unfold tHu at u; exact st (by omega) (by omega) (by omega) _ μ1 l0 l1 rfl l3 (by show l 4 = _; rw [l4]; omega) hB hC rfl
    · intro z; exact ⟨fun y μ2 e2 => fu (by omega) y _ μ2 e2 l0 l1 rfl l3 l4, fun _ => hP _ _ hC⟩
    · intro z; have u := hu (by omega) (by omega); unfold tHu at u; exact ⟨by omega, fun _ => st (by omega) (by omega) (by omega) _ μ1 l0 l1 rfl l3 (by show v + Γ.1 pc + -1 = _; omega) hB hC rfl, fun _ => jp (by unfold tGo; omega) _ μ1 l0 l1 rfl l3 (by show v + Γ.1 pc + -1 = v + tHj S (Γ.1 pc); unfold tHj; rw [if_pos (by omega)]; omega) hB hC rfl⟩
    · intro z; have u := hu (by omega) (by omega); unfold tHu at u; exact jp (by unfold tGo; omega) _ μ1 l0 l1 rfl l3 (by show l 4 = v + tHj S (Γ.1 pc); rw [l4]; unfold tHj; rw [if_neg (by omega)]) hB hC rfl
    · intro z; have u := hu (by omega) (by omega); unfold tHu at u; exact jp (by unfold tGo; omega) _ μ1 l0 l1 rfl l3 (by show l 4 = v + tHj S (Γ.1 pc); rw [l4]; unfold tHj; rw [if_neg (by omega)]) hB hC rfl
    · intro z
      have u := hu (by omega) (by omega)
      unfold tHu at u
      have rd : Γ.2.2.2.1 pc < dn := vkk.2.2.2.2.2.2 z
      have Lp : 1 ≤ (L.length : Int) := by
        cases L with
        | nil => have := hL.1; omega
        | cons b bs => simp; omega
      rw [show ab_w ((L.length : Int) - 1) = L.length - 1 from ab_wi (by omega) (by omega)]
      exact ⟨by omega, by omega, fun μ2 e2 => jp (by unfold tGo; omega) _ μ2 l0 l1 rfl l3 (by show v + Γ.1 pc + -1 = v + tHj S (Γ.1 pc); unfold tHj; rw [if_pos (by omega)]; omega) (sB e2 (by decide)) (hC.mu e2 (by decide)) (s57 e2 (by decide))⟩
    · intro z
      have u := hu (by omega) (by omega)
      unfold tHu at u
      have pr := hC.pr
      refine ⟨fun y => ⟨by omega, by omega, fun μ2 e2 μ3 e3 => ?_⟩, fun _ => hP _ _ hC⟩
      have c2 := hC.mu e2 (by decide)
      have h56 : μ2 109 56 = μ1 109 56 := by rw [e2, mu_ne (by decide)]
      rw [h56, show ab_w (μ1 109 56 + 1) = μ1 109 56 + 1 from ab_wi (by omega) (by omega)] at e3
      have f3 : ∀ b i, ¬ (b = 109 ∧ i = 56) → μ3 b i = μ2 b i := fun b i y => by rw [e3, ab_mud, if_neg y]
      have x56 : μ3 109 56 = μ1 109 56 + 1 := by rw [e3, ab_mud, if_pos ⟨rfl, rfl⟩]
      exact st (by omega) (by omega) (by omega) _ μ3 l0 l1 rfl l3 (by show v + Γ.1 pc + -1 = _; omega) ((sB e2 (by decide)).same fun i _ _ => f3 143 i (by omega)) ⟨fun b i y1 y2 => by rw [f3 b i (by omega)]; exact c2.fr b i y1 y2, by rw [f3 109 57 (by omega)]; exact c2.u, by rw [f3 109 54 (by omega)]; exact c2.tk, by rw [x56]; omega⟩ (by rw [f3 109 57 (by omega)]; exact s57 e2 (by decide))
    · intro z
      have u := hu (by omega) (by omega)
      unfold tHu at u
      have tk := hC.tk
      have q := vkk.2.2.2.2.1 (by omega)
      have x53 : μ1 109 53 = μ 109 53 := fr 109 53 (by omega) (by omega)
      rw [x53]
      refine ⟨fun y => ⟨by omega, q, fun μ2 e2 μ3 e3 => ?_⟩, fun _ => hP _ _ hC⟩
      have c2 := hC.mu e2 (by decide)
      have h54 : μ2 109 54 = μ1 109 54 := by rw [e2, mu_ne (by decide)]
      rw [h54, show ab_w (μ1 109 54 + 1) = μ1 109 54 + 1 from ab_wi (by omega) (by omega)] at e3
      have f3 : ∀ b i, ¬ (b = 109 ∧ i = 54) → μ3 b i = μ2 b i := fun b i y => by rw [e3, ab_mud, if_neg y]
      have x54 : μ3 109 54 = μ1 109 54 + 1 := by rw [e3, ab_mud, if_pos ⟨rfl, rfl⟩]
      exact st (by omega) (by omega) (by omega) _ μ3 l0 l1 rfl l3 (by show l 4 = _; rw [l4]; omega) ((sB e2 (by decide)).same fun i _ _ => f3 143 i (by omega)) ⟨fun b i y1 y2 => by rw [f3 b i (by omega)]; exact c2.fr b i y1 y2, by rw [f3 109 57 (by omega)]; exact c2.u, by rw [x54]; omega, by rw [f3 109 56 (by omega)]; exact c2.pr⟩ (by rw [f3 109 57 (by omega)]; exact s57 e2 (by decide))
    · intro z
      obtain ⟨h0', r1, n1⟩ := k29 z
      have rn := t.rle (k := pc + 1) (by omega) n1
      have rk1 := (rk0 (by omega)).2.1
      cases L with
      | nil => have := hL.1; omega
      | cons b bs =>
        have ln : ((b :: bs : List Int).length : Int) = bs.length + 1 := by simp
        obtain ⟨b0, bN, pb, hb1, v', ev, hL'⟩ := hL
        obtain ⟨B1, B2⟩ := hB
        rw [ln] at Ll
        rw [ln, show ab_w ((bs.length : Int) + 1 + -1) = bs.length from by rw [ab_wi (by omega) (by omega)]; omega]
        refine ⟨by omega, by omega, fun μ2 e2 => ⟨by omega, ?_⟩⟩
        have c2 := hC.mu e2 (by decide)
        have x : ∀ j, μ2 143 j = μ1 143 j := fun j => by rw [e2, mu_ne (by decide)]
        exact on _ μ2 bs v' b l0 l1 (show μ2 143 bs.length = b by rw [x, B1]) rfl (by show v + Γ.1 pc + 1 = _; omega) b0 bN hL' (B2.same fun j _ _ => x j) c2 (s57 e2 (by decide)) (by rw [← hm]; exact rtT_back rk1)
    · intro z; exact hP _ _ hC
    · have := (hu (by omega) (by omega)).1; omega
end M75

/-! THE REFERENCE, part 76: runText whole, run -/
section M76
variable {X : jm_X} {d : Nat} {P : Int → ab_m → Prop} {μ : ab_m} {g N dn fuel : Int} {Γ : tQ}
theorem c_mM_runText (t : tW μ g Γ N dn) (hg : μ 109 18 = g) (g01 : g = 0 ∨ g = 1) (rs : ∀ j, 0 ≤ j → j < 16 → 0 ≤ μ 121 j ∧ μ 121 j ≤ 100) (h53 : 0 ≤ μ 109 53 ∧ μ 109 53 ≤ 200) (f31 : 0 ≤ fuel ∧ fuel ≤ 100000) (hu : μ 109 57 = 0) (ht : μ 109 54 = 0) (hp : μ 109 56 = 0) (hP : ∀ r μ', rtC μ μ' fuel → P r μ') : jj_mM_runText X (d + 1) 0 (ab_la [109, fuel]) [] μ P := by
  have s2 : ∀ (m : Nat) (l : ab_l) (μ1 : ab_m) (k : Int), l 0 = 109 → l 1 = fuel → l 2 = k → 0 ≤ k → (3002 - k).toNat = m → rtC μ μ1 fuel → jj_mM_runText X (d + 1) 2 l [] μ1 P := by
    intro m
    induction m with
    | zero =>
      intro l μ1 k l0 l1 l2 k0 em hC
      refine bk_mM_runText_2 l0 ⟨fun _ => ?_, fun z => by rw [l2] at z; omega⟩
      have w18 : μ1 109 18 = g := by rw [hC.fr 109 18 (by omega) (by omega)]; exact hg
      have w124 : μ1 124 g = μ 124 g := hC.fr 124 g (by omega) (by omega)
      rw [w18, w124]
      obtain ⟨b1, b2, b3, b4, -⟩ := t.b
      exact ⟨by omega, c_mM_runText37 t hg g01 rs h53.2 (by omega) hP _ _ _ μ1 [] 0 (μ 124 g) l0 l1 rfl rfl (by show (0 : Int) = _; rw [b4]; rfl) b1 b2 ⟨b3, rfl⟩ trivial hC rfl rfl⟩
    | succ m ih =>
      intro l μ1 k l0 l1 l2 k0 em hC
      refine bk_mM_runText_2 l0 ⟨fun z => by rw [l2] at z; omega, fun z => ?_⟩
      rw [l2, show ab_w (k + 1) = k + 1 from ab_wi (by omega) (by omega)]
      exact ⟨by omega, fun μ2 e2 => ih _ μ2 (k + 1) l0 l1 rfl (by omega) (by omega) (hC.mu e2 (by decide))⟩
  exact bk_mM_runText_0 rfl (s2 _ _ μ 0 rfl rfl rfl (by decide) rfl ⟨fun _ _ _ _ => rfl, by omega, by omega, by omega⟩)
end M76
/-- what a run needs -/
def rnI (μ : ab_m) : Prop := (μ 109 18 = 0 ∨ μ 109 18 = 1) ∧ (∀ j, 0 ≤ j → j < 16 → 0 ≤ μ 121 j ∧ μ 121 j ≤ 100) ∧ (0 ≤ μ 109 53 ∧ μ 109 53 ≤ 200) ∧ (μ 109 19 ≠ 0 → ∃ Γ N dn, tW μ (μ 109 18) Γ N dn) ∧ (μ 109 72 ≠ 0 → mWF μ 0 (μ 109 69) (μ 109 71)) ∧ (μ 109 73 ≠ 0 → mWF μ 500 (μ 109 70) (μ 109 71) ∧ ∀ i, 0 ≤ i → i < μ 109 70 → mRs μ (500 + i) fun r => 0 ≤ μ 175 r ∧ μ 175 r < 300)
theorem rnI.now {μ : ab_m} (h'' : rnI μ) : μ 109 18 = 0 ∨ μ 109 18 = 1 := h''.1
theorem rnI.rs {μ : ab_m} (h'' : rnI μ) : ∀ j, 0 ≤ j → j < 16 → 0 ≤ μ 121 j ∧ μ 121 j ≤ 100 := h''.2.1
theorem rnI.inp {μ : ab_m} (h'' : rnI μ) : 0 ≤ μ 109 53 ∧ μ 109 53 ≤ 200 := h''.2.2.1
theorem rnI.txt {μ : ab_m} (h'' : rnI μ) : μ 109 19 ≠ 0 → ∃ Γ N dn, tW μ (μ 109 18) Γ N dn := h''.2.2.2.1
theorem rnI.low {μ : ab_m} (h'' : rnI μ) : μ 109 72 ≠ 0 → mWF μ 0 (μ 109 69) (μ 109 71) := h''.2.2.2.2.1
theorem rnI.imp {μ : ab_m} (h'' : rnI μ) : μ 109 73 ≠ 0 → mWF μ 500 (μ 109 70) (μ 109 71) ∧ ∀ i, 0 ≤ i → i < μ 109 70 → mRs μ (500 + i) fun r => 0 ≤ μ 175 r ∧ μ 175 r < 300 := h''.2.2.2.2.2
section M76
variable {X : jm_X} {d : Nat} {P : Int → ab_m → Prop} {μ : ab_m} {g N dn fuel : Int} {Γ : tQ}
theorem rnI.same {μ' : ab_m} (h : rnI μ) (hf : fRun μ μ') : rnI μ' := by
  have f9 : ∀ j, ¬ (j = 0 ∨ j = 54 ∨ j = 56 ∨ j = 57 ∨ j = 110) → μ' 109 j = μ 109 j := fun j z => hf 109 j (by omega) (by omega) (fun y => z y.2)
  have sm : ∀ c i, 145 ≤ c → c ≤ 150 → μ' c i = μ c i := fun c i a b => hf c i (by omega) (by omega) (by omega)
  refine ⟨by rw [f9 18 (by omega)]; exact h.now, fun j a b => by rw [hf 121 j (by omega) (by omega) (by omega)]; exact h.rs j a b, by rw [f9 53 (by omega)]; exact h.inp, fun q => ?_, fun q => ?_, fun q => ?_⟩
  · rw [f9 19 (by omega)] at q
    obtain ⟨Γ, N, dn, t⟩ := h.txt q
    have := h.now
    rw [f9 18 (by omega)]
    exact ⟨Γ, N, dn, t.same (g := 1 - μ 109 18) (fun c j z _ => hf c j (by omega) (by omega) (by omega)) ⟨by omega, h.now, by omega⟩⟩
  · rw [f9 72 (by omega)] at q
    rw [f9 69 (by omega), f9 71 (by omega)]
    exact (h.low q).same sm
  · rw [f9 73 (by omega)] at q
    rw [f9 70 (by omega), f9 71 (by omega)]
    refine ⟨(h.imp q).1.same sm, fun i x y => ?_⟩
    have := (h.imp q).2 i x y
    unfold mRs mUA mUB mDf at this ⊢
    have u175 : ∀ j, μ' 175 j = μ 175 j := fun j => hf 175 j (by omega) (by decide) (by omega)
    simp only [sm 145 _ (by decide) (by decide), sm 146 _ (by decide) (by decide), sm 147 _ (by decide) (by decide), sm 148 _ (by decide) (by decide), sm 149 _ (by decide) (by decide), sm 150 _ (by decide) (by decide), u175]
    exact this
theorem c_mM_run {mode f : Int} (h : rnI μ) (hp0 : 0 ≤ μ 109 56 ∧ μ 109 56 ≤ 300) (hP : ∀ r μ', fRun μ μ' → 0 ≤ μ' 109 56 → μ' 109 56 ≤ 300 → P r μ') : jj_mM_run X (d + 3) 0 (ab_la [109, mode, f]) [] μ P := by
  have la0 : (ab_la [109, mode, f]) 0 = 109 := rfl
  have la1 : (ab_la [109, mode, f]) 1 = mode := rfl
  have la2 : (ab_la [109, mode, f]) 2 = f := rfl
  have s93 : ∀ (s1 : Int) (μ1 : ab_m), (s1 = 0 ∨ s1 = 1) → (s1 = 1 → mode = 3) → 0 ≤ mode → mode ≤ 3 → 0 ≤ f → f ≤ 100000 → (mode = 0 → μ 109 19 ≠ 0) → (mode = 1 → μ 109 72 ≠ 0) → (2 ≤ mode → μ 109 73 ≠ 0) → fRun μ μ1 → μ1 109 54 = 0 → μ1 109 56 = 0 → μ1 109 57 = 0 → jj_mM_run X (d + 3) 93 (ab_la [109, mode, f]) [(0, s1), (2, 109)] μ1 P := by
    intro s1 μ1 s01 s3 m0 m3 f0 f1 a0 a1 a2 fr t0 p0 u0
    refine bk_mM_run_93 la0 ⟨by omega, fun μ2 e2 => ?_⟩
    rw [la1, la2]
    have fr2 : fRun μ μ2 := by rw [e2]; exact fr.mu (by decide)
    have g : ∀ c j, ¬ (c = 109 ∧ j = 110) → μ2 c j = μ1 c j := fun c j z => by rw [e2, ab_mud, if_neg z]
    have e110 : μ2 109 110 = s1 := by rw [e2, ab_mud, if_pos ⟨rfl, rfl⟩]
    have r2 := h.same fr2
    have f9 : ∀ j, ¬ (j = 0 ∨ j = 54 ∨ j = 56 ∨ j = 57 ∨ j = 110) → μ2 109 j = μ 109 j := fun j z => fr2 109 j (by omega) (by omega) (fun y => z y.2)
    have rw2 : mRw μ2 := ⟨r2.now, fun j a b => (r2.rs j a b).2⟩
    refine ⟨fun n0 => ⟨fun n1 => ?_, fun e1 => ?_⟩, fun e0 => ?_⟩
    · obtain ⟨w1, w2⟩ := r2.imp (by rw [f9 73 (by omega)]; exact a2 (by omega))
      exact c_mM_runCode (Or.inr rfl) ⟨w1, fun _ => w2, rw2, r2.inp⟩ ⟨f0, f1⟩ (by rw [g 109 57 (by omega)]; exact u0) (by rw [g 109 54 (by omega)]; exact t0) (by rw [g 109 56 (by omega)]; exact p0) fun r μ' fr' q1 q2 => hP r μ' (fr2.trans fr') q1 q2
    · have w1 := r2.low (by rw [f9 72 (by omega)]; exact a1 e1)
      exact c_mM_runCode (Or.inl rfl) ⟨w1, fun z => by rw [e110] at z; omega, rw2, r2.inp⟩ ⟨f0, f1⟩ (by rw [g 109 57 (by omega)]; exact u0) (by rw [g 109 54 (by omega)]; exact t0) (by rw [g 109 56 (by omega)]; exact p0) fun r μ' fr' q1 q2 => hP r μ' (fr2.trans fr') q1 q2
    · obtain ⟨Γ, N, dn, t⟩ := r2.txt (by rw [f9 19 (by omega)]; exact a0 e0)
      exact c_mM_runText t rfl r2.now r2.rs r2.inp ⟨f0, f1⟩ (by rw [g 109 57 (by omega)]; exact u0) (by rw [g 109 54 (by omega)]; exact t0) (by rw [g 109 56 (by omega)]; exact p0) fun r μ' hC => hP r μ' (fr2.trans fun c i z1 _ z3 => hC.fr c i (by omega) (fun y => z3 (by omega))) hC.pr.1 hC.pr.2
  have s66 : ∀ s1 : Int, (s1 ≤ 0 → s1 = 0 ∧ 0 ≤ mode ∧ mode ≤ 3 ∧ 0 ≤ f ∧ f ≤ 100000 ∧ (mode = 0 → μ 109 19 ≠ 0) ∧ (mode = 1 → μ 109 72 ≠ 0) ∧ (2 ≤ mode → μ 109 73 ≠ 0)) → jj_mM_run X (d + 3) 66 (ab_la [109, mode, f]) [(0, s1), (2, 109)] μ P := by
    intro s1 hs
    refine bk_mM_run_66 la0 fun μ1 e1 => ?_
    have e0 : μ1 109 0 = s1 := by rw [e1, ab_mud, if_pos ⟨rfl, rfl⟩]
    have fr1 : fRun μ μ1 := by rw [e1]; exact fRun.rf.mu (by decide)
    rw [e0, la1]
    refine ⟨fun z => ?_, fun z => hP _ _ fr1 (by rw [e1, ab_mud, if_neg (by omega)]; exact hp0.1) (by rw [e1, ab_mud, if_neg (by omega)]; exact hp0.2)⟩
    obtain ⟨-, m0, m3, f0, f1, a0, a1, a2⟩ := hs z
    refine c_mM_beginRun fun μ2 f2 t0 p0 u0 => ?_
    have fr2 : fRun μ μ2 := fr1.trans fun c i z1 z2 z3 => f2 c i (by omega) (fun y => z3 (by omega))
    exact ⟨fun z => s93 0 μ2 (Or.inl rfl) (fun y => absurd y (by decide)) m0 m3 f0 f1 a0 a1 a2 fr2 t0 p0 u0, fun z => s93 1 μ2 (Or.inr rfl) (fun _ => z) m0 m3 f0 f1 a0 a1 a2 fr2 t0 p0 u0⟩
  refine bk_mM_run_0 la0 ?_
  rw [la1, la2]
  refine ⟨fun z => s66 1 fun y => absurd y (by decide), fun z => ⟨fun z2 => s66 1 fun y => absurd y (by decide), fun z2 => ⟨fun z3 => s66 1 fun y => absurd y (by decide), fun z3 => ⟨fun z4 => ⟨fun z5 => ⟨fun z6 => ⟨fun z7 => s66 0 fun _ => ⟨rfl, by omega, by omega, by omega, by omega, by omega, by omega, fun _ => z7⟩, fun z7 => s66 2 fun y => absurd y (by decide)⟩, fun z6 => ⟨fun z7 => s66 2 fun y => absurd y (by decide), fun z7 => s66 0 fun _ => ⟨rfl, by omega, by omega, by omega, by omega, by omega, fun _ => z7, by omega⟩⟩⟩, fun z5 => ⟨fun z6 => s66 2 fun y => absurd y (by decide), fun z6 => s66 0 fun _ => ⟨rfl, by omega, by omega, by omega, by omega, fun _ => z6, by omega, by omega⟩⟩⟩, fun z4 => s66 1 fun y => absurd y (by decide)⟩⟩⟩⟩
end M76

/-! THE REFERENCE, part 77: what lower keeps -/
section M77
variable {μ μ' : ab_m} {w w' : Int → Int} {O : List Int} {dp m x k o y j a : Int} {U U' : Int → Prop}
def lR (μ : ab_m) (r : Int) : Prop := 0 ≤ r ∧ r < μ 109 71
/-- entry j, from below, of what is open -/
def lAt : List Int → Int → Int → Prop
  | [], _, _ => False
  | a :: r, j, b => (j = r.length ∧ b = a) ∨ lAt r j b
theorem lAt.lt : ∀ {O : List Int} {j b : Int}, lAt O j b → 0 ≤ j ∧ j < O.length
  | [], _, _, h => h.elim
  | a :: r, j, b, h => by
    have l : ((a :: r).length : Int) = r.length + 1 := by simp
    rcases h with ⟨h, -⟩ | h
    · omega
    · have := h.lt; omega
theorem lAt.uq : ∀ {O : List Int} {j b b' : Int}, lAt O j b → lAt O j b' → b = b'
  | [], _, _, _, h, _ => h.elim
  | a :: r, j, b, b', h, h' => by
    rcases h with ⟨h, e⟩ | h
    · rcases h' with ⟨-, e'⟩ | h'
      · rw [e, e']
      · have := h'.lt; omega
    · rcases h' with ⟨z, e'⟩ | h'
      · have := h.lt; omega
      · exact h.uq h'
/-- who waits for instruction i: 0 nobody, 2 j + 1 or 2 j + 2 entry j, -1 - i frame i, 100000 the method at hand -/
def lNo (w : Int → Int) (o : Int) : Prop := ∀ i, w i ≠ o
def lSg (w : Int → Int) (o y : Int) : Prop := ∀ i, w i = o ↔ i = y
def lC (μ : ab_m) (w : Int → Int) (o y : Int) : Prop := ∃ L, mDc μ L y ∧ ∀ i, w i = o ↔ i ∈ L
def lE (μ : ab_m) (w : Int → Int) (j a : Int) : Prop := lC μ w (2 * j + 2) (μ 157 j) ∧ ((a = 1 ∧ μ 154 j = 6 ∧ lR μ (μ 155 j) ∧ lNo w (2 * j + 1) ∧ μ 157 j = -1) ∨ (a = 2 ∧ μ 154 j = 6 ∧ lR μ (μ 155 j) ∧ lSg w (2 * j + 1) (μ 156 j) ∧ μ 157 j = -1) ∨ (a = 3 ∧ μ 154 j = 19 ∧ (0 ≤ μ 155 j ∧ μ 155 j ≤ μ 109 69) ∧ lNo w (2 * j + 1)) ∨ (a = 4 ∧ μ 154 j = 19 ∧ (0 ≤ μ 155 j ∧ μ 155 j ≤ μ 109 69) ∧ lSg w (2 * j + 1) (μ 156 j)) ∨ (a = 5 ∧ μ 154 j = 21 ∧ (0 ≤ μ 155 j ∧ μ 155 j ≤ μ 109 69) ∧ lC μ w (2 * j + 1) (μ 156 j)) ∨ (a = 6 ∧ μ 154 j = 21 ∧ (0 ≤ μ 155 j ∧ μ 155 j ≤ μ 109 69) ∧ lNo w (2 * j + 1)) ∨ (a = 7 ∧ μ 154 j = 15 ∧ lSg w (2 * j + 1) (μ 155 j) ∧ μ 157 j = -1))
def lF (μ : ab_m) (w : Int → Int) (i : Int) : Prop := lR μ (μ 158 i) ∧ lC μ w (-1 - i) (μ 160 i)
end M77
/-- instruction i, o who waits for it -/
def lI (μ : ab_m) (o i : Int) : Prop := (0 ≤ μ 145 i ∧ μ 145 i ≤ 28) ∧ (mUA μ i → lR μ (μ 147 i)) ∧ (mUB μ i → lR μ (μ 148 i)) ∧ ((μ 145 i ≤ 21 ∨ μ 145 i = 23) → lR μ (μ 146 i)) ∧ ((μ 145 i = 25 ∨ μ 145 i = 26 ∨ μ 145 i = 27) → o ≠ 0 ∨ (0 ≤ μ 146 i ∧ μ 146 i ≤ μ 109 69)) ∧ (μ 145 i = 21 → 0 ≤ μ 148 i ∧ μ 148 i < 8) ∧ (μ 145 i = 22 → 0 ≤ μ 146 i ∧ μ 146 i < 8) ∧ ((μ 145 i = 1 → μ 149 i = 0) ∧ (μ 145 i = 0 → μ 149 i ≠ 0))
theorem lI.k {μ : ab_m} {o i : Int} (h'' : lI μ o i) : 0 ≤ μ 145 i ∧ μ 145 i ≤ 28 := h''.1
theorem lI.ua {μ : ab_m} {o i : Int} (h'' : lI μ o i) : mUA μ i → lR μ (μ 147 i) := h''.2.1
theorem lI.ub {μ : ab_m} {o i : Int} (h'' : lI μ o i) : mUB μ i → lR μ (μ 148 i) := h''.2.2.1
theorem lI.d {μ : ab_m} {o i : Int} (h'' : lI μ o i) : (μ 145 i ≤ 21 ∨ μ 145 i = 23) → lR μ (μ 146 i) := h''.2.2.2.1
theorem lI.l {μ : ab_m} {o i : Int} (h'' : lI μ o i) : (μ 145 i = 25 ∨ μ 145 i = 26 ∨ μ 145 i = 27) → o ≠ 0 ∨ (0 ≤ μ 146 i ∧ μ 146 i ≤ μ 109 69) := h''.2.2.2.2.1
theorem lI.r1 {μ : ab_m} {o i : Int} (h'' : lI μ o i) : μ 145 i = 21 → 0 ≤ μ 148 i ∧ μ 148 i < 8 := h''.2.2.2.2.2.1
theorem lI.r2 {μ : ab_m} {o i : Int} (h'' : lI μ o i) : μ 145 i = 22 → 0 ≤ μ 146 i ∧ μ 146 i < 8 := h''.2.2.2.2.2.2.1
theorem lI.c {μ : ab_m} {o i : Int} (h'' : lI μ o i) : (μ 145 i = 1 → μ 149 i = 0) ∧ (μ 145 i = 0 → μ 149 i ≠ 0) := h''.2.2.2.2.2.2.2
section M77
variable {μ μ' : ab_m} {w w' : Int → Int} {O : List Int} {dp m x k o y j a : Int} {U U' : Int → Prop}
end M77
def lJ (μ : ab_m) (w : Int → Int) (k dp x : Int) : Prop := (∀ i, 0 ≤ i → i < μ 109 69 → lI μ (w i) i) ∧ (∀ i, w i ≠ 0 → (0 ≤ i ∧ i < μ 109 69) ∧ (μ 145 i = 25 ∨ μ 145 i = 26 ∨ μ 145 i = 27) ∧ ((1 ≤ w i ∧ w i ≤ 2 * k) ∨ (-dp ≤ w i ∧ w i ≤ -1) ∨ w i = 100000)) ∧ (∀ i, w i = 100000 → i = x) ∧ (0 ≤ x → w x = 100000)
theorem lJ.i {μ : ab_m} {w : Int → Int} {k dp x : Int} (h'' : lJ μ w k dp x) : ∀ i, 0 ≤ i → i < μ 109 69 → lI μ (w i) i := h''.1
theorem lJ.ow {μ : ab_m} {w : Int → Int} {k dp x : Int} (h'' : lJ μ w k dp x) : ∀ i, w i ≠ 0 → (0 ≤ i ∧ i < μ 109 69) ∧ (μ 145 i = 25 ∨ μ 145 i = 26 ∨ μ 145 i = 27) ∧ ((1 ≤ w i ∧ w i ≤ 2 * k) ∨ (-dp ≤ w i ∧ w i ≤ -1) ∨ w i = 100000) := h''.2.1
theorem lJ.fx {μ : ab_m} {w : Int → Int} {k dp x : Int} (h'' : lJ μ w k dp x) : ∀ i, w i = 100000 → i = x := h''.2.2.1
theorem lJ.f0 {μ : ab_m} {w : Int → Int} {k dp x : Int} (h'' : lJ μ w k dp x) : 0 ≤ x → w x = 100000 := h''.2.2.2
section M77
variable {μ μ' : ab_m} {w w' : Int → Int} {O : List Int} {dp m x k o y j a : Int} {U U' : Int → Prop}
/-- an operand: a register, or a number -/
def lOp (μ : ab_m) (j : Int) : Prop := (μ 152 j = 0 ∧ lR μ (μ 153 j)) ∨ μ 152 j = 1
end M77
def lQ (μ : ab_m) (w : Int → Int) (O : List Int) (dp m x : Int) (U : Int → Prop) : Prop := (lJ μ w O.length dp x) ∧ (((O.length : Int) ≤ 3010) ∧ 0 ≤ dp ∧ dp ≤ 20) ∧ (∀ j, 0 ≤ j → j < m → lOp μ j) ∧ (∀ j a, lAt O j a → lE μ w j a) ∧ (∀ i, 0 ≤ i → i < dp → lF μ w i) ∧ (∀ y, U y → lR μ (μ 151 y))
theorem lQ.j {μ : ab_m} {w : Int → Int} {O : List Int} {dp m x : Int} {U : Int → Prop} (h'' : lQ μ w O dp m x U) : lJ μ w O.length dp x := h''.1
theorem lQ.b {μ : ab_m} {w : Int → Int} {O : List Int} {dp m x : Int} {U : Int → Prop} (h'' : lQ μ w O dp m x U) : ((O.length : Int) ≤ 3010) ∧ 0 ≤ dp ∧ dp ≤ 20 := h''.2.1
theorem lQ.o {μ : ab_m} {w : Int → Int} {O : List Int} {dp m x : Int} {U : Int → Prop} (h'' : lQ μ w O dp m x U) : ∀ j, 0 ≤ j → j < m → lOp μ j := h''.2.2.1
theorem lQ.e {μ : ab_m} {w : Int → Int} {O : List Int} {dp m x : Int} {U : Int → Prop} (h'' : lQ μ w O dp m x U) : ∀ j a, lAt O j a → lE μ w j a := h''.2.2.2.1
theorem lQ.f {μ : ab_m} {w : Int → Int} {O : List Int} {dp m x : Int} {U : Int → Prop} (h'' : lQ μ w O dp m x U) : ∀ i, 0 ≤ i → i < dp → lF μ w i := h''.2.2.2.2.1
theorem lQ.u {μ : ab_m} {w : Int → Int} {O : List Int} {dp m x : Int} {U : Int → Prop} (h'' : lQ μ w O dp m x U) : ∀ y, U y → lR μ (μ 151 y) := h''.2.2.2.2.2
section M77
variable {μ μ' : ab_m} {w w' : Int → Int} {O : List Int} {dp m x k o y j a : Int} {U U' : Int → Prop}
theorem lR.le {r : Int} (h : lR μ r) (e : μ 109 71 ≤ μ' 109 71) : lR μ' r := ⟨h.1, by have := h.2; omega⟩
theorem lOp.le (h : lOp μ j) (e : μ 109 71 ≤ μ' 109 71) (f1 : μ' 152 j = μ 152 j) (f2 : μ' 153 j = μ 153 j) : lOp μ' j := by
  unfold lOp
  rw [f1, f2]
  exact h.imp (fun z => ⟨z.1, z.2.le e⟩) fun z => z
theorem lOp.r (h : lOp μ j) (z : μ 152 j % 2 = 0) : lR μ (μ 153 j) := by
  rcases h with h | h
  · exact h.2
  · rw [h] at z; exact absurd z (by decide)
end M77
/-- all that others wait for stays -/
def lT (μ μ' : ab_m) (w w' : Int → Int) (o : Int) : Prop := (μ 109 69 ≤ μ' 109 69) ∧ (μ 109 71 ≤ μ' 109 71) ∧ (∀ o', o' ≠ 0 → o' ≠ 100000 → o' ≠ o → ∀ i, (w' i = o' ↔ w i = o') ∧ (w i = o' → μ' 146 i = μ 146 i))
theorem lT.n {μ μ' : ab_m} {w w' : Int → Int} {o : Int} (h'' : lT μ μ' w w' o) : μ 109 69 ≤ μ' 109 69 := h''.1
theorem lT.r {μ μ' : ab_m} {w w' : Int → Int} {o : Int} (h'' : lT μ μ' w w' o) : μ 109 71 ≤ μ' 109 71 := h''.2.1
theorem lT.s {μ μ' : ab_m} {w w' : Int → Int} {o : Int} (h'' : lT μ μ' w w' o) : ∀ o', o' ≠ 0 → o' ≠ 100000 → o' ≠ o → ∀ i, (w' i = o' ↔ w i = o') ∧ (w i = o' → μ' 146 i = μ 146 i) := h''.2.2
section M77
variable {μ μ' : ab_m} {w w' : Int → Int} {O : List Int} {dp m x k o y j a : Int} {U U' : Int → Prop}
theorem lC.tr {o' : Int} (h : lC μ w o' y) (t : lT μ μ' w w' o) (h0 : o' ≠ 0) (h1 : o' ≠ 100000) (h2 : o' ≠ o) : lC μ' w' o' y := by
  obtain ⟨L, l1, l2⟩ := h
  have s := t.s o' h0 h1 h2
  exact ⟨L, l1.same fun z hz => (s z).2 ((l2 z).mpr hz), fun i => (s i).1.trans (l2 i)⟩
theorem lNo.tr {o' : Int} (h : lNo w o') (t : lT μ μ' w w' o) (h0 : o' ≠ 0) (h1 : o' ≠ 100000) (h2 : o' ≠ o) : lNo w' o' := fun i z => h i (((t.s o' h0 h1 h2 i).1).mp z)
theorem lSg.tr {o' : Int} (h : lSg w o' y) (t : lT μ μ' w w' o) (h0 : o' ≠ 0) (h1 : o' ≠ 100000) (h2 : o' ≠ o) : lSg w' o' y := fun i => ((t.s o' h0 h1 h2 i).1).trans (h i)
theorem lE.tr (h : lE μ w j a) (t : lT μ μ' w w' o) (h1 : o ≠ 2 * j + 1) (h2 : o ≠ 2 * j + 2) (hj : 0 ≤ j ∧ j < 3010) (f : ∀ c, 154 ≤ c → c ≤ 157 → μ' c j = μ c j) : lE μ' w' j a := by
  have n := t.n
  have e1 := f 154 (by decide) (by decide)
  have e2 := f 155 (by decide) (by decide)
  have e3 := f 156 (by decide) (by decide)
  have e4 := f 157 (by decide) (by decide)
  obtain ⟨c, h⟩ := h
  unfold lE
  rw [e1, e2, e3, e4]
  refine ⟨c.tr t (by omega) (by omega) (by omega), ?_⟩
  rcases h with ⟨q1, q2, q3, q4, q5⟩ | ⟨q1, q2, q3, q4, q5⟩ | ⟨q1, q2, q3, q4⟩ | ⟨q1, q2, q3, q4⟩ | ⟨q1, q2, q3, q4⟩ | ⟨q1, q2, q3, q4⟩ | ⟨q1, q2, q3, q4⟩
  · exact Or.inl ⟨q1, q2, q3.le t.r, q4.tr t (by omega) (by omega) (by omega), q5⟩
  · exact Or.inr (Or.inl ⟨q1, q2, q3.le t.r, q4.tr t (by omega) (by omega) (by omega), q5⟩)
  · exact Or.inr (Or.inr (Or.inl ⟨q1, q2, by omega, q4.tr t (by omega) (by omega) (by omega)⟩))
  · exact Or.inr (Or.inr (Or.inr (Or.inl ⟨q1, q2, by omega, q4.tr t (by omega) (by omega) (by omega)⟩)))
  · exact Or.inr (Or.inr (Or.inr (Or.inr (Or.inl ⟨q1, q2, by omega, q4.tr t (by omega) (by omega) (by omega)⟩))))
  · exact Or.inr (Or.inr (Or.inr (Or.inr (Or.inr (Or.inl ⟨q1, q2, by omega, q4.tr t (by omega) (by omega) (by omega)⟩)))))
  · exact Or.inr (Or.inr (Or.inr (Or.inr (Or.inr (Or.inr ⟨q1, q2, q3.tr t (by omega) (by omega) (by omega), q4⟩)))))
theorem lE.g1 (h : lE μ w j 1) : μ 154 j = 6 ∧ lR μ (μ 155 j) ∧ lNo w (2 * j + 1) ∧ μ 157 j = -1 := by
  rcases h.2 with q | q | q | q | q | q | q
  · exact q.2
  · exact absurd q.1 (by decide)
  · exact absurd q.1 (by decide)
  · exact absurd q.1 (by decide)
  · exact absurd q.1 (by decide)
  · exact absurd q.1 (by decide)
  · exact absurd q.1 (by decide)
theorem lE.g2 (h : lE μ w j 2) : μ 154 j = 6 ∧ lR μ (μ 155 j) ∧ lSg w (2 * j + 1) (μ 156 j) ∧ μ 157 j = -1 := by
  rcases h.2 with q | q | q | q | q | q | q
  · exact absurd q.1 (by decide)
  · exact q.2
  · exact absurd q.1 (by decide)
  · exact absurd q.1 (by decide)
  · exact absurd q.1 (by decide)
  · exact absurd q.1 (by decide)
  · exact absurd q.1 (by decide)
theorem lE.g3 (h : lE μ w j 3) : μ 154 j = 19 ∧ (0 ≤ μ 155 j ∧ μ 155 j ≤ μ 109 69) ∧ lNo w (2 * j + 1) := by
  rcases h.2 with q | q | q | q | q | q | q
  · exact absurd q.1 (by decide)
  · exact absurd q.1 (by decide)
  · exact q.2
  · exact absurd q.1 (by decide)
  · exact absurd q.1 (by decide)
  · exact absurd q.1 (by decide)
  · exact absurd q.1 (by decide)
theorem lE.g4 (h : lE μ w j 4) : μ 154 j = 19 ∧ (0 ≤ μ 155 j ∧ μ 155 j ≤ μ 109 69) ∧ lSg w (2 * j + 1) (μ 156 j) := by
  rcases h.2 with q | q | q | q | q | q | q
  · exact absurd q.1 (by decide)
  · exact absurd q.1 (by decide)
  · exact absurd q.1 (by decide)
  · exact q.2
  · exact absurd q.1 (by decide)
  · exact absurd q.1 (by decide)
  · exact absurd q.1 (by decide)
theorem lE.g5 (h : lE μ w j 5) : μ 154 j = 21 ∧ (0 ≤ μ 155 j ∧ μ 155 j ≤ μ 109 69) ∧ lC μ w (2 * j + 1) (μ 156 j) := by
  rcases h.2 with q | q | q | q | q | q | q
  · exact absurd q.1 (by decide)
  · exact absurd q.1 (by decide)
  · exact absurd q.1 (by decide)
  · exact absurd q.1 (by decide)
  · exact q.2
  · exact absurd q.1 (by decide)
  · exact absurd q.1 (by decide)
theorem lE.g6 (h : lE μ w j 6) : μ 154 j = 21 ∧ (0 ≤ μ 155 j ∧ μ 155 j ≤ μ 109 69) ∧ lNo w (2 * j + 1) := by
  rcases h.2 with q | q | q | q | q | q | q
  · exact absurd q.1 (by decide)
  · exact absurd q.1 (by decide)
  · exact absurd q.1 (by decide)
  · exact absurd q.1 (by decide)
  · exact absurd q.1 (by decide)
  · exact q.2
  · exact absurd q.1 (by decide)
theorem lE.g7 (h : lE μ w j 7) : μ 154 j = 15 ∧ lSg w (2 * j + 1) (μ 155 j) ∧ μ 157 j = -1 := by
  rcases h.2 with q | q | q | q | q | q | q
  · exact absurd q.1 (by decide)
  · exact absurd q.1 (by decide)
  · exact absurd q.1 (by decide)
  · exact absurd q.1 (by decide)
  · exact absurd q.1 (by decide)
  · exact absurd q.1 (by decide)
  · exact q.2
theorem lF.tr {i : Int} (h : lF μ w i) (t : lT μ μ' w w' o) (h1 : o ≠ -1 - i) (hj : 0 ≤ i ∧ i < 20) (f1 : μ' 158 i = μ 158 i) (f2 : μ' 160 i = μ 160 i) : lF μ' w' i := by
  unfold lF
  rw [f1, f2]
  exact ⟨h.1.le t.r, h.2.tr t (by omega) (by omega) (by omega)⟩
theorem lI.same {o' i : Int} (h : lI μ o i) (f : ∀ c, 145 ≤ c → c ≤ 150 → μ' c i = μ c i) (n : μ 109 69 ≤ μ' 109 69) (r : μ 109 71 ≤ μ' 109 71) (ho : o ≠ 0 → o' ≠ 0) : lI μ' o' i := by
  have e5 := f 145 (by decide) (by decide)
  have e6 := f 146 (by decide) (by decide)
  have e7 := f 147 (by decide) (by decide)
  have e8 := f 148 (by decide) (by decide)
  have e9 := f 149 (by decide) (by decide)
  have e0 := f 150 (by decide) (by decide)
  obtain ⟨h1, h2, h3, h4, h5, h6, h7, h8⟩ := h
  unfold mUA at h2
  unfold mUB at h3
  refine ⟨by rw [e5]; exact h1, fun q => ?_, fun q => ?_, fun q => ?_, fun q => ?_, fun q => ?_, fun q => ?_, ?_⟩
  · unfold mUA at q; rw [e5, e9] at q; rw [e7]; exact (h2 q).le r
  · unfold mUB at q; rw [e5, e0] at q; rw [e8]; exact (h3 q).le r
  · rw [e5] at q; rw [e6]; exact (h4 q).le r
  · rw [e5] at q; rw [e6]
    rcases h5 q with z | z
    · exact Or.inl (ho z)
    · exact Or.inr (by omega)
  · rw [e5] at q; rw [e8]; exact h6 q
  · rw [e5] at q; rw [e6]; exact h7 q
  · rw [e5, e9]; exact h8
/-- the memory of instructions stays, registers may grow -/
theorem lJ.up {k' dp' : Int} (h : lJ μ w k dp x) (f : ∀ c i, 145 ≤ c → c ≤ 150 → μ' c i = μ c i) (n : μ' 109 69 = μ 109 69) (r : μ 109 71 ≤ μ' 109 71) (hk : k ≤ k') (hd : dp ≤ dp') : lJ μ' w k' dp' x := by
  refine ⟨fun i a b => ?_, fun i z => ?_, h.fx, h.f0⟩
  · rw [n] at b; exact (h.i i a b).same (fun c a b => f c i a b) (by omega) r (fun z => z)
  · obtain ⟨w1, w2, w3⟩ := h.ow i z
    rw [n, f 145 i (by decide) (by decide)]
    exact ⟨w1, w2, by omega⟩
theorem lJ.wn {i : Int} (h : lJ μ w k dp x) (b : μ 109 69 ≤ i) : w i = 0 := by
  by_cases z : w i = 0
  · exact z
  · have := h.ow i z; omega
theorem lJ.em {kk t a ia b ib : Int} (h : lJ μ w k dp x) (e : mEm μ μ' kk t a ia b ib) (c : lI μ' 0 (μ 109 69)) : lJ μ' w k dp x := by
  obtain ⟨e0, e1, -⟩ := e
  have r : μ' 109 71 = μ 109 71 := e0 109 71 (by omega) (by omega)
  refine ⟨fun i a b => ?_, fun i z => ?_, h.fx, h.f0⟩
  · by_cases q : i = μ 109 69
    · subst q; rw [h.wn (Int.le_refl _)]; exact c
    · exact (h.i i a (by omega)).same (fun c a b => e0 c i (by omega) (by omega)) (by omega) (by omega) (fun z => z)
  · obtain ⟨w1, w2, w3⟩ := h.ow i z
    rw [e0 145 i (by omega) (by omega)]
    exact ⟨by omega, w2, w3⟩
theorem lJ.emP {kk t a ia b ib : Int} (h : lJ μ w k dp (-1)) (e : mEm μ μ' kk t a ia b ib) (n0 : 0 ≤ μ 109 69) (c : lI μ' 1 (μ 109 69)) (lp : kk = 25 ∨ kk = 26 ∨ kk = 27) : lJ μ' (lUp w (μ 109 69) 100000) k dp (μ 109 69) := by
  obtain ⟨e0, e1, e2, -⟩ := e
  have r : μ' 109 71 = μ 109 71 := e0 109 71 (by omega) (by omega)
  refine ⟨fun i a b => ?_, fun i z => ?_, fun i z => ?_, fun _ => by unfold lUp; rw [if_pos rfl]⟩
  · unfold lUp
    by_cases q : i = μ 109 69
    · subst q; rw [if_pos rfl]; exact ⟨c.k, c.ua, c.ub, c.d, fun _ => Or.inl (by decide), c.r1, c.r2, c.c⟩
    · rw [if_neg q]; exact (h.i i a (by omega)).same (fun c a b => e0 c i (by omega) (by omega)) (by omega) (by omega) (fun z => z)
  · unfold lUp at z ⊢
    by_cases q : i = μ 109 69
    · subst q; rw [if_pos rfl, e2]; exact ⟨by omega, lp, Or.inr (Or.inr rfl)⟩
    · rw [if_neg q] at z ⊢
      obtain ⟨w1, w2, w3⟩ := h.ow i z
      rw [e0 145 i (by omega) (by omega)]
      exact ⟨by omega, w2, w3⟩
  · unfold lUp at z
    by_cases q : i = μ 109 69
    · exact q
    · rw [if_neg q] at z
      have := h.fx i z
      have := (h.ow i (by omega)).1
      omega
theorem lT.em {kk t a ia b ib : Int} (h : lJ μ w k dp x) (e : mEm μ μ' kk t a ia b ib) : lT μ μ' w w 0 := by
  obtain ⟨e0, e1, -⟩ := e
  have r : μ' 109 71 = μ 109 71 := e0 109 71 (by omega) (by omega)
  exact ⟨by omega, by omega, fun o' z1 z2 z3 i => ⟨Iff.rfl, fun z => e0 146 i (by have := (h.ow i (by omega)).1; omega) (by omega)⟩⟩
theorem lT.emP {kk t a ia b ib : Int} (h : lJ μ w k dp x) (e : mEm μ μ' kk t a ia b ib) : lT μ μ' w (lUp w (μ 109 69) 100000) 0 := by
  obtain ⟨e0, e1, -⟩ := e
  have r : μ' 109 71 = μ 109 71 := e0 109 71 (by omega) (by omega)
  refine ⟨by omega, by omega, fun o' z1 z2 z3 i => ⟨?_, fun z => e0 146 i (by have := (h.ow i (by omega)).1; omega) (by omega)⟩⟩
  unfold lUp
  by_cases q : i = μ 109 69
  · subst q; rw [if_pos rfl, h.wn (Int.le_refl _)]; omega
  · rw [if_neg q]
theorem lT.up (n : μ 109 69 ≤ μ' 109 69) (r : μ 109 71 ≤ μ' 109 71) (f : ∀ i, μ' 146 i = μ 146 i) : lT μ μ' w w 0 := ⟨n, r, fun _ _ _ _ i => ⟨Iff.rfl, fun _ => f i⟩⟩
/-- what o waits for is told that it goes here -/
theorem lJ.land (h : lJ μ w k dp x) (f : ∀ c i, 145 ≤ c → c ≤ 150 → ¬ (c = 146 ∧ w i = o) → μ' c i = μ c i) (n : μ' 109 69 = μ 109 69) (r : μ' 109 71 = μ 109 71) (g : ∀ i, w i = o → μ' 146 i = μ 109 69) (o0 : o ≠ 0) (o1 : o ≠ 100000) : lJ μ' (lLd w o) k dp x := by
  refine ⟨fun i a b => ?_, fun i z => ?_, fun i z => ?_, fun z => ?_⟩
  · rw [n] at b
    have hi := h.i i a b
    unfold lLd
    by_cases q : w i = o
    · rw [if_pos q]
      have hl := (h.ow i (by omega)).2.1
      have f' : ∀ c, 145 ≤ c → c ≤ 150 → c ≠ 146 → μ' c i = μ c i := fun c a b z => f c i a b (by omega)
      have e5 := f' 145 (by decide) (by decide) (by decide)
      have e7 := f' 147 (by decide) (by decide) (by decide)
      have e8 := f' 148 (by decide) (by decide) (by decide)
      have e9 := f' 149 (by decide) (by decide) (by decide)
      have e0 := f' 150 (by decide) (by decide) (by decide)
      obtain ⟨h1, h2, h3, h4, h5, h6, h7, h8⟩ := hi
      unfold mUA at h2
      unfold mUB at h3
      refine ⟨by rw [e5]; exact h1, fun q => ?_, fun q => ?_, fun q => ?_, fun q' => ?_, fun q => ?_, fun q => ?_, ?_⟩
      · unfold mUA at q; rw [e5, e9] at q; rw [e7]; exact (h2 q).le (Int.le_of_eq r.symm)
      · unfold mUB at q; rw [e5, e0] at q; rw [e8]; exact (h3 q).le (Int.le_of_eq r.symm)
      · rw [e5] at q; clear h2 h3 h4 h5 h6 h7 h8; omega
      · rw [g i q, n]; clear h2 h3 h4 h5 h6 h7 h8; exact Or.inr ⟨by omega, Int.le_refl _⟩
      · rw [e5] at q; clear h2 h3 h4 h5 h6 h7 h8; omega
      · rw [e5] at q; clear h2 h3 h4 h5 h6 h7 h8; omega
      · rw [e5, e9]; exact h8
    · rw [if_neg q]; exact hi.same (fun c a b => f c i a b (fun z => q z.2)) (by omega) (by omega) (fun z => z)
  · unfold lLd at z ⊢
    by_cases q : w i = o
    · rw [if_pos q] at z; exact absurd rfl z
    · rw [if_neg q] at z ⊢
      obtain ⟨w1, w2, w3⟩ := h.ow i z
      rw [n, f 145 i (by decide) (by decide) (by omega)]
      exact ⟨w1, w2, w3⟩
  · unfold lLd at z
    by_cases q : w i = o
    · rw [if_pos q] at z; omega
    · rw [if_neg q] at z; exact h.fx i z
  · unfold lLd
    have := h.f0 z
    rw [if_neg (by omega)]
    exact this
theorem lT.land (f : ∀ i, ¬ w i = o → μ' 146 i = μ 146 i) (n : μ' 109 69 = μ 109 69) (r : μ' 109 71 = μ 109 71) : lT μ μ' w (lLd w o) o := by
  refine ⟨by omega, by omega, fun o' z1 z2 z3 i => ⟨?_, fun z => f i (by omega)⟩⟩
  unfold lLd
  by_cases q : w i = o
  · rw [if_pos q]; omega
  · rw [if_neg q]
theorem lLd_no (o0 : o ≠ 0) : lNo (lLd w o) o := fun i z => by
  unfold lLd at z
  by_cases q : w i = o
  · rw [if_pos q] at z; omega
  · rw [if_neg q] at z; exact q z
/-- o waits for the one that was laid last -/
theorem lJ.link {k' : Int} (h : lJ μ w k dp x) (f : ∀ c i, 145 ≤ c → c ≤ 150 → μ' c i = μ c i) (n : μ' 109 69 = μ 109 69) (r : μ' 109 71 = μ 109 71) (x0 : 0 ≤ x) (hk : k ≤ k') (o1 : o ≠ 100000) (ho : (1 ≤ o ∧ o ≤ 2 * k') ∨ (-dp ≤ o ∧ o ≤ -1)) : lJ μ' (lUp w x o) k' dp (-1) := by
  have wx := h.f0 x0
  refine ⟨fun i a b => ?_, fun i z => ?_, fun i z => ?_, fun z => by omega⟩
  · rw [n] at b
    refine (h.i i a b).same (fun c a b => f c i a b) (by omega) (by omega) fun z => ?_
    unfold lUp
    by_cases q : i = x
    · rw [if_pos q]; omega
    · rw [if_neg q]; exact z
  · rw [n, f 145 i (by decide) (by decide)]
    unfold lUp at z ⊢
    by_cases q : i = x
    · subst q
      rw [if_pos rfl]
      obtain ⟨w1, w2, w3⟩ := h.ow i (by omega)
      exact ⟨w1, w2, by omega⟩
    · rw [if_neg q] at z ⊢
      obtain ⟨w1, w2, w3⟩ := h.ow i z
      exact ⟨w1, w2, by omega⟩
  · unfold lUp at z
    by_cases q : i = x
    · rw [if_pos q] at z; omega
    · rw [if_neg q] at z; exact absurd (h.fx i z) q
theorem lT.link (h : lJ μ w k dp x) (f : ∀ i, μ' 146 i = μ 146 i) (n : μ' 109 69 = μ 109 69) (r : μ' 109 71 = μ 109 71) (x0 : 0 ≤ x) : lT μ μ' w (lUp w x o) o := by
  have wx := h.f0 x0
  refine ⟨by omega, by omega, fun o' z1 z2 z3 i => ⟨?_, fun _ => f i⟩⟩
  unfold lUp
  by_cases q : i = x
  · subst q; rw [if_pos rfl]; omega
  · rw [if_neg q]
theorem lSg.link (h : lNo w o) : lSg (lUp w x o) o x := fun i => by
  unfold lUp
  by_cases q : i = x
  · rw [if_pos q]; exact ⟨fun _ => q, fun _ => rfl⟩
  · rw [if_neg q]; exact ⟨fun z => absurd z (h i), fun z => absurd z q⟩
/-- a chain grows -/
theorem lC.link (hj : lJ μ w k dp x) (h : lC μ w o y) (o0 : o ≠ 0 ∧ o ≠ 100000) (f : ∀ i, μ' 146 i = μ 146 i) (x0 : 0 ≤ x ∧ x < 400) (hx : x = μ 109 69 - 1) (hd : μ 146 x = y) : lC μ' (lUp w x o) o x := by
  have wx := hj.f0 x0.1
  obtain ⟨L, l1, l2⟩ := h
  have lt : ∀ z ∈ L, z < x := fun z hz => by
    have a := (l2 z).mpr hz
    have b := (hj.ow z (by omega)).1
    have : z ≠ x := fun e => by rw [e] at a; omega
    omega
  refine ⟨x :: L, ⟨rfl, x0.1, x0.2, lt, ?_⟩, fun i => ?_⟩
  · rw [f x, hd]; exact l1.same fun z _ => f z
  · unfold lUp
    by_cases q : i = x
    · rw [if_pos q]; exact ⟨fun _ => by rw [q]; exact List.mem_cons_self .., fun _ => rfl⟩
    · rw [if_neg q]
      exact (l2 i).trans ⟨fun z => List.mem_cons_of_mem _ z, fun z => (List.mem_cons.mp z).resolve_left q⟩
theorem lC.em (h : lNo w o) : lC μ w o (-1) := ⟨[], rfl, fun i => ⟨fun z => absurd z (h i), fun z => absurd z List.not_mem_nil⟩⟩
theorem lC.no (h : lC μ w o (-1)) : lNo w o := by
  obtain ⟨L, l1, l2⟩ := h
  cases L with
  | nil => exact fun i z => absurd ((l2 i).mp z) List.not_mem_nil
  | cons a r => have := l1.1; have := l1.2.1; omega
theorem lJ.popE (h : lJ μ w (k + 1) dp x) (a : lNo w (2 * k + 1)) (b : lNo w (2 * k + 2)) : lJ μ w k dp x := by
  refine ⟨h.i, fun i z => ?_, h.fx, h.f0⟩
  obtain ⟨w1, w2, w3⟩ := h.ow i z
  have := a i
  have := b i
  exact ⟨w1, w2, by omega⟩
theorem lJ.popF (h : lJ μ w k dp x) (a : lNo w (-dp)) : lJ μ w k (dp - 1) x := by
  refine ⟨h.i, fun i z => ?_, h.fx, h.f0⟩
  obtain ⟨w1, w2, w3⟩ := h.ow i z
  have := a i
  exact ⟨w1, w2, by omega⟩
end M77

/-! THE REFERENCE, part 78: what each act of lower does to what it keeps -/
section M78
variable {μ μ' μ1 μ2 : ab_m} {w w' w1 w2 : Int → Int} {O O' r : List Int} {dp dp' m m' x x' k o y j a q v : Int} {U U' : Int → Prop}
theorem lT.trans (h : lT μ μ1 w w1 o) (h2 : lT μ1 μ2 w1 w2 o) : lT μ μ2 w w2 o := by
  refine ⟨Int.le_trans h.n h2.n, Int.le_trans h.r h2.r, fun o' a b c i => ?_⟩
  have s1 := h.s o' a b c i
  have s2 := h2.s o' a b c i
  exact ⟨s2.1.trans s1.1, fun z => (s2.2 (s1.1.mpr z)).trans (s1.2 z)⟩
theorem lQ.chg (h : lQ μ w O dp m x U) (J : lJ μ' w' O'.length dp' x') (t : lT μ μ' w w' o) (hb : ((O'.length : Int) ≤ 3010) ∧ 0 ≤ dp' ∧ dp' ≤ 20) (he : ∀ j a, lAt O' j a → (lAt O j a ∧ o ≠ 2 * j + 1 ∧ o ≠ 2 * j + 2 ∧ ∀ c, 154 ≤ c → c ≤ 157 → μ' c j = μ c j) ∨ lE μ' w' j a) (hf : ∀ i, 0 ≤ i → i < dp' → (i < dp ∧ o ≠ -1 - i ∧ μ' 158 i = μ 158 i ∧ μ' 160 i = μ 160 i) ∨ lF μ' w' i) (f5 : ∀ c j, 151 ≤ c → c ≤ 153 → μ' c j = μ c j) : lQ μ' w' O' dp' m x' U := by
  refine ⟨J, hb, fun j a b => (h.o j a b).le t.r (f5 152 j (by decide) (by decide)) (f5 153 j (by decide) (by decide)), fun j a z => ?_, fun i a b => ?_, fun y z => ?_⟩
  · rcases he j a z with ⟨z1, z2, z3, z4⟩ | z1
    · have l := z1.lt
      have hb := h.b.1
      exact (h.e j a z1).tr t z2 z3 (by omega) z4
    · exact z1
  · rcases hf i a b with ⟨z1, z2, z3, z4⟩ | z1
    · exact (h.f i a z1).tr t z2 (by omega) z3 z4
    · exact z1
  · rw [f5 151 y (by decide) (by decide)]; exact (h.u y z).le t.r
/-- nothing but registers, operands and ints -/
theorem lQ.up (h : lQ μ w O dp m x U) (f : ∀ c i, 145 ≤ c → c ≤ 150 → μ' c i = μ c i) (n : μ' 109 69 = μ 109 69) (r : μ 109 71 ≤ μ' 109 71) (ho : ∀ j, 0 ≤ j → j < m' → lOp μ' j) (he : ∀ c i, (154 ≤ c ∧ c ≤ 158) ∨ c = 160 → μ' c i = μ c i) (hu : ∀ y, U' y → lR μ' (μ' 151 y)) : lQ μ' w O dp m' x U' := by
  have t : lT μ μ' w w 0 := lT.up (by omega) r fun i => f 146 i (by decide) (by decide)
  refine ⟨h.j.up f n r (Int.le_refl _) (Int.le_refl _), h.b, ho, fun j a z => ?_, fun i a b => ?_, hu⟩
  · have l := z.lt
    have hb := h.b.1
    exact (h.e j a z).tr t (by omega) (by omega) (by omega) fun c z1 z2 => he c j (by omega)
  · have := h.b
    exact (h.f i a b).tr t (by omega) (by omega) (he 158 i (by omega)) (he 160 i (by omega))
theorem lQ.fr (h : lQ μ w O dp m x U) (f : ∀ c i, 145 ≤ c → c ≤ 160 → c ≠ 159 → μ' c i = μ c i) (n : μ' 109 69 = μ 109 69) (r : μ 109 71 ≤ μ' 109 71) (hm : m' ≤ m) : lQ μ' w O dp m' x U :=
  h.up (fun c i a b => f c i a (by omega) (by omega)) n r (fun j a b => (h.o j a (by omega)).le r (f 152 j (by decide) (by decide) (by decide)) (f 153 j (by decide) (by decide) (by decide))) (fun c i z => f c i (by omega) (by omega) (by omega)) fun y z => by
    rw [f 151 y (by decide) (by decide) (by decide)]; exact (h.u y z).le r
theorem lQ.push {v c : Int} (h : lQ μ w O dp m x U) (p : mOp μ μ' v c) (hm : μ 109 78 = m) (hc : c % 2 = 0 → lR μ v) : lQ μ' w O dp (m + 1) x U := by
  obtain ⟨p1, p2, p3, p4⟩ := p
  rw [hm] at p1 p3 p4
  have r : μ' 109 71 = μ 109 71 := p1 109 71 (by omega) (by omega)
  refine h.up (fun c i a b => p1 c i (by omega) (by omega)) (p1 109 69 (by omega) (by omega)) (by omega) (fun j a b => ?_) (fun c i z => p1 c i (by omega) (by omega)) fun y z => by
    rw [p1 151 y (by omega) (by omega)]; exact (h.u y z).le (by omega)
  by_cases e : j = m
  · subst e
    unfold lOp
    rw [p4, p3]
    by_cases z : c % 2 = 0
    · exact Or.inl ⟨z, (hc z).le (by omega)⟩
    · exact Or.inr (by omega)
  · exact (h.o j a (by omega)).le (by omega) (p1 152 j (by omega) (by omega)) (p1 153 j (by omega) (by omega))
theorem lQ.reg {T : Int} (h : lQ μ w O dp m x U) (e : μ' = ab_mu μ 151 T v) (hv : lR μ v) (hU : ∀ y, U' y → y = T ∨ U y) : lQ μ' w O dp m x U' := by
  have f : ∀ c i, c ≠ 151 → μ' c i = μ c i := fun c i z => by rw [e, mu_ne z]
  have r : μ' 109 71 = μ 109 71 := f 109 71 (by decide)
  refine h.up (fun c i a b => f c i (by omega)) (f 109 69 (by decide)) (by omega) (fun j a b => (h.o j a b).le (by omega) (f 152 j (by decide)) (f 153 j (by decide))) (fun c i z => f c i (by omega)) fun y z => ?_
  · by_cases q : y = T
    · subst q; rw [e, ab_mud, if_pos ⟨rfl, rfl⟩]; exact hv.le (by rw [mu_ne (by decide)]; exact Int.le_refl _)
    · have : μ' 151 y = μ 151 y := by rw [e, ab_mud, if_neg (fun z => q z.2)]
      rw [this]
      exact (h.u y ((hU y z).resolve_left q)).le (by omega)
theorem lQ.em {kk t a ia b ib : Int} (h : lQ μ w O dp m x U) (e : mEm μ μ' kk t a ia b ib) (c : lI μ' 0 (μ 109 69)) : lQ μ' w O dp m x U := by
  have hb := h.b
  refine h.chg (h.j.em e c) (lT.em h.j e) hb (fun j a z => Or.inl ⟨z, by have := z.lt; omega, by have := z.lt; omega, fun c z1 z2 => e.1 c j (by omega) (by omega)⟩) (fun i a b => Or.inl ⟨b, by omega, e.1 158 i (by omega) (by omega), e.1 160 i (by omega) (by omega)⟩) fun c j z1 z2 => e.1 c j (by omega) (by omega)
theorem lQ.emP {kk t a ia b ib : Int} (h : lQ μ w O dp m (-1) U) (e : mEm μ μ' kk t a ia b ib) (n0 : 0 ≤ μ 109 69) (c : lI μ' 1 (μ 109 69)) (lp : kk = 25 ∨ kk = 26 ∨ kk = 27) : lQ μ' (lUp w (μ 109 69) 100000) O dp m (μ 109 69) U := by
  have hb := h.b
  refine h.chg (h.j.emP e n0 c lp) (lT.emP h.j e) hb (fun j a z => Or.inl ⟨z, by have := z.lt; omega, by have := z.lt; omega, fun c z1 z2 => e.1 c j (by omega) (by omega)⟩) (fun i a b => Or.inl ⟨b, by omega, e.1 158 i (by omega) (by omega), e.1 160 i (by omega) (by omega)⟩) fun c j z1 z2 => e.1 c j (by omega) (by omega)
theorem lJ.no (h : lJ μ w k dp x) (a : 2 * k < o) (b : o ≠ 100000) (d0 : 0 ≤ k) : lNo w o := fun i z => by
  have := (h.ow i (by omega)).2.2
  omega
theorem lAt_cons {b : Int} (h : lAt (a :: r) j b) : (j = r.length ∧ b = a) ∨ (lAt r j b ∧ 0 ≤ j ∧ j < r.length) := h.imp (fun z => z) fun z => ⟨z, z.lt⟩
theorem lcs : ((a :: r : List Int).length : Int) = r.length + 1 := by simp
/-- one more lies open, nothing waits yet -/
theorem lQ.opnn {kk xa yb : Int} (h : lQ μ w O dp m x U) (p : mOu μ μ' kk xa yb) (hk : μ 109 83 = O.length) (hl : (O.length : Int) < 3010) (c : (a = 1 ∧ kk = 6 ∧ lR μ xa) ∨ (a = 3 ∧ kk = 19 ∧ 0 ≤ xa ∧ xa ≤ μ 109 69) ∨ (a = 5 ∧ kk = 21 ∧ (0 ≤ xa ∧ xa ≤ μ 109 69) ∧ yb = -1)) : lQ μ' w (a :: O) dp m x U := by
  obtain ⟨p1, p2, p3, p4, p5, p6⟩ := p
  rw [hk] at p1 p3 p4 p5 p6
  have l := lcs (a := a) (r := O)
  have hb := h.b
  have f : ∀ c i, (145 ≤ c ∧ c ≤ 153) ∨ c = 158 ∨ c = 160 → μ' c i = μ c i := fun c i z => p1 c i (by omega) (by omega)
  have n : μ' 109 69 = μ 109 69 := p1 109 69 (by omega) (by omega)
  have rr : μ' 109 71 = μ 109 71 := p1 109 71 (by omega) (by omega)
  have n1 : lNo w (2 * (O.length : Int) + 1) := h.j.no (by omega) (by omega) (by omega)
  have n2 : lNo w (2 * (O.length : Int) + 2) := h.j.no (by omega) (by omega) (by omega)
  refine h.chg (h.j.up (fun c i a b => f c i (by omega)) n (by omega) (by omega) (Int.le_refl _)) (lT.up (by omega) (by omega) fun i => f 146 i (by omega)) ⟨by omega, hb.2⟩ (fun j b z => ?_) (fun i a b => Or.inl ⟨b, by omega, f 158 i (by omega), f 160 i (by omega)⟩) fun c j z1 z2 => f c j (by omega)
  rcases lAt_cons z with ⟨z1, z2⟩ | ⟨z1, z2, z3⟩
  · subst z1 z2
    refine Or.inr ⟨by rw [p6]; exact lC.em n2, ?_⟩
    rw [p3, p4, p5, p6, n]
    rcases c with ⟨c1, c2, c3⟩ | ⟨c1, c2, c3⟩ | ⟨c1, c2, c3, c4⟩
    · exact Or.inl ⟨c1, c2, c3.le (by omega), n1, rfl⟩
    · exact Or.inr (Or.inr (Or.inl ⟨c1, c2, c3, n1⟩))
    · exact Or.inr (Or.inr (Or.inr (Or.inr (Or.inl ⟨c1, c2, c3, by rw [c4]; exact lC.em n1⟩))))
  · exact Or.inl ⟨z1, by omega, by omega, fun c z4 z5 => p1 c j (by omega) (by omega)⟩
/-- IF: it waits for the leap that was laid last -/
theorem lQ.openL {yb : Int} (h : lQ μ w O dp m x U) (p : mOu μ μ' 15 x yb) (hk : μ 109 83 = O.length) (hl : (O.length : Int) < 3010) (x0 : 0 ≤ x) : ∃ w', lQ μ' w' (7 :: O) dp m (-1) U := by
  obtain ⟨p1, p2, p3, p4, p5, p6⟩ := p
  rw [hk] at p1 p3 p4 p5 p6
  have l := lcs (a := 7) (r := O)
  have hb := h.b
  have f : ∀ c i, (145 ≤ c ∧ c ≤ 153) ∨ c = 158 ∨ c = 160 → μ' c i = μ c i := fun c i z => p1 c i (by omega) (by omega)
  have n : μ' 109 69 = μ 109 69 := p1 109 69 (by omega) (by omega)
  have rr : μ' 109 71 = μ 109 71 := p1 109 71 (by omega) (by omega)
  have n1 : lNo w (2 * (O.length : Int) + 1) := h.j.no (by omega) (by omega) (by omega)
  have n2 : lNo w (2 * (O.length : Int) + 2) := h.j.no (by omega) (by omega) (by omega)
  have t : lT μ μ' w (lUp w x (2 * (O.length : Int) + 1)) (2 * (O.length : Int) + 1) := lT.link h.j (fun i => f 146 i (by omega)) n rr x0
  refine ⟨_, h.chg (h.j.link (fun c i a b => f c i (by omega)) n rr x0 (by omega) (by omega) (Or.inl (by omega))) t ⟨by omega, hb.2⟩ (fun j b z => ?_) (fun i a b => Or.inl ⟨b, by omega, f 158 i (by omega), f 160 i (by omega)⟩) fun c j z1 z2 => f c j (by omega)⟩
  rcases lAt_cons z with ⟨z1, z2⟩ | ⟨z1, z2, z3⟩
  · subst z1 z2
    refine Or.inr ⟨by rw [p6]; exact lC.em (n2.tr t (by omega) (by omega) (by omega)), ?_⟩
    rw [p3, p4, p6]
    exact Or.inr (Or.inr (Or.inr (Or.inr (Or.inr (Or.inr ⟨rfl, rfl, lSg.link n1, rfl⟩)))))
  · exact Or.inl ⟨z1, by omega, by omega, fun c z4 z5 => p1 c j (by omega) (by omega)⟩
theorem lAt_top : lAt (a :: r) r.length a := Or.inl ⟨rfl, rfl⟩
/-- MID, WHILE: it waits for the leap that was laid last -/
theorem lQ.mid (h : lQ μ w (a :: r) dp m x U) (x0 : 0 ≤ x) (ha : a = 1 ∨ a = 3) (e : μ' = ab_mu μ 156 r.length x) : ∃ w', lQ μ' w' ((a + 1) :: r) dp m (-1) U := by
  have f : ∀ c i : Int, ¬ (c = 156 ∧ i = (r.length : Int)) → μ' c i = μ c i := fun c i z => by rw [e, ab_mud, if_neg z]
  have eB : μ' 156 r.length = x := by rw [e, ab_mud, if_pos ⟨rfl, rfl⟩]
  have l := lcs (a := a) (r := r)
  have l' := lcs (a := a + 1) (r := r)
  have hb := h.b
  have n : μ' 109 69 = μ 109 69 := f 109 69 (by omega)
  have rr : μ' 109 71 = μ 109 71 := f 109 71 (by omega)
  have ent := h.e _ _ (lAt_top (a := a) (r := r))
  have t : lT μ μ' w (lUp w x (2 * (r.length : Int) + 1)) (2 * (r.length : Int) + 1) := lT.link h.j (fun i => f 146 i (by omega)) n rr x0
  have no : lNo w (2 * (r.length : Int) + 1) := by
    rcases ha with z | z <;> subst z
    · exact ent.g1.2.2.1
    · exact ent.g3.2.2
  have sg : lSg (lUp w x (2 * (r.length : Int) + 1)) (2 * (r.length : Int) + 1) x := lSg.link no
  refine ⟨_, h.chg (h.j.link (fun c i a b => f c i (by omega)) n rr x0 (by omega) (by omega) (Or.inl (by omega))) t ⟨by omega, hb.2⟩ (fun j b z => ?_) (fun i a b => Or.inl ⟨b, by omega, f 158 i (by omega), f 160 i (by omega)⟩) fun c j z1 z2 => f c j (by omega)⟩
  rcases lAt_cons z with ⟨z1, z2⟩ | ⟨z1, z2, z3⟩
  · subst z1 z2
    refine Or.inr ⟨by rw [f 157 _ (by omega)]; exact ent.1.tr t (by omega) (by omega) (by omega), ?_⟩
    rw [f 154 _ (by omega), f 155 _ (by omega), f 157 _ (by omega), eB, n]
    rcases ha with z | z <;> subst z
    · obtain ⟨q1, q2, q3, q4⟩ := ent.g1
      exact Or.inr (Or.inl ⟨rfl, q1, q2.le (by omega), sg, q4⟩)
    · obtain ⟨q1, q2, q3⟩ := ent.g3
      exact Or.inr (Or.inr (Or.inr (Or.inl ⟨rfl, q1, q2, sg⟩)))
  · exact Or.inl ⟨Or.inr z1, by omega, by omega, fun c z4 z5 => f c j (by omega)⟩
/-- a single leap is told that it goes here, and what waited for it is closed -/
theorem lQ.shut {s : Int} (h : lQ μ w (a :: r) dp m x U) (ha : (a = 2 ∧ s = μ 156 r.length) ∨ (a = 7 ∧ s = μ 155 r.length)) (e : μ' = ab_mu μ 146 s (μ 109 69)) : ∃ w', lQ μ' w' r dp m x U := by
  have f : ∀ c i, ¬ (c = 146 ∧ i = s) → μ' c i = μ c i := fun c i z => by rw [e, ab_mud, if_neg z]
  have l := lcs (a := a) (r := r)
  have hb := h.b
  have n : μ' 109 69 = μ 109 69 := f 109 69 (by omega)
  have rr : μ' 109 71 = μ 109 71 := f 109 71 (by omega)
  have ent := h.e _ _ (lAt_top (a := a) (r := r))
  have c := ent.1
  have sg : lSg w (2 * (r.length : Int) + 1) s ∧ μ 157 r.length = -1 := by
    rcases ha with ⟨z, zs⟩ | ⟨z, zs⟩ <;> subst z
    · rw [zs]; exact ⟨ent.g2.2.2.1, ent.g2.2.2.2⟩
    · rw [zs]; exact ⟨ent.g7.2.1, ent.g7.2.2⟩
  obtain ⟨sg, cm⟩ := sg
  rw [cm] at c
  have t : lT μ μ' w (lLd w (2 * (r.length : Int) + 1)) (2 * (r.length : Int) + 1) := lT.land (fun i z => f 146 i (fun y => z ((sg i).mpr y.2))) n rr
  have J := h.j.land (μ' := μ') (o := 2 * (r.length : Int) + 1) (fun c i _ _ z => f c i (fun y => z ⟨y.1, (sg i).mpr y.2⟩)) n rr (fun i z => by rw [(sg i).mp z, e, ab_mud, if_pos ⟨rfl, rfl⟩]) (by omega) (by omega)
  rw [l] at J
  refine ⟨_, h.chg (J.popE (lLd_no (by omega)) (c.no.tr t (by omega) (by omega) (by omega))) t ⟨by omega, hb.2⟩ (fun j b z => ?_) (fun i a b => Or.inl ⟨b, by omega, f 158 i (by omega), f 160 i (by omega)⟩) fun c j z1 z2 => f c j (by omega)⟩
  have := z.lt
  exact Or.inl ⟨Or.inr z, by omega, by omega, fun c z4 z5 => f c j (by omega)⟩
/-- ELSE: the leap of IF goes here, it waits for the one that was laid last -/
theorem lQ.els (h : lQ μ w (7 :: r) dp m x U) (x0 : 0 ≤ x) (e1 : μ1 = ab_mu μ 146 (μ 155 r.length) (μ 109 69)) (e : μ' = ab_mu μ1 155 r.length x) : ∃ w', lQ μ' w' (7 :: r) dp m (-1) U := by
  have f1 : ∀ c i, ¬ (c = 146 ∧ i = μ 155 r.length) → μ1 c i = μ c i := fun c i z => by rw [e1, ab_mud, if_neg z]
  have f2 : ∀ c i : Int, ¬ (c = 155 ∧ i = (r.length : Int)) → μ' c i = μ1 c i := fun c i z => by rw [e, ab_mud, if_neg z]
  have eA : μ' 155 r.length = x := by rw [e, ab_mud, if_pos ⟨rfl, rfl⟩]
  have l := lcs (a := 7) (r := r)
  have hb := h.b
  have ent := h.e _ _ (lAt_top (a := 7) (r := r))
  have c := ent.1
  obtain ⟨k15, sg, cm⟩ := ent.g7
  have t1 : lT μ μ1 w (lLd w (2 * (r.length : Int) + 1)) (2 * (r.length : Int) + 1) := lT.land (fun i z => f1 146 i (fun y => z ((sg i).mpr y.2))) (f1 109 69 (by omega)) (f1 109 71 (by omega))
  have J1 := h.j.land (μ' := μ1) (o := 2 * (r.length : Int) + 1) (fun c i _ _ z => f1 c i (fun y => z ⟨y.1, (sg i).mpr y.2⟩)) (f1 109 69 (by omega)) (f1 109 71 (by omega)) (fun i z => by rw [(sg i).mp z, e1, ab_mud, if_pos ⟨rfl, rfl⟩]) (by omega) (by omega)
  have t2 : lT μ1 μ' (lLd w (2 * (r.length : Int) + 1)) (lUp (lLd w (2 * (r.length : Int) + 1)) x (2 * (r.length : Int) + 1)) (2 * (r.length : Int) + 1) := lT.link J1 (fun i => f2 146 i (by omega)) (f2 109 69 (by omega)) (f2 109 71 (by omega)) x0
  have t := t1.trans t2
  refine ⟨_, h.chg (J1.link (fun c i a b => f2 c i (by omega)) (f2 109 69 (by omega)) (f2 109 71 (by omega)) x0 (Int.le_refl _) (by omega) (Or.inl (by omega))) t ⟨by omega, hb.2⟩ (fun j b z => ?_) (fun i a b => Or.inl ⟨b, by omega, by rw [f2 158 i (by omega), f1 158 i (by omega)], by rw [f2 160 i (by omega), f1 160 i (by omega)]⟩) fun c j z1 z2 => by rw [f2 c j (by omega), f1 c j (by omega)]⟩
  rcases lAt_cons z with ⟨z1, z2⟩ | ⟨z1, z2, z3⟩
  · subst z1 z2
    have e4 : μ' 154 r.length = μ 154 r.length := by rw [f2 154 _ (by omega), f1 154 _ (by omega)]
    have e7 : μ' 157 r.length = μ 157 r.length := by rw [f2 157 _ (by omega), f1 157 _ (by omega)]
    refine Or.inr ⟨by rw [e7]; exact c.tr t (by omega) (by omega) (by omega), ?_⟩
    rw [eA, e4, e7]
    exact Or.inr (Or.inr (Or.inr (Or.inr (Or.inr (Or.inr ⟨rfl, k15, lSg.link (lLd_no (by omega)), cm⟩)))))
  · exact Or.inl ⟨Or.inr z1, by omega, by omega, fun c z4 z5 => by rw [f2 c j (by omega), f1 c j (by omega)]⟩
end M78

