/-! THE REFERENCE, part 71: read -/
section M71
variable {X : jm_X} {d : Nat} {P : Int → ab_m → Prop} {μ μ' ν : ab_m}
/-- what read may write -/
def rdF (c j : Int) : Prop := (c = 109 ∧ (j = 0 ∨ j = 2 ∨ j = 7 ∨ (18 ≤ j ∧ j ≤ 22) ∨ (27 ≤ j ∧ j ≤ 32) ∨ (38 ≤ j ∧ j ≤ 46) ∨ j = 51 ∨ j = 72 ∨ j = 73)) ∨ (111 ≤ c ∧ c ≤ 137)
end M71
def rdP (μ μ' : ab_m) : Prop := (∀ c j, ¬ rdF c j → μ' c j = μ c j) ∧ (μ' 109 2 = 0) ∧ (∀ j, 0 ≤ j → j < 16 → 0 ≤ μ' 121 j ∧ μ' 121 j ≤ 100) ∧ ((μ' 109 18 = μ 109 18 ∧ μ' 109 19 = μ 109 19 ∧ μ' 109 72 = μ 109 72 ∧ μ' 109 73 = μ 109 73 ∧ ∀ Γ N dn, tW μ (μ 109 18) Γ N dn → tW μ' (μ 109 18) Γ N dn) ∨ (μ' 109 18 = 1 - μ 109 18 ∧ μ' 109 19 = 1 ∧ μ' 109 72 = 0 ∧ μ' 109 73 = 0 ∧ ∃ Γ N dn, tW μ' (1 - μ 109 18) Γ N dn))
theorem rdP.fr {μ μ' : ab_m} (h'' : rdP μ μ') : ∀ c j, ¬ rdF c j → μ' c j = μ c j := h''.1
theorem rdP.tp {μ μ' : ab_m} (h'' : rdP μ μ') : μ' 109 2 = 0 := h''.2.1
theorem rdP.rs {μ μ' : ab_m} (h'' : rdP μ μ') : ∀ j, 0 ≤ j → j < 16 → 0 ≤ μ' 121 j ∧ μ' 121 j ≤ 100 := h''.2.2.1
theorem rdP.ok {μ μ' : ab_m} (h'' : rdP μ μ') : (μ' 109 18 = μ 109 18 ∧ μ' 109 19 = μ 109 19 ∧ μ' 109 72 = μ 109 72 ∧ μ' 109 73 = μ 109 73 ∧ ∀ Γ N dn, tW μ (μ 109 18) Γ N dn → tW μ' (μ 109 18) Γ N dn) ∨ (μ' 109 18 = 1 - μ 109 18 ∧ μ' 109 19 = 1 ∧ μ' 109 72 = 0 ∧ μ' 109 73 = 0 ∧ ∃ Γ N dn, tW μ' (1 - μ 109 18) Γ N dn) := h''.2.2.2
section M71
variable {X : jm_X} {d : Nat} {P : Int → ab_m → Prop} {μ μ' ν : ab_m}
set_option maxHeartbeats 1000000 in
theorem c_mM_read (ht : 0 ≤ μ 109 2 ∧ μ 109 2 ≤ 3000) (n01 : μ 109 18 = 0 ∨ μ 109 18 = 1) (rs : ∀ j, 0 ≤ j → j < 16 → 0 ≤ μ 121 j ∧ μ 121 j ≤ 100) (hP : ∀ r μ', rdP μ μ' → P r μ') : jj_mM_read X (d + 8) 0 (ab_la [109]) [] μ P := by
  refine bk_mM_read_0 rfl fun μ1 e1 => ?_
  refine c_mM_cutWords (by rw [e1, ab_mud, if_neg (by omega)]; exact ht) fun μ2 W f2 wd W0 W3 kW kW1 μ5 e5 => ?_
  have f5 : ∀ c j, ¬ (c = 109 ∧ (j = 0 ∨ j = 2 ∨ j = 7)) → ¬ (111 ≤ c ∧ c ≤ 114) → μ5 c j = μ c j := fun c j z1 z2 => by
    rw [e5, ab_mud, if_neg (by omega), f2 c j (by omega) (by omega), e1, ab_mud, if_neg (by omega)]
  have w7 : μ5 109 7 = W := by rw [e5, ab_mud, if_neg (by omega)]; exact wd.1
  have w2 : μ5 109 2 = 0 := by rw [e5, ab_mud, if_pos ⟨rfl, rfl⟩]
  have hk : aK (fun i => μ5 111 i) W := ⟨W0, W3, fun k a b => by show 1 ≤ μ5 111 k; rw [e5, ab_mud, if_neg (by omega)]; exact wd.2 k a b, by show μ5 111 W = 0; rw [e5, ab_mud, if_neg (by omega)]; exact kW, by show μ5 111 (W + 1) = 0; rw [e5, ab_mud, if_neg (by omega)]; exact kW1⟩
  clear e1 e5
  generalize hg : (1 : Int) - μ 109 18 = g at *
  have g01 : g = 0 ∨ g = 1 := by omega
  -- the end
  have s103 : ∀ (ν : ab_m) (v : Int), (∀ c j, ¬ rdF c j → ν c j = μ c j) → ν 109 2 = 0 → ν 109 18 = μ 109 18 → ν 109 19 = μ 109 19 → ν 109 72 = μ 109 72 → ν 109 73 = μ 109 73 → ν 109 20 = g → (∀ j, 0 ≤ j → j < 16 → 0 ≤ ν 121 j ∧ ν 121 j ≤ 100) → ((1 ≤ ν 109 43 ∧ ν 109 43 ≤ 6 ∧ ∀ Γ N dn, tW μ (μ 109 18) Γ N dn → tW ν (μ 109 18) Γ N dn) ∨ (ν 109 43 = 0 ∧ ∃ Γ N dn, tW ν g Γ N dn)) → ∀ l : ab_l, l 0 = 109 → jj_mM_read X (d + 8) 103 l [(0, v), (2, 109)] ν P := by
    intro ν v fr q2 q18 q19 q72 q73 q20 qrs hout l l0
    refine bk_mM_read_103 l0 fun ν1 e1 => ?_
    have g1 : ∀ c j, ¬ (c = 109 ∧ j = 45) → ν1 c j = ν c j := fun c j z => by rw [e1, ab_mud, if_neg z]
    rw [g1 109 43 (by omega), g1 109 20 (by omega), q20]
    have tc : ∀ (ν' : ab_m) h Γ N dn, (∀ c j, 115 ≤ c ∧ c ≤ 124 → ν' c j = ν c j) → (h = 0 ∨ h = 1) → tW ν h Γ N dn → tW ν' h Γ N dn := fun ν' h Γ N dn fe h01 t => t.same (g := 1 - h) (fun c j z _ => fe c j z) ⟨by omega, h01, by omega⟩
    refine ⟨fun le ν2 e2 ν3 e3 ν4 e4 ν5 e5 => hP _ ν5 ?_, fun lt => hP _ ν1 ?_⟩
    · rcases hout with h | h
      · omega
      · have g5 : ∀ c j, ¬ (c = 109 ∧ (j = 45 ∨ j = 18 ∨ j = 19 ∨ j = 72 ∨ j = 73)) → ν5 c j = ν c j := fun c j z => by
          rw [e5, ab_mud, if_neg (by omega), e4, ab_mud, if_neg (by omega), e3, ab_mud, if_neg (by omega), e2, ab_mud, if_neg (by omega)]; exact g1 c j (by omega)
        obtain ⟨Γ, N, dn, t⟩ := h.2
        refine ⟨fun c j z => by rw [g5 c j (fun y => z (by unfold rdF; omega))]; exact fr c j z, by rw [g5 109 2 (by omega)]; exact q2, fun j a b => by rw [g5 121 j (by omega)]; exact qrs j a b, Or.inr ⟨?_, ?_, ?_, ?_, Γ, N, dn, ?_⟩⟩
        · rw [e5, ab_mud, if_neg (by omega), e4, ab_mud, if_neg (by omega), e3, ab_mud, if_neg (by omega), e2, ab_mud, if_pos ⟨rfl, rfl⟩, hg]
        · rw [e5, ab_mud, if_neg (by omega), e4, ab_mud, if_neg (by omega), e3, ab_mud, if_pos ⟨rfl, rfl⟩]
        · rw [e5, ab_mud, if_neg (by omega), e4, ab_mud, if_pos ⟨rfl, rfl⟩]
        · rw [e5, ab_mud, if_pos ⟨rfl, rfl⟩]
        · rw [hg]; exact tc ν5 g Γ N dn (fun c j z => g5 c j (by omega)) g01 t
    · rcases hout with h | h
      · exact ⟨fun c j z => by rw [g1 c j (fun y => z (by unfold rdF; omega))]; exact fr c j z, by rw [g1 109 2 (by omega)]; exact q2, fun j a b => by rw [g1 121 j (by omega)]; exact qrs j a b, Or.inl ⟨by rw [g1 109 18 (by omega)]; exact q18, by rw [g1 109 19 (by omega)]; exact q19, by rw [g1 109 72 (by omega)]; exact q72, by rw [g1 109 73 (by omega)]; exact q73, fun Γ N dn t => tc ν1 _ Γ N dn (fun c j z => g1 c j (by omega)) n01 (h.2.2 Γ N dn t)⟩⟩
      · omega
  -- both passes
  have pass : ∀ (l : ab_l) (ν : ab_m), l 0 = 109 → (∀ c j, c ≠ 135 → ν c j = μ5 c j) → (∀ j, 0 ≤ j → j ≤ W → ν 135 j = -1) → W < l 1 → jj_mM_read X (d + 8) 16 l [] ν P := by
    intro l ν l0 fv bv hl
    refine bk_mM_read_16 l0 ⟨fun _ ν1 e1 ν2 e2 ν3 e3 ν4 e4 => ?_, fun z => by rw [fv 109 7 (by decide), w7] at z; omega⟩
    have q18 : ν2 109 18 = μ 109 18 := by rw [e2, ab_mud, if_neg (by omega), e1, ab_mud, if_neg (by omega), fv 109 18 (by decide)]; exact f5 109 18 (by omega) (by omega)
    rw [q18, hg, show ab_w g = g from ab_wi (by omega) (by omega)] at e3
    have f4 : ∀ c j, ¬ (c = 109 ∧ (j = 51 ∨ j = 43 ∨ j = 20 ∨ j = 22)) → ν4 c j = ν c j := fun c j z => by rw [e4, ab_mud, if_neg (by omega), e3, ab_mud, if_neg (by omega), e2, ab_mud, if_neg (by omega), e1, ab_mud, if_neg (by omega)]
    have h22 : ν4 109 22 = 0 := by rw [e4, ab_mud, if_pos ⟨rfl, rfl⟩]
    have h20 : ν4 109 20 = g := by rw [e4, ab_mud, if_neg (by omega), e3, ab_mud, if_pos ⟨rfl, rfl⟩]
    have h43 : ν4 109 43 = 0 := by rw [e4, ab_mud, if_neg (by omega), e3, ab_mud, if_neg (by omega), e2, ab_mud, if_pos ⟨rfl, rfl⟩]
    have h51 : ν4 109 51 = 0 := by rw [e4, ab_mud, if_neg (by omega), e3, ab_mud, if_neg (by omega), e2, ab_mud, if_neg (by omega), e1, ab_mud, if_pos ⟨rfl, rfl⟩]
    have fm : ∀ c j, ¬ rdF c j → ν4 c j = μ c j := fun c j z => by
      rw [f4 c j (fun y => z (by unfold rdF; omega)), fv c j (fun y => z (by unfold rdF; omega)), f5 c j (fun y => z (by unfold rdF; omega)) (fun y => z (by unfold rdF; omega))]
    have f9 : ∀ j, j = 18 ∨ j = 19 ∨ j = 72 ∨ j = 73 → ν4 109 j = μ 109 j := fun j z => by rw [f4 109 j (by omega), fv 109 j (by decide)]; exact f5 109 j (by omega) (by omega)
    have ft : ∀ c j, 115 ≤ c ∧ c ≤ 124 → ν4 c j = μ c j := fun c j z => by rw [f4 c j (by omega), fv c j (by omega)]; exact f5 c j (by omega) (by omega)
    have t2 : ν4 109 2 = 0 := by rw [f4 109 2 (by omega), fv 109 2 (by decide)]; exact w2
    have K4 : ∀ i, ν4 111 i = μ5 111 i := fun i => by rw [f4 111 i (by omega)]; exact fv 111 i (by decide)
    have rs4 : ∀ j, 0 ≤ j → j < 16 → 0 ≤ ν4 121 j ∧ ν4 121 j ≤ 100 := fun j a b => by rw [ft 121 j (by omega)]; exact rs j a b
    have sub : ∀ c j, ¬ rdF c j → ¬ rdW g c j := fun c j z y => z (by unfold rdW at y; unfold rdF; omega)
    -- out of a fault, from a base that agrees with ν4 but for the pass
    have bad : ∀ (α β : ab_m) (v : Int), (∀ c j, ¬ (c = 109 ∧ j = 22) → (¬ rdW g c j → α c j = ν4 c j)) → rFt g α β → ∀ l : ab_l, l 0 = 109 → jj_mM_read X (d + 8) 103 l [(0, v), (2, 109)] β P := by
      intro α β v fa r l l0
      have fb : ∀ c j, ¬ (c = 109 ∧ j = 22) → ¬ rdW g c j → β c j = ν4 c j := fun c j z1 z2 => by rw [r.fr c j z2]; exact fa c j z1 z2
      refine s103 β v (fun c j z => ?_) ?_ ?_ ?_ ?_ ?_ ?_ r.rs (Or.inl ⟨r.ft.1, r.ft.2, fun Γ N dn t => ?_⟩) l l0
      · rw [fb c j (fun y => z (by unfold rdF; omega)) (sub c j z)]; exact fm c j z
      · rw [fb 109 2 (by omega) (by unfold rdW; omega)]; exact t2
      · rw [fb 109 18 (by omega) (by unfold rdW; omega)]; exact f9 18 (by omega)
      · rw [fb 109 19 (by omega) (by unfold rdW; omega)]; exact f9 19 (by omega)
      · rw [fb 109 72 (by omega) (by unfold rdW; omega)]; exact f9 72 (by omega)
      · rw [fb 109 73 (by omega) (by unfold rdW; omega)]; exact f9 73 (by omega)
      · rw [fb 109 20 (by omega) (by unfold rdW; omega)]; exact h20
      · exact t.same (g := g) (fun c j z1 z2 => by rw [fb c j (by omega) z2]; exact ft c j z1) ⟨g01, n01, by omega⟩
    refine c_rd_start (G := fun _ => []) hk K4 h43 h20 g01 (Or.inl h22) rs4 (fun _ => ⟨h51, fun w a b => by rw [f4 135 w (by omega)]; exact bv w a b⟩) (fun z => by omega) (fun β r => ?_) fun β r => ?_
    · have n0 : β 109 43 ≠ 0 := by have := r.ft; omega
      exact ⟨fun _ => ⟨fun _ => ⟨r.fw, bad ν4 β _ (fun _ _ _ _ => rfl) r l l0⟩, fun z => absurd z n0⟩, fun z => absurd z n0⟩
    · refine ⟨fun z => absurd r.ft z, fun _ α ea => ?_⟩
      obtain ⟨G, s1, Z, ar, aw⟩ := r.z (by rw [r.fr 109 22 (by unfold rdW; omega)]; exact h22)
      have fa : ∀ c j, ¬ (c = 109 ∧ j = 22) → α c j = β c j := fun c j z => by rw [ea, ab_mud, if_neg z]
      have a22 : α 109 22 = 1 := by rw [ea, ab_mud, if_pos ⟨rfl, rfl⟩]
      have fb : ∀ c j, ¬ (c = 109 ∧ j = 22) → ¬ rdW g c j → α c j = ν4 c j := fun c j z1 z2 => by rw [fa c j z1]; exact r.fr c j z2
      have zb := Z.bm
      have zs := Z.sm
      have B : β 109 51 ≤ 1500 := by split at zb <;> omega
      refine c_rd_start (G := G) hk (fun i => by rw [fb 111 i (by omega) (by unfold rdW; omega)]; exact K4 i) (by rw [fa 109 43 (by omega)]; exact r.ft) (by rw [fb 109 20 (by omega) (by unfold rdW; omega)]; exact h20) g01 (Or.inr a22) (fun j a b => by rw [fa 121 j (by omega)]; exact r.rs j a b) (fun z => by omega) (fun _ => ⟨ar, fun w a b => ?_, fun w b hb h2 => by rw [fa 134 w (by omega)]; exact Z.xc w b hb h2, by omega⟩) (fun γ r2 => ?_) fun γ r2 => ?_
      · rw [fa 135 w (by omega)]
        exact ((Z.tb w a b).bl (by omega)).same fun c j hc => fa c j (by omega)
      · have n0 : γ 109 43 ≠ 0 := by have := r2.ft; omega
        exact ⟨fun _ => ⟨r2.fw, bad α γ _ fb r2 l l0⟩, fun z => absurd z n0⟩
      · refine ⟨fun z => absurd r2.ft z, fun _ => ?_⟩
        have fg : ∀ c j, ¬ (c = 109 ∧ j = 22) → ¬ rdW g c j → γ c j = ν4 c j := fun c j z1 z2 => by rw [r2.fr c j z2]; exact fb c j z1 z2
        refine s103 γ (-1) (fun c j z => ?_) ?_ ?_ ?_ ?_ ?_ ?_ r2.rs (Or.inr ⟨r2.ft, r2.o (by rw [r2.fr 109 22 (by unfold rdW; omega)]; exact a22)⟩) l l0
        · rw [fg c j (fun y => z (by unfold rdF; omega)) (sub c j z)]; exact fm c j z
        · rw [fg 109 2 (by omega) (by unfold rdW; omega)]; exact t2
        · rw [fg 109 18 (by omega) (by unfold rdW; omega)]; exact f9 18 (by omega)
        · rw [fg 109 19 (by omega) (by unfold rdW; omega)]; exact f9 19 (by omega)
        · rw [fg 109 72 (by omega) (by unfold rdW; omega)]; exact f9 72 (by omega)
        · rw [fg 109 73 (by omega) (by unfold rdW; omega)]; exact f9 73 (by omega)
        · rw [fg 109 20 (by omega) (by unfold rdW; omega)]; exact h20
  -- beginsAt
  have key : ∀ (m : Nat) (l : ab_l) (ν : ab_m) (k : Int), l 0 = 109 → l 1 = k → 0 ≤ k → k ≤ W + 1 → (∀ c j, c ≠ 135 → ν c j = μ5 c j) → (∀ j, 0 ≤ j → j < k → ν 135 j = -1) → (W + 1 - k).toNat = m → jj_mM_read X (d + 8) 16 l [] ν P := by
    intro m
    induction m using Nat.strongRecOn with
    | ind m ih =>
      intro l ν k l0 l1 k0 kW fv bv hm
      by_cases hl : W < k
      · exact pass l ν l0 fv (fun j a b => bv j a (by omega)) (by omega)
      · refine bk_mM_read_16 l0 ⟨fun z => by rw [fv 109 7 (by decide), w7, l1] at z; omega, fun _ => ?_⟩
        rw [l1]
        refine ⟨by omega, fun ν1 e1 => ?_⟩
        rw [show ab_w (k + 1) = k + 1 from ab_wi (by omega) (by omega)]
        refine ih _ (by omega) _ ν1 (k + 1) l0 rfl (by omega) (by omega) (fun c j z => by rw [e1, mu_ne z]; exact fv c j z) (fun j a b => ?_) rfl
        by_cases ej : j = k
        · rw [e1, ab_mud, if_pos ⟨rfl, ej⟩]
        · rw [e1, ab_mud, if_neg (by omega)]; exact bv j a (by omega)
  exact key _ _ μ5 0 rfl rfl (by omega) (by omega) (fun _ _ _ => rfl) (fun j a b => by omega) rfl
end M71

