/-! THE REFERENCE, part 76: runText whole, run -/
section M76
variable {X : jm_X} {d : Nat} {P : Int → ab_m → Prop} {μ : ab_m} {g N dn fuel : Int} {Γ : tQ}
theorem c_mM_runText (t : tW μ g Γ N dn) (hg : μ 109 18 = g) (g01 : g = 0 ∨ g = 1) (rs : ∀ j, 0 ≤ j → j < 16 → 0 ≤ μ 121 j ∧ μ 121 j ≤ 100) (h53 : 0 ≤ μ 109 53 ∧ μ 109 53 ≤ 200) (f31 : 0 ≤ fuel ∧ fuel ≤ 100000) (hu : μ 109 57 = 0) (ht : μ 109 54 = 0) (hp : μ 109 56 = 0) (hP : ∀ r μ', rtC μ μ' fuel → P r μ') : jj_mM_runText X (d + 1) 0 (ab_la [109, fuel]) [] μ P := by
  have s2 : ∀ (m : Nat) (l : ab_l) (μ1 : ab_m) (k : Int), l 0 = 109 → l 1 = fuel → l 2 = k → 0 ≤ k → (3002 - k).toNat = m → rtC μ μ1 fuel → jj_mM_runText X (d + 1) 2 l [] μ1 P := by
    intro m
    induction m with
    | zero =>
      intro l μ1 k l0 l1 l2 k0 em hC
      refine bk_mM_runText_2 l0 ⟨fun _ => ?_, fun z => by rw [l2] at z; omega⟩
      have w18 : μ1 109 18 = g := by rw [hC.fr 109 18 (by omega) (by omega)]; exact hg
      have w124 : μ1 124 g = μ 124 g := hC.fr 124 g (by omega) (by omega)
      rw [w18, w124]
      obtain ⟨b1, b2, b3, b4, -⟩ := t.b
      exact ⟨by omega, c_mM_runText37 t hg g01 rs h53.2 (by omega) hP _ _ _ μ1 [] 0 (μ 124 g) l0 l1 rfl rfl (by show (0 : Int) = _; rw [b4]; rfl) b1 b2 ⟨b3, rfl⟩ trivial hC rfl rfl⟩
    | succ m ih =>
      intro l μ1 k l0 l1 l2 k0 em hC
      refine bk_mM_runText_2 l0 ⟨fun z => by rw [l2] at z; omega, fun z => ?_⟩
      rw [l2, show ab_w (k + 1) = k + 1 from ab_wi (by omega) (by omega)]
      exact ⟨by omega, fun μ2 e2 => ih _ μ2 (k + 1) l0 l1 rfl (by omega) (by omega) (hC.mu e2 (by decide))⟩
  exact bk_mM_runText_0 rfl (s2 _ _ μ 0 rfl rfl rfl (by decide) rfl ⟨fun _ _ _ _ => rfl, by omega, by omega, by omega⟩)
end M76
/-- what a run needs -/
def rnI (μ : ab_m) : Prop := (μ 109 18 = 0 ∨ μ 109 18 = 1) ∧ (∀ j, 0 ≤ j → j < 16 → 0 ≤ μ 121 j ∧ μ 121 j ≤ 100) ∧ (0 ≤ μ 109 53 ∧ μ 109 53 ≤ 200) ∧ (μ 109 19 ≠ 0 → ∃ Γ N dn, tW μ (μ 109 18) Γ N dn) ∧ (μ 109 72 ≠ 0 → mWF μ 0 (μ 109 69) (μ 109 71)) ∧ (μ 109 73 ≠ 0 → mWF μ 500 (μ 109 70) (μ 109 71) ∧ ∀ i, 0 ≤ i → i < μ 109 70 → mRs μ (500 + i) fun r => 0 ≤ μ 175 r ∧ μ 175 r < 300)
theorem rnI.now {μ : ab_m} (h'' : rnI μ) : μ 109 18 = 0 ∨ μ 109 18 = 1 := h''.1
theorem rnI.rs {μ : ab_m} (h'' : rnI μ) : ∀ j, 0 ≤ j → j < 16 → 0 ≤ μ 121 j ∧ μ 121 j ≤ 100 := h''.2.1
theorem rnI.inp {μ : ab_m} (h'' : rnI μ) : 0 ≤ μ 109 53 ∧ μ 109 53 ≤ 200 := h''.2.2.1
theorem rnI.txt {μ : ab_m} (h'' : rnI μ) : μ 109 19 ≠ 0 → ∃ Γ N dn, tW μ (μ 109 18) Γ N dn := h''.2.2.2.1
theorem rnI.low {μ : ab_m} (h'' : rnI μ) : μ 109 72 ≠ 0 → mWF μ 0 (μ 109 69) (μ 109 71) := h''.2.2.2.2.1
theorem rnI.imp {μ : ab_m} (h'' : rnI μ) : μ 109 73 ≠ 0 → mWF μ 500 (μ 109 70) (μ 109 71) ∧ ∀ i, 0 ≤ i → i < μ 109 70 → mRs μ (500 + i) fun r => 0 ≤ μ 175 r ∧ μ 175 r < 300 := h''.2.2.2.2.2
section M76
variable {X : jm_X} {d : Nat} {P : Int → ab_m → Prop} {μ : ab_m} {g N dn fuel : Int} {Γ : tQ}
theorem rnI.same {μ' : ab_m} (h : rnI μ) (hf : fRun μ μ') : rnI μ' := by
  have f9 : ∀ j, ¬ (j = 0 ∨ j = 54 ∨ j = 56 ∨ j = 57 ∨ j = 110) → μ' 109 j = μ 109 j := fun j z => hf 109 j (by omega) (by omega) (fun y => z y.2)
  have sm : ∀ c i, 145 ≤ c → c ≤ 150 → μ' c i = μ c i := fun c i a b => hf c i (by omega) (by omega) (by omega)
  refine ⟨by rw [f9 18 (by omega)]; exact h.now, fun j a b => by rw [hf 121 j (by omega) (by omega) (by omega)]; exact h.rs j a b, by rw [f9 53 (by omega)]; exact h.inp, fun q => ?_, fun q => ?_, fun q => ?_⟩
  · rw [f9 19 (by omega)] at q
    obtain ⟨Γ, N, dn, t⟩ := h.txt q
    have := h.now
    rw [f9 18 (by omega)]
    exact ⟨Γ, N, dn, t.same (g := 1 - μ 109 18) (fun c j z _ => hf c j (by omega) (by omega) (by omega)) ⟨by omega, h.now, by omega⟩⟩
  · rw [f9 72 (by omega)] at q
    rw [f9 69 (by omega), f9 71 (by omega)]
    exact (h.low q).same sm
  · rw [f9 73 (by omega)] at q
    rw [f9 70 (by omega), f9 71 (by omega)]
    refine ⟨(h.imp q).1.same sm, fun i x y => ?_⟩
    have := (h.imp q).2 i x y
    unfold mRs mUA mUB mDf at this ⊢
    have u175 : ∀ j, μ' 175 j = μ 175 j := fun j => hf 175 j (by omega) (by decide) (by omega)
    simp only [sm 145 _ (by decide) (by decide), sm 146 _ (by decide) (by decide), sm 147 _ (by decide) (by decide), sm 148 _ (by decide) (by decide), sm 149 _ (by decide) (by decide), sm 150 _ (by decide) (by decide), u175]
    exact this
theorem c_mM_run {mode f : Int} (h : rnI μ) (hp0 : 0 ≤ μ 109 56 ∧ μ 109 56 ≤ 300) (hP : ∀ r μ', fRun μ μ' → 0 ≤ μ' 109 56 → μ' 109 56 ≤ 300 → P r μ') : jj_mM_run X (d + 3) 0 (ab_la [109, mode, f]) [] μ P := by
  have la0 : (ab_la [109, mode, f]) 0 = 109 := rfl
  have la1 : (ab_la [109, mode, f]) 1 = mode := rfl
  have la2 : (ab_la [109, mode, f]) 2 = f := rfl
  have s93 : ∀ (s1 : Int) (μ1 : ab_m), (s1 = 0 ∨ s1 = 1) → (s1 = 1 → mode = 3) → 0 ≤ mode → mode ≤ 3 → 0 ≤ f → f ≤ 100000 → (mode = 0 → μ 109 19 ≠ 0) → (mode = 1 → μ 109 72 ≠ 0) → (2 ≤ mode → μ 109 73 ≠ 0) → fRun μ μ1 → μ1 109 54 = 0 → μ1 109 56 = 0 → μ1 109 57 = 0 → jj_mM_run X (d + 3) 93 (ab_la [109, mode, f]) [(0, s1), (2, 109)] μ1 P := by
    intro s1 μ1 s01 s3 m0 m3 f0 f1 a0 a1 a2 fr t0 p0 u0
    refine bk_mM_run_93 la0 ⟨by omega, fun μ2 e2 => ?_⟩
    rw [la1, la2]
    have fr2 : fRun μ μ2 := by rw [e2]; exact fr.mu (by decide)
    have g : ∀ c j, ¬ (c = 109 ∧ j = 110) → μ2 c j = μ1 c j := fun c j z => by rw [e2, ab_mud, if_neg z]
    have e110 : μ2 109 110 = s1 := by rw [e2, ab_mud, if_pos ⟨rfl, rfl⟩]
    have r2 := h.same fr2
    have f9 : ∀ j, ¬ (j = 0 ∨ j = 54 ∨ j = 56 ∨ j = 57 ∨ j = 110) → μ2 109 j = μ 109 j := fun j z => fr2 109 j (by omega) (by omega) (fun y => z y.2)
    have rw2 : mRw μ2 := ⟨r2.now, fun j a b => (r2.rs j a b).2⟩
    refine ⟨fun n0 => ⟨fun n1 => ?_, fun e1 => ?_⟩, fun e0 => ?_⟩
    · obtain ⟨w1, w2⟩ := r2.imp (by rw [f9 73 (by omega)]; exact a2 (by omega))
      exact c_mM_runCode (Or.inr rfl) ⟨w1, fun _ => w2, rw2, r2.inp⟩ ⟨f0, f1⟩ (by rw [g 109 57 (by omega)]; exact u0) (by rw [g 109 54 (by omega)]; exact t0) (by rw [g 109 56 (by omega)]; exact p0) fun r μ' fr' q1 q2 => hP r μ' (fr2.trans fr') q1 q2
    · have w1 := r2.low (by rw [f9 72 (by omega)]; exact a1 e1)
      exact c_mM_runCode (Or.inl rfl) ⟨w1, fun z => by rw [e110] at z; omega, rw2, r2.inp⟩ ⟨f0, f1⟩ (by rw [g 109 57 (by omega)]; exact u0) (by rw [g 109 54 (by omega)]; exact t0) (by rw [g 109 56 (by omega)]; exact p0) fun r μ' fr' q1 q2 => hP r μ' (fr2.trans fr') q1 q2
    · obtain ⟨Γ, N, dn, t⟩ := r2.txt (by rw [f9 19 (by omega)]; exact a0 e0)
      exact c_mM_runText t rfl r2.now r2.rs r2.inp ⟨f0, f1⟩ (by rw [g 109 57 (by omega)]; exact u0) (by rw [g 109 54 (by omega)]; exact t0) (by rw [g 109 56 (by omega)]; exact p0) fun r μ' hC => hP r μ' (fr2.trans fun c i z1 _ z3 => hC.fr c i (by omega) (fun y => z3 (by omega))) hC.pr.1 hC.pr.2
  have s66 : ∀ s1 : Int, (s1 ≤ 0 → s1 = 0 ∧ 0 ≤ mode ∧ mode ≤ 3 ∧ 0 ≤ f ∧ f ≤ 100000 ∧ (mode = 0 → μ 109 19 ≠ 0) ∧ (mode = 1 → μ 109 72 ≠ 0) ∧ (2 ≤ mode → μ 109 73 ≠ 0)) → jj_mM_run X (d + 3) 66 (ab_la [109, mode, f]) [(0, s1), (2, 109)] μ P := by
    intro s1 hs
    refine bk_mM_run_66 la0 fun μ1 e1 => ?_
    have e0 : μ1 109 0 = s1 := by rw [e1, ab_mud, if_pos ⟨rfl, rfl⟩]
    have fr1 : fRun μ μ1 := by rw [e1]; exact fRun.rf.mu (by decide)
    rw [e0, la1]
    refine ⟨fun z => ?_, fun z => hP _ _ fr1 (by rw [e1, ab_mud, if_neg (by omega)]; exact hp0.1) (by rw [e1, ab_mud, if_neg (by omega)]; exact hp0.2)⟩
    obtain ⟨-, m0, m3, f0, f1, a0, a1, a2⟩ := hs z
    refine c_mM_beginRun fun μ2 f2 t0 p0 u0 => ?_
    have fr2 : fRun μ μ2 := fr1.trans fun c i z1 z2 z3 => f2 c i (by omega) (fun y => z3 (by omega))
    exact ⟨fun z => s93 0 μ2 (Or.inl rfl) (fun y => absurd y (by decide)) m0 m3 f0 f1 a0 a1 a2 fr2 t0 p0 u0, fun z => s93 1 μ2 (Or.inr rfl) (fun _ => z) m0 m3 f0 f1 a0 a1 a2 fr2 t0 p0 u0⟩
  refine bk_mM_run_0 la0 ?_
  rw [la1, la2]
  refine ⟨fun z => s66 1 fun y => absurd y (by decide), fun z => ⟨fun z2 => s66 1 fun y => absurd y (by decide), fun z2 => ⟨fun z3 => s66 1 fun y => absurd y (by decide), fun z3 => ⟨fun z4 => ⟨fun z5 => ⟨fun z6 => ⟨fun z7 => s66 0 fun _ => ⟨rfl, by omega, by omega, by omega, by omega, by omega, by omega, fun _ => z7⟩, fun z7 => s66 2 fun y => absurd y (by decide)⟩, fun z6 => ⟨fun z7 => s66 2 fun y => absurd y (by decide), fun z7 => s66 0 fun _ => ⟨rfl, by omega, by omega, by omega, by omega, by omega, fun _ => z7, by omega⟩⟩⟩, fun z5 => ⟨fun z6 => s66 2 fun y => absurd y (by decide), fun z6 => s66 0 fun _ => ⟨rfl, by omega, by omega, by omega, by omega, fun _ => z6, by omega, by omega⟩⟩⟩, fun z4 => s66 1 fun y => absurd y (by decide)⟩⟩⟩⟩
end M76

