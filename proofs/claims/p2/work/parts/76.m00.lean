/-! THE REFERENCE, part 5: findKnown -/
section M5
variable {X : jm_X} {d : Nat} {P : Int → ab_m → Prop}
/-- what findKnown writes -/
def fKn (μ μ' : ab_m) : Prop := ∀ c i, (c < 161 ∨ 164 < c) → ¬ (c = 109 ∧ (i = 91 ∨ i = 92)) → μ' c i = μ c i
theorem fKn.fl {μ μ1 μ2 : ab_m} (h : fKn μ μ1) (h2 : fFl μ1 μ2) : fKn μ μ2 := fun c i g1 g2 => (h2 c i g1).trans (h c i g1 g2)
theorem fKn.mk {μ μ1 μ2 : ab_m} (h : fKn μ μ1) (h2 : fMk μ1 μ2) : fKn μ μ2 := fun c i g1 g2 => (h2 c i g2).trans (h c i g1 g2)
theorem fKn.mu {μ μ' : ab_m} {a i v : Int} (h : fKn μ μ') (ha : 161 ≤ a ∧ a ≤ 164) : fKn μ (ab_mu μ' a i v) := by
  intro c j hc h2
  rw [ab_mud, if_neg (by omega)]
  exact h c j hc h2
theorem c_mM_findKnown {μ : ab_m} {b n R : Int} (hb : b = 0 ∨ b = 500) (hW : mWF μ b n R) (hR : μ 109 71 = R) (hP : ∀ μ', fKn μ μ' → P 0 μ') : jj_mM_findKnown X (d + 2) 0 (ab_la [109, b, n]) [] μ P := by
  have n1 : 1 ≤ n ∧ n ≤ 400 ∧ 0 ≤ R ∧ R ≤ 300 := ⟨hW.1, hW.2.1, hW.2.2.1, hW.2.2.2.1⟩
  have wf : ∀ μ1, fKn μ μ1 → mWF μ1 b n R := fun μ1 h => hW.same fun c i g1 g2 => h c i (by omega) (by omega)
  have rr : ∀ μ1, fKn μ μ1 → μ1 109 71 = R := fun μ1 h => by rw [h 109 71 (by omega) (by omega)]; exact hR
  -- the instructions, from i on
  have s82 : ∀ (m : Nat) (l : ab_l) (μ1 : ab_m) (i more : Int) (c : Nat), l 0 = 109 → l 1 = b → l 2 = n → l 3 = more → l 4 = i → 0 ≤ i → i ≤ n → (n - i).toNat = m → fKn μ μ1 → (more = 0 ∧ mK μ1 ≤ c ∨ more = 1 ∧ mK μ1 < c) →
      (∀ (l' : ab_l) (μ2 : ab_m) (more' : Int), l' 0 = 109 → l' 1 = b → l' 2 = n → l' 3 = more' → fKn μ μ2 → (more' = 0 ∧ mK μ2 ≤ c ∨ more' = 1 ∧ mK μ2 < c) → jj_mM_findKnown X (d + 2) 73 l' [] μ2 P) → jj_mM_findKnown X (d + 2) 82 l [] μ1 P := by
    intro m
    induction m using Nat.strongRecOn with
    | ind m ih =>
      intro l μ1 i more c h0 h1 h2 h3 h4 hi hin hm hf hc k
      refine bk_mM_findKnown_82 h0 ?_
      simp only [h1, h2, h4]
      simp (disch := omega) only [ab_wi]
      refine ⟨fun _ => k l μ1 more h0 h1 h2 h3 hf hc, fun h => ⟨by omega, fun hz => ⟨by omega, fun μ2 e2 => ?_⟩, fun _ => ih _ (by omega) _ μ1 (i + 1) more c h0 h1 h2 h3 rfl (by omega) (by omega) rfl hf hc k⟩⟩
      have hf2 : fKn μ μ2 := by rw [e2]; exact hf.mu (by omega)
      have lt2 : mK μ2 < mK μ1 := by
        have a : μ2 163 = μ1 163 := by rw [e2]; exact mu_ne (by decide)
        have b' : μ2 161 = μ1 161 := by rw [e2]; exact mu_ne (by decide)
        have c' : ab_nz (μ2 164) 402 < ab_nz (μ1 164) 402 := by rw [e2]; exact nz_lt (by omega) (by omega) hz
        unfold mK
        rw [a, b']
        omega
      have hlt : mK μ2 < c := by omega
      -- behind the flows
      have s275 : ∀ (l' : ab_l) (μ3 : ab_m) (u v : Int), l' 0 = 109 → l' 1 = b → l' 2 = n → l' 3 = 1 → l' 4 = i → l' 5 = b + i → l' 7 = u → l' 8 = v → fKn μ μ3 → mK μ3 < c → jj_mM_findKnown X (d + 2) 275 l' [] μ3 P := by
        intro l' μ3 u v g0 g1 g2 g3 g4 g5 g7 g8 hf3 hlt3
        refine bk_mM_findKnown_275 g0 ?_
        simp only [g1, g4, g5]
        simp (disch := omega) only [ab_wi]
        have on : ∀ μ4, fKn μ μ4 → mK μ4 < c → jj_mM_findKnown X (d + 2) 82 (ab_up l' 4 (i + 1)) [] μ4 P := fun μ4 q1 q2 => ih _ (by omega) _ μ4 (i + 1) 1 c g0 g1 g2 g3 rfl (by omega) (by omega) rfl q1 (Or.inr ⟨rfl, q2⟩) k
        have fl : (μ3 145 (b + i) = 25 ∨ μ3 145 (b + i) = 26 ∨ μ3 145 (b + i) = 27) → jj_mM_flow X (d + 1) 0 (ab_la [109, b, i, μ3 146 (b + i)]) [] μ3 (fun r5 μ4 => jj_mM_findKnown X (d + 2) 82 (ab_up l' 4 (i + 1)) [] μ4 P) := by
          intro q
          have hd := ((wf μ3 hf3).2.2.2.2 i hi h).2.2.2.2.2.1 q
          exact c_mM_flow (rr μ3 hf3) (by omega) (by omega) hb (by omega) (by omega) fun μ4 q1 q2 => on μ4 (hf3.fl q1) (by omega)
        refine c_mM_leaps (by omega) (fun q => ⟨fun e => by omega, fun _ => ⟨fun _ => ⟨by omega, fl q⟩, fun _ => ⟨fun _ => on μ3 hf3 hlt3, fun _ => ⟨by omega, fl q⟩⟩⟩⟩) (fun _ _ _ => ⟨fun _ => on μ3 hf3 hlt3, fun e => absurd rfl e⟩)
      have s248 : ∀ (l' : ab_l) (μ3 : ab_m) (u s : Int), l' 0 = 109 → l' 1 = b → l' 2 = n → l' 3 = 1 → l' 4 = i → l' 5 = b + i → l' 7 = u → fKn μ μ3 → mK μ3 < c → jj_mM_findKnown X (d + 2) 248 l' [(0, s)] μ3 P := by
        intro l' μ3 u s g0 g1 g2 g3 g4 g5 g7 hf3 hlt3
        refine bk_mM_findKnown_248 g0 ?_
        simp only [g1, g4, g5]
        simp (disch := omega) only [ab_wi]
        refine c_mM_goesOn (by omega) (fun q1 q2 => ⟨fun _ => s275 _ μ3 u s g0 g1 g2 g3 g4 g5 g7 rfl hf3 hlt3, fun _ => ⟨fun _ => s275 _ μ3 u s g0 g1 g2 g3 g4 g5 g7 rfl hf3 hlt3, fun _ => ?_⟩⟩) (fun _ => ⟨fun _ => s275 _ μ3 u s g0 g1 g2 g3 g4 g5 g7 rfl hf3 hlt3, fun e => absurd rfl e⟩)
        have hne : i ≠ n - 1 := by
          intro e
          have := ((wf μ3 hf3).2.2.2.2 i hi h).2.2.2.2.2.2.2.2.1 e
          omega
        exact c_mM_flow (rr μ3 hf3) (by omega) (by omega) hb (by omega) (by omega) fun μ4 q1 q2 => s275 _ μ4 u s g0 g1 g2 g3 g4 g5 g7 rfl (hf3.fl q1) (by omega)
      have s223 : ∀ (l' : ab_l) (μ3 : ab_m) (u s : Int), l' 0 = 109 → l' 1 = b → l' 2 = n → l' 3 = 1 → l' 4 = i → l' 5 = b + i → l' 7 = u → fKn μ μ3 → mK μ3 < c → jj_mM_findKnown X (d + 2) 223 l' [(0, s)] μ3 P := by
        intro l' μ3 u s g0 g1 g2 g3 g4 g5 g7 hf3 hlt3
        refine bk_mM_findKnown_223 g0 ?_
        simp only [g5]
        have on : ∀ s, jj_mM_findKnown X (d + 2) 248 l' [(0, s)] μ3 P := fun s => s248 l' μ3 u s g0 g1 g2 g3 g4 g5 g7 hf3 hlt3
        exact ⟨by omega, fun _ => ⟨fun _ => on _, fun _ => on _⟩, fun _ => ⟨fun _ => on _, fun _ => on _⟩⟩
      have sA : ∀ μ3, fKn μ μ3 → (μ3 145 (b + i) = 26 ∨ μ3 145 (b + i) = 27) → μ3 149 (b + i) = 0 → 0 ≤ μ3 147 (b + i) ∧ μ3 147 (b + i) < 300 := by
        intro μ3 q1 q2 q3
        have := ((wf μ3 q1).2.2.2.2 i hi h).2.2.1 ⟨q3, by omega⟩
        omega
      have s188 : ∀ (l' : ab_l) (μ3 : ab_m) (s : Int), l' 0 = 109 → l' 1 = b → l' 2 = n → l' 3 = 1 → l' 4 = i → l' 5 = b + i → fKn μ μ3 → mK μ3 < c → (s ≠ 0 → μ3 145 (b + i) = 26 ∨ μ3 145 (b + i) = 27) → jj_mM_findKnown X (d + 2) 188 l' [(0, s)] μ3 P := by
        intro l' μ3 s g0 g1 g2 g3 g4 g5 hf3 hlt3 hs
        refine bk_mM_findKnown_188 g0 ?_
        simp only [g4, g5]
        refine ⟨fun _ => s248 _ μ3 s 0 g0 g1 g2 g3 g4 g5 rfl hf3 hlt3, fun q => ⟨by omega, by omega, ?_⟩⟩
        exact c_mM_whatOf (sA μ3 hf3 (hs q)) (by omega) fun w => ⟨fun _ => s223 _ μ3 s 0 g0 g1 g2 g3 g4 g5 rfl hf3 hlt3, fun _ => s223 _ μ3 s 1 g0 g1 g2 g3 g4 g5 rfl hf3 hlt3⟩
      have s153 : ∀ (l' : ab_l) (μ3 : ab_m) (s : Int), l' 0 = 109 → l' 1 = b → l' 2 = n → l' 3 = 1 → l' 4 = i → l' 5 = b + i → fKn μ μ3 → mK μ3 < c → (s ≠ 0 → μ3 145 (b + i) = 26 ∨ μ3 145 (b + i) = 27) → jj_mM_findKnown X (d + 2) 153 l' [(0, s)] μ3 P := by
        intro l' μ3 s g0 g1 g2 g3 g4 g5 hf3 hlt3 hs
        refine bk_mM_findKnown_153 g0 ?_
        simp only [g4, g5]
        refine ⟨fun _ => s188 _ μ3 0 g0 g1 g2 g3 g4 g5 hf3 hlt3 (fun e => absurd rfl e), fun q => ⟨by omega, by omega, ?_⟩⟩
        exact c_mM_isSure (sA μ3 hf3 (hs q)) (by omega) fun w _ => ⟨fun _ => s188 _ μ3 0 g0 g1 g2 g3 g4 g5 hf3 hlt3 (fun e => absurd rfl e), fun _ => s188 _ μ3 1 g0 g1 g2 g3 g4 g5 hf3 hlt3 (fun _ => hs q)⟩
      refine c_mM_make hb (wf μ2 hf2) ⟨hi, h⟩ fun μ3 hmk => ?_
      have hf3 : fKn μ μ3 := hf2.mk hmk
      have hlt3 : mK μ3 < c := by
        have a : μ3 163 = μ2 163 := funext fun j => hmk 163 j (by omega)
        have b' : μ3 161 = μ2 161 := funext fun j => hmk 161 j (by omega)
        have c' : μ3 164 = μ2 164 := funext fun j => hmk 164 j (by omega)
        unfold mK at hlt ⊢
        rw [a, b', c']
        exact hlt
      exact ⟨by omega, fun q => s153 _ μ3 1 h0 h1 h2 rfl h4 rfl hf3 hlt3 (fun _ => Or.inl q), fun q => ⟨by omega, fun q2 => s153 _ μ3 0 h0 h1 h2 rfl h4 rfl hf3 hlt3 (fun e => absurd rfl e), fun q2 => s153 _ μ3 1 h0 h1 h2 rfl h4 rfl hf3 hlt3 (fun _ => Or.inr q2)⟩⟩
  have s73 : ∀ (m : Nat) (l : ab_l) (μ1 : ab_m) (more : Int), l 0 = 109 → l 1 = b → l 2 = n → l 3 = more → (more = 0 ∨ more = 1) → 2 * mK μ1 + more.toNat = m → fKn μ μ1 → jj_mM_findKnown X (d + 2) 73 l [] μ1 P := by
    intro m
    induction m using Nat.strongRecOn with
    | ind m ih =>
      intro l μ1 more h0 h1 h2 h3 hmr hm hf
      refine bk_mM_findKnown_73 h0 ?_
      rw [h3]
      refine ⟨fun _ => hP μ1 hf, fun h => ?_⟩
      exact s82 _ _ μ1 0 0 (mK μ1) h0 h1 h2 rfl rfl (by omega) (by omega) rfl hf (Or.inl ⟨rfl, Nat.le_refl _⟩) fun l' μ2 more' g0 g1 g2 g3 g4 g5 => ih _ (by omega) l' μ2 more' g0 g1 g2 g3 (by omega) rfl g4
  have s29 : ∀ (m : Nat) (l : ab_l) (μ1 : ab_m) (r : Int), l 0 = 109 → l 1 = b → l 2 = n → l 3 = r → 0 ≤ r → r ≤ R → (R - r).toNat = m → fKn μ μ1 → jj_mM_findKnown X (d + 2) 29 l [] μ1 P := by
    intro m
    induction m using Nat.strongRecOn with
    | ind m ih =>
      intro l μ1 r h0 h1 h2 h3 hr hrR hm hf
      refine bk_mM_findKnown_29 h0 ?_
      simp only [h3, rr μ1 hf]
      simp (disch := omega) only [ab_wi]
      refine ⟨fun _ => ⟨by omega, fun μ2 e2 => ⟨by omega, fun μ3 e3 => ?_⟩⟩, fun h => ⟨by omega, fun μ2 e2 => ⟨by omega, fun μ3 e3 => ?_⟩⟩⟩
      · exact s73 _ _ μ3 1 h0 h1 h2 rfl (Or.inr rfl) rfl (by rw [e3, e2]; exact (hf.mu (by omega)).mu (by omega))
      · exact ih _ (by omega) _ μ3 (r + 1) h0 h1 h2 rfl (by omega) (by omega) rfl (by rw [e3, e2]; exact (hf.mu (by omega)).mu (by omega))
  have s2 : ∀ (m : Nat) (l : ab_l) (μ1 : ab_m) (i : Int), l 0 = 109 → l 1 = b → l 2 = n → l 3 = i → 0 ≤ i → i ≤ n → (n - i).toNat = m → fKn μ μ1 → jj_mM_findKnown X (d + 2) 2 l [] μ1 P := by
    intro m
    induction m using Nat.strongRecOn with
    | ind m ih =>
      intro l μ1 i h0 h1 h2 h3 hi hin hm hf
      refine bk_mM_findKnown_2 h0 ?_
      simp only [h2, h3]
      simp (disch := omega) only [ab_wi]
      refine ⟨fun _ => s29 _ _ μ1 0 h0 h1 h2 rfl (by omega) (by omega) rfl hf, fun h => ⟨by omega, fun μ2 e2 => ⟨by omega, fun μ3 e3 => ?_⟩⟩⟩
      exact ih _ (by omega) _ μ3 (i + 1) h0 h1 h2 rfl (by omega) (by omega) rfl (by rw [e3, e2]; exact (hf.mu (by omega)).mu (by omega))
  exact bk_mM_findKnown_0 rfl (s2 _ _ μ 0 rfl rfl rfl rfl (by omega) (by omega) rfl fun _ _ _ _ => rfl)
end M5

/-! THE REFERENCE, part 6: leaveOut -/
section M6
variable {X : jm_X} {d : Nat} {P : Int → ab_m → Prop}
theorem ab_cn_succ (p : Nat → Bool) (n : Nat) : ab_cn p (n + 1) = ab_cn p n + (bif p n then 1 else 0) := rfl
theorem ab_z_succ (f : Int → Int) (n : Nat) : ab_z f (n + 1) = ab_z f n + (if f n = 0 then 1 else 0) := by
  unfold ab_z
  rw [ab_cn_succ]
  by_cases h : f n = 0 <;> simp [h]
theorem ab_z_le (f : Int → Int) (n : Nat) : ab_z f n ≤ n := ab_cn_le _ n
theorem ab_z_mono {f : Int → Int} {i n : Nat} (h : i ≤ n) : ab_z f i ≤ ab_z f n := by
  induction n with
  | zero => rw [show i = 0 by omega]; exact Nat.le_refl _
  | succ n ih =>
    by_cases h1 : i = n + 1
    · rw [h1]; exact Nat.le_refl _
    · have := ih (by omega)
      rw [ab_z_succ]
      omega
def mIsL (x : Int) : Prop := x = 25 ∨ x = 26 ∨ x = 27
/-- what leaveOut writes -/
def fLv (μ μ' : ab_m) : Prop := ∀ c i, c ≠ 173 → ¬ (c = 109 ∧ (i = 70 ∨ i = 93)) → ¬ (145 ≤ c ∧ c ≤ 150 ∧ 500 ≤ i) → μ' c i = μ c i
theorem fLv.mu {μ μ' : ab_m} {a j v : Int} (h : fLv μ μ') (ha : a = 173 ∨ (a = 109 ∧ (j = 70 ∨ j = 93)) ∨ (145 ≤ a ∧ a ≤ 150 ∧ 500 ≤ j)) : fLv μ (ab_mu μ' a j v) := by
  intro c i g1 g2 g3
  rw [ab_mud, if_neg (by omega)]
  exact h c i g1 g2 g3
/-- instruction i has come to its new place -/
def mMv (μ μ' : ab_m) (i : Nat) : Prop := μ' 145 (500 + (ab_z (μ 172) i : Int)) = μ 145 (500 + (i : Int)) ∧ μ' 147 (500 + (ab_z (μ 172) i : Int)) = μ 147 (500 + (i : Int)) ∧ μ' 148 (500 + (ab_z (μ 172) i : Int)) = μ 148 (500 + (i : Int)) ∧ μ' 149 (500 + (ab_z (μ 172) i : Int)) = μ 149 (500 + (i : Int)) ∧ μ' 150 (500 + (ab_z (μ 172) i : Int)) = μ 150 (500 + (i : Int)) ∧
  (mIsL (μ 145 (500 + (i : Int))) → μ' 146 (500 + (ab_z (μ 172) i : Int)) = (ab_z (μ 172) (μ 146 (500 + (i : Int))).toNat : Int)) ∧ (¬ mIsL (μ 145 (500 + (i : Int))) → μ' 146 (500 + (ab_z (μ 172) i : Int)) = μ 146 (500 + (i : Int)))
def mChg (μ : ab_m) (n : Nat) (v : Int) : Prop := v = if μ 109 93 ≠ 0 ∨ ab_z (μ 172) n < n then 1 else 0
def mLv (μ μ' : ab_m) (n : Nat) : Prop := μ' 109 70 = (ab_z (μ 172) n : Int) ∧ (∀ i : Nat, i < n → μ 172 i = 0 → mMv μ μ' i) ∧ mChg μ n (μ' 109 93)
theorem ab_rgb {x : Int} (h : ab_rg 4 x) : x % 2 = x := by
  have h : 0 ≤ x ∧ x ≤ 1 := h
  omega
theorem c_mM_leaveOut {μ : ab_m} {n : Nat} (hn : μ 109 70 = (n : Int)) (hn4 : n ≤ 400) (hg : ab_Rg μ) (hd : ∀ i : Nat, i < n → mIsL (μ 145 (500 + (i : Int))) → 0 ≤ μ 146 (500 + (i : Int)) ∧ μ 146 (500 + (i : Int)) ≤ n) (hP : ∀ μ', fLv μ μ' → mLv μ μ' n → P 0 μ') : jj_mM_leaveOut X (d + 1) 0 (ab_la [109]) [] μ P := by
  -- the second loop
  have s76 : ∀ (m : Nat) (l : ab_l) (μ1 : ab_m) (i : Nat), l 0 = 109 → l 1 = (ab_z (μ 172) n : Int) → l 2 = (i : Int) → i ≤ n → n - i = m → fLv μ μ1 → μ1 109 70 = (n : Int) → (∀ j : Nat, j ≤ n → μ1 173 j = (ab_z (μ 172) j : Int)) → (∀ (c : Int) (j : Nat), 145 ≤ c → c ≤ 150 → i ≤ j → μ1 c (500 + (j : Int)) = μ c (500 + (j : Int))) → (∀ j : Nat, j < i → μ 172 j = 0 → mMv μ μ1 j) → mChg μ n (μ1 109 93) → jj_mM_leaveOut X (d + 1) 76 l [] μ1 P := by
    intro m
    induction m using Nat.strongRecOn with
    | ind m ih =>
      intro l μ1 i h0 h1 h2 hin hm hf h70 h173 hun hmv h93
      refine bk_mM_leaveOut_76 h0 ?_
      simp only [h1, h2, h70]
      have zi := ab_z_le (μ 172) i
      have zn := ab_z_le (μ 172) n
      rw [show ab_w (500 + (i : Int)) = 500 + (i : Int) from ab_wi (by omega) (by omega), (show ab_w ((i : Int) + 1) = ((i + 1 : Nat) : Int) by rw [ab_wi (by omega) (by omega)]; omega), h173 i hin, show ab_w (500 + (ab_z (μ 172) i : Int)) = 500 + (ab_z (μ 172) i : Int) from ab_wi (by omega) (by omega)]
      have g172 : μ1 172 i = μ 172 i := hf 172 _ (by decide) (by omega) (by omega)
      rw [g172]
      refine ⟨fun h μ2 e => ?_, fun h => ⟨by omega, fun hz => ⟨by omega, by omega, by omega, fun μ2 e4 => ?_⟩, fun hz => ?_⟩⟩
      · refine hP μ2 (by rw [e]; exact hf.mu (by omega)) ⟨?_, ?_, ?_⟩
        · rw [e, ab_mud, if_pos ⟨rfl, rfl⟩]
        · intro j hj hz
          have := hmv j (by omega) hz
          unfold mMv at this ⊢
          rw [e]
          simp only [mu_ne (show (145 : Int) ≠ 109 by decide), mu_ne (show (146 : Int) ≠ 109 by decide), mu_ne (show (147 : Int) ≠ 109 by decide), mu_ne (show (148 : Int) ≠ 109 by decide), mu_ne (show (149 : Int) ≠ 109 by decide), mu_ne (show (150 : Int) ≠ 109 by decide)]
          exact this
        · rw [e, ab_mud, if_neg (by omega)]
          exact h93
      · -- kept
        have op2 : μ2 145 (500 + (i : Int)) = μ 145 (500 + (i : Int)) := by
          rw [e4, ab_mud]
          split
          · exact hun 145 i (by decide) (by decide) (Nat.le_refl _)
          · exact hun 145 i (by decide) (by decide) (Nat.le_refl _)
        have d2 : μ2 146 (500 + (i : Int)) = μ 146 (500 + (i : Int)) := by
          rw [e4, mu_ne (by decide)]
          exact hun 146 i (by decide) (by decide) (Nat.le_refl _)
        have s161 : ∀ (l' : ab_l) (v : Int), l' 0 = 109 → l' 1 = (ab_z (μ 172) n : Int) → l' 2 = (i : Int) → l' 3 = 500 + (i : Int) → l' 4 = 500 + (ab_z (μ 172) i : Int) → (mIsL (μ 145 (500 + (i : Int))) → v = (ab_z (μ 172) (μ 146 (500 + (i : Int))).toNat : Int)) → (¬ mIsL (μ 145 (500 + (i : Int))) → v = μ 146 (500 + (i : Int))) → jj_mM_leaveOut X (d + 1) 161 l' [(0, v), (0, 500 + (ab_z (μ 172) i : Int)), (2, 146)] μ2 P := by
          intro l' v g0 g1 g2 g3 g4 hv1 hv2
          refine bk_mM_leaveOut_161 g0 ?_
          simp only [g2, g3, g4]
          rw [(show ab_w ((i : Int) + 1) = ((i + 1 : Nat) : Int) by rw [ab_wi (by omega) (by omega)]; omega)]
          refine ⟨by omega, fun μ3 q3 => ⟨by omega, by omega, fun μ4 q4 => ⟨by omega, by omega, fun μ5 q5 => ⟨by omega, by omega, fun μ6 q6 => ⟨by omega, by omega, fun μ7 q7 => ?_⟩⟩⟩⟩⟩
          -- what stands in the new picture
          have b9 : ∀ j : Int, ab_rg 4 (μ 149 j) := fun j => hg 149 j (by decide)
          have b0 : ∀ j : Int, ab_rg 4 (μ 150 j) := fun j => hg 150 j (by decide)
          have c145 : μ7 145 = μ2 145 := by rw [q7, q6, q5, q4, q3]; simp only [mu_ne (show (145 : Int) ≠ 150 by decide), mu_ne (show (145 : Int) ≠ 149 by decide), mu_ne (show (145 : Int) ≠ 148 by decide), mu_ne (show (145 : Int) ≠ 147 by decide), mu_ne (show (145 : Int) ≠ 146 by decide)]
          have c146 : μ7 146 = ab_mu μ2 146 (500 + (ab_z (μ 172) i : Int)) v 146 := by rw [q7, q6, q5, q4, q3]; simp only [mu_ne (show (146 : Int) ≠ 150 by decide), mu_ne (show (146 : Int) ≠ 149 by decide), mu_ne (show (146 : Int) ≠ 148 by decide), mu_ne (show (146 : Int) ≠ 147 by decide)]
          have k147 : ∀ j : Nat, i ≤ j → μ3 147 (500 + (j : Int)) = μ 147 (500 + (j : Int)) := fun j hj => by rw [q3, mu_ne (by decide), e4, mu_ne (by decide)]; exact hun 147 j (by decide) (by decide) hj
          have k148 : ∀ j : Nat, i ≤ j → μ4 148 (500 + (j : Int)) = μ 148 (500 + (j : Int)) := fun j hj => by rw [q4, mu_ne (by decide), q3, mu_ne (by decide), e4, mu_ne (by decide)]; exact hun 148 j (by decide) (by decide) hj
          have k149 : ∀ j : Nat, i ≤ j → μ5 149 (500 + (j : Int)) = μ 149 (500 + (j : Int)) := fun j hj => by rw [q5, mu_ne (by decide), q4, mu_ne (by decide), q3, mu_ne (by decide), e4, mu_ne (by decide)]; exact hun 149 j (by decide) (by decide) hj
          have k150 : ∀ j : Nat, i ≤ j → μ6 150 (500 + (j : Int)) = μ 150 (500 + (j : Int)) := fun j hj => by rw [q6, mu_ne (by decide), q5, mu_ne (by decide), q4, mu_ne (by decide), q3, mu_ne (by decide), e4, mu_ne (by decide)]; exact hun 150 j (by decide) (by decide) hj
          have c147 : μ7 147 = ab_mu μ3 147 (500 + (ab_z (μ 172) i : Int)) (μ 147 (500 + (i : Int))) 147 := by rw [q7, mu_ne (by decide), q6, mu_ne (by decide), q5, mu_ne (by decide), q4, k147 i (Nat.le_refl _)]
          have c148 : μ7 148 = ab_mu μ4 148 (500 + (ab_z (μ 172) i : Int)) (μ 148 (500 + (i : Int))) 148 := by rw [q7, mu_ne (by decide), q6, mu_ne (by decide), q5, k148 i (Nat.le_refl _)]
          have c149 : μ7 149 = ab_mu μ5 149 (500 + (ab_z (μ 172) i : Int)) (μ 149 (500 + (i : Int))) 149 := by rw [q7, mu_ne (by decide), q6, k149 i (Nat.le_refl _), ab_rgb (b9 _)]
          have c150 : μ7 150 = ab_mu μ6 150 (500 + (ab_z (μ 172) i : Int)) (μ 150 (500 + (i : Int))) 150 := by rw [q7, k150 i (Nat.le_refl _), ab_rgb (b0 _)]
          have hf7 : fLv μ μ7 := by
            rw [q7, q6, q5, q4, q3, e4]
            exact (((((hf.mu (by omega)).mu (by omega)).mu (by omega)).mu (by omega)).mu (by omega)).mu (by omega)
          have c109 : ∀ x, μ7 109 x = μ1 109 x := by intro x; rw [q7, q6, q5, q4, q3, e4]; simp only [mu_ne (show (109 : Int) ≠ 150 by decide), mu_ne (show (109 : Int) ≠ 149 by decide), mu_ne (show (109 : Int) ≠ 148 by decide), mu_ne (show (109 : Int) ≠ 147 by decide), mu_ne (show (109 : Int) ≠ 146 by decide), mu_ne (show (109 : Int) ≠ 145 by decide)]
          have c173 : μ7 173 = μ1 173 := by rw [q7, q6, q5, q4, q3, e4]; simp only [mu_ne (show (173 : Int) ≠ 150 by decide), mu_ne (show (173 : Int) ≠ 149 by decide), mu_ne (show (173 : Int) ≠ 148 by decide), mu_ne (show (173 : Int) ≠ 147 by decide), mu_ne (show (173 : Int) ≠ 146 by decide), mu_ne (show (173 : Int) ≠ 145 by decide)]
          have c2 : μ2 145 = ab_mu μ1 145 (500 + (ab_z (μ 172) i : Int)) (μ1 145 (500 + (i : Int))) 145 := by rw [e4]
          have c2d : μ2 146 = μ1 146 := by rw [e4, mu_ne (by decide)]
          have c3 : μ3 147 = μ1 147 := by rw [q3, mu_ne (by decide), e4, mu_ne (by decide)]
          have c4 : μ4 148 = μ1 148 := by rw [q4, mu_ne (by decide), q3, mu_ne (by decide), e4, mu_ne (by decide)]
          have c5 : μ5 149 = μ1 149 := by rw [q5, mu_ne (by decide), q4, mu_ne (by decide), q3, mu_ne (by decide), e4, mu_ne (by decide)]
          have c6 : μ6 150 = μ1 150 := by rw [q6, mu_ne (by decide), q5, mu_ne (by decide), q4, mu_ne (by decide), q3, mu_ne (by decide), e4, mu_ne (by decide)]
          refine ih (n - (i + 1)) (by omega) _ μ7 (i + 1) g0 g1 rfl (by omega) rfl hf7 (by rw [c109]; exact h70) (fun j hj => by rw [c173]; exact h173 j hj) ?_ ?_ (by rw [c109]; exact h93)
          · intro c j h1' h2' hj
            have hne : ¬ (500 + (j : Int) = 500 + (ab_z (μ 172) i : Int)) := by omega
            have : c = 145 ∨ c = 146 ∨ c = 147 ∨ c = 148 ∨ c = 149 ∨ c = 150 := by omega
            rcases this with rfl | rfl | rfl | rfl | rfl | rfl
            · rw [c145, c2, ab_mud, if_neg (fun q => hne q.2)]; exact hun _ j (by decide) (by decide) (by omega)
            · rw [c146, ab_mud, if_neg (fun q => hne q.2), c2d]; exact hun _ j (by decide) (by decide) (by omega)
            · rw [c147, ab_mud, if_neg (fun q => hne q.2), c3]; exact hun _ j (by decide) (by decide) (by omega)
            · rw [c148, ab_mud, if_neg (fun q => hne q.2), c4]; exact hun _ j (by decide) (by decide) (by omega)
            · rw [c149, ab_mud, if_neg (fun q => hne q.2), c5]; exact hun _ j (by decide) (by decide) (by omega)
            · rw [c150, ab_mud, if_neg (fun q => hne q.2), c6]; exact hun _ j (by decide) (by decide) (by omega)
          · intro j hj hz'
            by_cases hji : j = i
            · subst hji
              unfold mMv
              rw [c145, c146, c147, c148, c149, c150, c2]
              simp only [ab_mud, and_self, if_true]
              refine ⟨hun 145 j (by decide) (by decide) (Nat.le_refl _), trivial, trivial, trivial, trivial, hv1, hv2⟩
            · have hzz : ab_z (μ 172) j < ab_z (μ 172) i := by
                have a1 := ab_z_succ (μ 172) j
                rw [if_pos hz'] at a1
                have a2 : ab_z (μ 172) (j + 1) ≤ ab_z (μ 172) i := ab_z_mono (by omega)
                omega
              have hne : ¬ (500 + (ab_z (μ 172) j : Int) = 500 + (ab_z (μ 172) i : Int)) := by omega
              have := hmv j (by omega) hz'
              unfold mMv at this ⊢
              rw [c145, c146, c147, c148, c149, c150, c2]
              simp only [ab_mud, hne, and_false, if_false]
              rw [c2d, c3, c4, c5, c6]
              exact this
        refine c_mM_leaps (by omega) (fun hl => ⟨fun h9 => by omega, fun _ => ⟨by omega, ?_, ?_⟩⟩) (fun l1 l2 l3 => ⟨fun _ => ⟨by omega, ?_⟩, fun h9 => absurd rfl h9⟩)
        · rw [op2] at hl
          have := hd i (by omega) hl
          rw [d2]
          omega
        · rw [op2] at hl
          have hdd := hd i (by omega) hl
          rw [d2]
          have e173 : μ2 173 (μ 146 (500 + (i : Int))) = (ab_z (μ 172) (μ 146 (500 + (i : Int))).toNat : Int) := by
            have := h173 (μ 146 (500 + (i : Int))).toNat (by omega)
            rw [Int.toNat_of_nonneg hdd.1] at this
            rw [e4, mu_ne (by decide)]
            exact this
          rw [e173]
          exact s161 _ _ h0 h1 h2 rfl rfl (fun _ => rfl) (fun hq => absurd hl hq)
        · rw [op2] at l1 l2 l3
          rw [d2]
          exact s161 _ _ h0 h1 h2 rfl rfl (fun hq => by rcases hq with q | q | q; exact absurd q l1; exact absurd q l2; exact absurd q l3) (fun _ => rfl)
      · refine ih (n - (i + 1)) (by omega) _ μ1 (i + 1) h0 h1 rfl (by omega) rfl hf h70 h173 (fun c j a b hj => hun c j a b (by omega)) (fun j hj hz' => ?_) h93
        have : j ≠ i := fun e => hz (by rw [← e]; exact hz')
        exact hmv j (by omega) hz'
  -- the first
  have s4 : ∀ (m : Nat) (l : ab_l) (μ1 : ab_m) (i : Nat), l 0 = 109 → l 1 = (ab_z (μ 172) (min i n) : Int) → l 2 = (i : Int) → i ≤ n + 1 → n + 1 - i = m → (∀ c j, c ≠ 173 → μ1 c j = μ c j) → (∀ j : Nat, j < i → μ1 173 j = (ab_z (μ 172) j : Int)) → jj_mM_leaveOut X (d + 1) 4 l [] μ1 P := by
    intro m
    induction m using Nat.strongRecOn with
    | ind m ih =>
      intro l μ1 i h0 h1 h2 hin hm ho h173
      refine bk_mM_leaveOut_4 h0 ?_
      have zn := ab_z_le (μ 172) n
      have zm := ab_z_le (μ 172) (min i n)
      have hf : fLv μ μ1 := fun c j g1 _ _ => ho c j g1
      simp only [h1, h2, ho 109 70 (by decide), ho 109 93 (by decide), hn]
      rw [(show ab_w ((i : Int) + 1) = ((i + 1 : Nat) : Int) by rw [ab_wi (by omega) (by omega)]; omega)]
      have fin : ∀ μ2 v, μ2 = ab_mu μ1 109 93 v → mChg μ n v → n < i → jj_mM_leaveOut X (d + 1) 76 (ab_up l 2 0) [] μ2 P := by
        intro μ2 v e hv hni
        refine s76 _ _ μ2 0 h0 (by show l 1 = _; rw [h1, Nat.min_eq_right (by omega)]) rfl (by omega) rfl (by rw [e]; exact hf.mu (by omega)) (by rw [e, ab_mud, if_neg (by omega), ho 109 70 (by decide)]; exact hn) (fun j hj => by rw [e, mu_ne (by decide)]; exact h173 j (by omega)) (fun c j a b _ => by rw [e, mu_ne (by omega)]; exact ho c _ (by omega)) (fun j hj => by omega) (by rw [e, ab_mud, if_pos ⟨rfl, rfl⟩]; exact hv)
      refine ⟨fun h => ⟨fun hc μ2 e => fin μ2 1 e (by unfold mChg; rw [if_pos (Or.inl hc)]) (by omega), fun hc => ⟨fun h3 μ2 e => fin μ2 0 e ?_ (by omega), fun h3 μ2 e => fin μ2 1 e ?_ (by omega)⟩⟩, fun h => ⟨by omega, fun μ2 e => ?_⟩⟩
      · rw [Nat.min_eq_right (by omega)] at h3
        unfold mChg
        rw [if_neg (by omega)]
      · rw [Nat.min_eq_right (by omega)] at h3
        unfold mChg
        rw [if_pos (by omega)]
      · have ho2 : ∀ c j, c ≠ 173 → μ2 c j = μ c j := fun c j hc => by rw [e, mu_ne hc]; exact ho c j hc
        have hi : i ≤ n := by omega
        rw [Nat.min_eq_left hi] at e h1 ⊢
        have h2' : ∀ j : Nat, j < i + 1 → μ2 173 j = (ab_z (μ 172) j : Int) := by
          intro j hj
          rw [e, ab_mud]
          split
          · rename_i q; rw [show j = i by omega]
          · exact h173 j (by omega)
        have zi := ab_z_le (μ 172) i
        rw [show ab_w ((ab_z (μ 172) i : Int) + 0) = (ab_z (μ 172) i : Int) by rw [ab_wi (by omega) (by omega)]; omega, show ab_w ((ab_z (μ 172) i : Int) + 1) = (ab_z (μ 172) i : Int) + 1 from ab_wi (by omega) (by omega), ho2 109 70 (by decide), hn, ho2 172 _ (by decide)]
        refine ⟨fun h3 => ?_, fun h3 => ⟨by omega, fun h4 => ?_, fun h4 => ?_⟩⟩
        · exact ih _ (by omega) _ μ2 (i + 1) h0 (by show (ab_z (μ 172) i : Int) = _; rw [Nat.min_eq_right (by omega), show i = n by omega]) rfl (by omega) rfl ho2 h2'
        · exact ih _ (by omega) _ μ2 (i + 1) h0 (by show (ab_z (μ 172) i : Int) = _; rw [Nat.min_eq_left (by omega), ab_z_succ, if_neg h4]; rfl) rfl (by omega) rfl ho2 h2'
        · exact ih _ (by omega) _ μ2 (i + 1) h0 (by show (ab_z (μ 172) i : Int) + 1 = _; rw [Nat.min_eq_left (by omega), ab_z_succ, if_pos h4]; rfl) rfl (by omega) rfl ho2 h2'
  refine bk_mM_leaveOut_0 rfl (s4 _ _ μ 0 rfl ?_ rfl (by omega) rfl (fun _ _ _ => rfl) (fun j hj => by omega))
  show (0 : Int) = _
  rw [Nat.zero_min]
  rfl
end M6

/-! THE REFERENCE, part 7: weights; putConstants -/
section M7
variable {X : jm_X} {d : Nat} {P : Int → ab_m → Prop}
def ab_sum (f : Nat → Nat) : Nat → Nat
  | 0 => 0
  | n + 1 => ab_sum f n + f n
theorem ab_sum_le {f g : Nat → Nat} {n : Nat} (h : ∀ j, j < n → f j ≤ g j) : ab_sum f n ≤ ab_sum g n := by
  induction n with
  | zero => exact Nat.le_refl _
  | succ n ih =>
    have h1 := ih (fun j hj => h j (by omega))
    have h2 := h n (by omega)
    show ab_sum f n + f n ≤ ab_sum g n + g n
    omega
theorem ab_sum_lt {f g : Nat → Nat} {n k : Nat} (h : ∀ j, j < n → f j ≤ g j) (hk : k < n) (h1 : f k < g k) : ab_sum f n < ab_sum g n := by
  induction n with
  | zero => omega
  | succ n ih =>
    show ab_sum f n + f n < ab_sum g n + g n
    have h2 := h n (by omega)
    by_cases hkn : k = n
    · subst hkn
      have := ab_sum_le (n := k) (fun j hj => h j (by omega))
      omega
    · have := ih (fun j hj => h j (by omega)) (by omega)
      omega
theorem ab_sum_congr {f g : Nat → Nat} {n : Nat} (h : ∀ j, j < n → f j = g j) : ab_sum f n = ab_sum g n :=
  Nat.le_antisymm (ab_sum_le fun j hj => Nat.le_of_eq (h j hj)) (ab_sum_le fun j hj => Nat.le_of_eq (h j hj).symm)
/-- the weight of an instruction -/
def mWt (o ka kb : Int) : Nat := 10 + (if 2 ≤ o ∧ o ≤ 20 then 6 else if o = 1 ∨ o = 26 ∨ o = 27 then 3 else 0) + (if ka = 0 ∧ (1 ≤ o ∧ o ≤ 22 ∨ o = 24 ∨ o = 26 ∨ o = 27) then 1 else 0) + (if kb = 0 ∧ (2 ≤ o ∧ o ≤ 17 ∨ o = 22) then 1 else 0)
theorem mWt_pos (o ka kb : Int) : 10 ≤ mWt o ka kb := by unfold mWt; omega
theorem mWt_a {o kb : Int} (h : 1 ≤ o ∧ o ≤ 22 ∨ o = 24 ∨ o = 26 ∨ o = 27) : mWt o 1 kb < mWt o 0 kb := by
  unfold mWt
  rw [if_neg (c := (1 : Int) = 0 ∧ _) (by omega), if_pos (c := (0 : Int) = 0 ∧ _) ⟨rfl, h⟩]
  omega
theorem mWt_b {o ka : Int} (h : 2 ≤ o ∧ o ≤ 17 ∨ o = 22) : mWt o ka 1 < mWt o ka 0 := by
  unfold mWt
  rw [if_neg (c := (1 : Int) = 0 ∧ _) (by omega), if_pos (c := (0 : Int) = 0 ∧ (2 ≤ o ∧ o ≤ 17 ∨ o = 22)) ⟨rfl, h⟩]
  omega
theorem mWt_c {kb : Int} : mWt 0 1 kb < mWt 1 0 kb := by
  unfold mWt
  simp
theorem mWt_set {o ka kb ka' kb' : Int} (h : 2 ≤ o ∧ o ≤ 20) : mWt 0 ka' kb' < mWt o ka kb := by
  unfold mWt
  rw [if_pos (c := 2 ≤ o ∧ o ≤ 20) h]
  simp
  omega
theorem mWt_copy {o ka kb : Int} (h : 2 ≤ o ∧ o ≤ 20) : mWt 1 0 0 < mWt o ka kb := by
  unfold mWt
  rw [if_pos (c := 2 ≤ o ∧ o ≤ 20) h]
  simp
  omega
theorem mWt_jump {o ka kb kb' : Int} (h : o = 26 ∨ o = 27) : mWt 25 0 kb' < mWt o ka kb := by
  unfold mWt
  rw [if_neg (c := 2 ≤ o ∧ o ≤ 20) (by omega), if_pos (c := o = 1 ∨ o = 26 ∨ o = 27) (by omega)]
  simp
  omega
def mPhi (μ : ab_m) (n : Nat) : Nat := ab_sum (fun i => mWt (μ 145 (500 + (i : Int))) (μ 149 (500 + (i : Int))) (μ 150 (500 + (i : Int)))) n
def mSame (μ μ' : ab_m) : Prop := ∀ c i, 145 ≤ c → c ≤ 150 → μ' c i = μ c i
theorem mPhi_same {μ μ' : ab_m} (h : mSame μ μ') (n : Nat) : mPhi μ' n = mPhi μ n :=
  ab_sum_congr fun j _ => by rw [h 145 _ (by decide) (by decide), h 149 _ (by decide) (by decide), h 150 _ (by decide) (by decide)]
/-- instruction i alone is written (not its D), and 'changed' -/
def mAg (μ μ' : ab_m) (i : Int) : Prop := ∀ c j, ¬ ((c = 145 ∨ c = 147 ∨ c = 148 ∨ c = 149 ∨ c = 150) ∧ j = 500 + i) → ¬ (c = 109 ∧ j = 93) → μ' c j = μ c j
theorem mAg.mu {μ μ' : ab_m} {i c j v : Int} (h : mAg μ μ' i) (hc : ((c = 145 ∨ c = 147 ∨ c = 148 ∨ c = 149 ∨ c = 150) ∧ j = 500 + i) ∨ (c = 109 ∧ j = 93)) : mAg μ (ab_mu μ' c j v) i := by
  intro a b g1 g2
  rw [ab_mud, if_neg (by omega)]
  exact h a b g1 g2
theorem mAg.rf {μ : ab_m} {i : Int} : mAg μ μ i := fun _ _ _ _ => rfl
/-- the clause of mWF for one instruction -/
def mI (μ : ab_m) (k n R : Int) : Prop := 0 ≤ μ 145 k ∧ μ 145 k ≤ 28 ∧ (mUA μ k → 0 ≤ μ 147 k ∧ μ 147 k < R) ∧ (mUB μ k → 0 ≤ μ 148 k ∧ μ 148 k < R) ∧ ((μ 145 k ≤ 21 ∨ μ 145 k = 23) → 0 ≤ μ 146 k ∧ μ 146 k < R) ∧ ((μ 145 k = 25 ∨ μ 145 k = 26 ∨ μ 145 k = 27) → 0 ≤ μ 146 k ∧ μ 146 k < n) ∧ (μ 145 k = 21 → 0 ≤ μ 148 k ∧ μ 148 k < 8) ∧ (μ 145 k = 22 → 0 ≤ μ 146 k ∧ μ 146 k < 8) ∧ ((μ 145 k = 1 → μ 149 k = 0) ∧ (μ 145 k = 0 → μ 149 k ≠ 0))
theorem mWF.at {μ : ab_m} {b n R i : Int} (h : mWF μ b n R) (h0 : 0 ≤ i) (h1 : i < n) : mI μ (b + i) n R := by
  obtain ⟨a1, a2, a3, a4, a5, a6, a7, a8, a9, a10⟩ := h.2.2.2.2 i h0 h1
  exact ⟨a1, a2, a3, a4, a5, a6, a7, a8, a10⟩
theorem mWF.last {μ : ab_m} {b n R i : Int} (h : mWF μ b n R) (h0 : 0 ≤ i) (h1 : i = n - 1) : μ 145 (b + i) = 25 ∨ μ 145 (b + i) = 28 := (h.2.2.2.2 i h0 (by omega)).2.2.2.2.2.2.2.2.1 h1
theorem mWF.mk {μ : ab_m} {b n R : Int} (h1 : 1 ≤ n ∧ n ≤ 400) (h2 : 0 ≤ R ∧ R ≤ 300) (h3 : ∀ i, 0 ≤ i → i < n → mI μ (b + i) n R) (h4 : μ 145 (b + (n - 1)) = 25 ∨ μ 145 (b + (n - 1)) = 28) : mWF μ b n R := by
  refine ⟨h1.1, h1.2, h2.1, h2.2, fun i g0 g1 => ?_⟩
  obtain ⟨a1, a2, a3, a4, a5, a6, a7, a8, a9⟩ := h3 i g0 g1
  exact ⟨a1, a2, a3, a4, a5, a6, a7, a8, (fun e => by rw [e]; exact h4), a9⟩
theorem mI.same {μ μ' : ab_m} {k n R : Int} (h : mI μ k n R) (hs : ∀ c, 145 ≤ c → c ≤ 150 → μ' c k = μ c k) : mI μ' k n R := by
  unfold mI mUA mUB at h ⊢
  rw [hs 145 (by decide) (by decide), hs 146 (by decide) (by decide), hs 147 (by decide) (by decide), hs 148 (by decide) (by decide), hs 149 (by decide) (by decide), hs 150 (by decide) (by decide)]
  exact h
theorem mWF.put {μ μ' : ab_m} {n R i : Int} (h : mWF μ 500 n R) (hi : 0 ≤ i ∧ i < n) (ha : mAg μ μ' i) (h' : mI μ' (500 + i) n R) (hl : i = n - 1 → μ' 145 (500 + i) = 25 ∨ μ' 145 (500 + i) = 28) : mWF μ' 500 n R := by
  refine mWF.mk ⟨h.1, h.2.1⟩ ⟨h.2.2.1, h.2.2.2.1⟩ (fun j g0 g1 => ?_) ?_
  · by_cases hj : j = i
    · rw [hj]; exact h'
    · exact (h.at g0 g1).same fun c a b => ha c _ (by omega) (by omega)
  · by_cases hj : n - 1 = i
    · rw [hj]; exact hl hj.symm
    · rw [ha 145 _ (by omega) (by omega)]
      exact h.last (by omega) rfl
theorem mPhi_put {μ μ' : ab_m} {n : Nat} {i : Int} (hi : 0 ≤ i ∧ i < n) (ha : mAg μ μ' i) (hw : mWt (μ' 145 (500 + i)) (μ' 149 (500 + i)) (μ' 150 (500 + i)) < mWt (μ 145 (500 + i)) (μ 149 (500 + i)) (μ 150 (500 + i))) : mPhi μ' n < mPhi μ n := by
  refine ab_sum_lt (k := i.toNat) (fun j hj => ?_) (by omega) ?_
  · by_cases e : (j : Int) = i
    · rw [e]; exact Nat.le_of_lt hw
    · rw [ha 145 _ (by omega) (by omega), ha 149 _ (by omega) (by omega), ha 150 _ (by omega) (by omega)]
      exact Nat.le_refl _
  · rw [Int.toNat_of_nonneg hi.1]
    exact hw
/-- what putConstants writes -/
def fPc (μ μ' : ab_m) : Prop := ∀ c i, (c < 161 ∨ 164 < c) → ¬ (c = 109 ∧ (i = 91 ∨ i = 92 ∨ i = 93)) → ¬ (145 ≤ c ∧ c ≤ 150 ∧ c ≠ 146 ∧ 500 ≤ i) → μ' c i = μ c i
/-- what holds all through it -/
def mPc (μ μ1 : ab_m) (n : Nat) (R : Int) : Prop := mWF μ1 500 n R ∧ fPc μ μ1 ∧ (mPhi μ1 n < mPhi μ n ∨ mSame μ μ1 ∧ μ1 109 93 = μ 109 93)
theorem mPc.put {μ μ1 μ2 : ab_m} {n : Nat} {R i : Int} (h : mPc μ μ1 n R) (hi : 0 ≤ i ∧ i < n) (ha : mAg μ1 μ2 i) (h' : mI μ2 (500 + i) n R) (hl : i = n - 1 → μ2 145 (500 + i) = 25 ∨ μ2 145 (500 + i) = 28) (hw : mWt (μ2 145 (500 + i)) (μ2 149 (500 + i)) (μ2 150 (500 + i)) < mWt (μ1 145 (500 + i)) (μ1 149 (500 + i)) (μ1 150 (500 + i))) : mPc μ μ2 n R := by
  obtain ⟨h1, h2, h3⟩ := h
  refine ⟨h1.put hi ha h' hl, fun c j g1 g2 g3 => ?_, Or.inl ?_⟩
  · rw [ha c j (by omega) (by omega)]
    exact h2 c j g1 g2 g3
  · have a := mPhi_put hi ha hw
    rcases h3 with q | q
    · omega
    · rw [mPhi_same q.1] at a
      exact a
end M7

/-! THE REFERENCE, part 8: putConstants -/
section M8
variable {X : jm_X} {d : Nat} {P : Int → ab_m → Prop}
theorem c_mM_putConstants {μ : ab_m} {n : Nat} {R : Int} (hW : mWF μ 500 n R) (hR : μ 109 71 = R) (hP : ∀ μ', mPc μ μ' n R → P 0 μ') : jj_mM_putConstants X (d + 3) 0 (ab_la [109, n]) [] μ P := by
  have n1 : 1 ≤ (n : Int) ∧ (n : Int) ≤ 400 ∧ 0 ≤ R ∧ R ≤ 300 := ⟨hW.1, hW.2.1, hW.2.2.1, hW.2.2.2.1⟩
  have s10 : ∀ (m : Nat) (l : ab_l) (μ1 : ab_m) (i : Int), l 0 = 109 → l 1 = n → l 2 = i → 0 ≤ i → i ≤ n → ((n : Int) - i).toNat = m → mPc μ μ1 n R → jj_mM_putConstants X (d + 3) 10 l [] μ1 P := by
    intro m
    induction m using Nat.strongRecOn with
    | ind m ih =>
      intro l μ1 i h0 h1 h2 hi hin hm hI
      have on : ∀ (l' : ab_l) (μ2 : ab_m), l' 0 = 109 → l' 1 = n → l' 2 = i + 1 → i < n → mPc μ μ2 n R → jj_mM_putConstants X (d + 3) 10 l' [] μ2 P := fun l' μ2 g0 g1 g2 hlt q => ih _ (by omega) l' μ2 (i + 1) g0 g1 g2 (by omega) (by omega) rfl q
      -- the last write of a turn
      have s346 : ∀ (l' : ab_l) (μ2 : ab_m) (v : Int), l' 0 = 109 → l' 1 = n → l' 2 = i → l' 3 = 500 + i → i < n → mPc μ μ2 n R → (2 ≤ μ2 145 (500 + i) ∧ μ2 145 (500 + i) ≤ 20 ∧ μ2 149 (500 + i) ≠ 0) → jj_mM_putConstants X (d + 3) 346 l' [(0, v), (0, 500 + i), (2, 147)] μ2 P := by
        intro l' μ2 v g0 g1 g2 g3 hlt hI2 hop
        refine bk_mM_putConstants_346 g0 ?_
        simp only [g2, g3]
        simp (disch := omega) only [ab_wi]
        refine ⟨by omega, fun μ3 q3 => ⟨by omega, fun μ4 q4 => ⟨by omega, fun μ5 q5 => ⟨by omega, fun μ6 q6 μ7 q7 => ?_⟩⟩⟩⟩
        have ag : mAg μ2 μ7 i := by rw [q7, q6, q5, q4, q3]; exact ((((mAg.rf.mu (by omega)).mu (by omega)).mu (by omega)).mu (by omega)).mu (by omega)
        have v145 : μ7 145 (500 + i) = 0 := by rw [q7, q6, q5, q4]; simp [ab_mud]
        have v149 : μ7 149 (500 + i) = μ2 149 (500 + i) := by rw [q7, q6, q5, q4, q3]; simp [ab_mud]
        have v146 : μ7 146 (500 + i) = μ2 146 (500 + i) := ag 146 _ (by omega) (by omega)
        have old := hI2.1.at hi hlt
        have od := old.2.2.2.2.1 (Or.inl (by omega))
        have hne : i ≠ (n : Int) - 1 := fun e => by have := hI2.1.last hi e; omega
        refine on _ μ7 g0 g1 rfl hlt (hI2.put ⟨hi, hlt⟩ ag ?_ (fun e => absurd e hne) ?_)
        · unfold mI mUA mUB
          rw [v145, v146]
          exact ⟨by omega, by omega, fun q => by omega, fun q => by omega, fun _ => od, fun q => by omega, fun q => by omega, fun q => by omega, fun q => by omega, fun _ => by rw [v149]; exact hop.2.2⟩
        · rw [v145]; exact mWt_set ⟨hop.1, hop.2.1⟩
      have s297 : ∀ (l' : ab_l) (μ2 : ab_m), l' 0 = 109 → l' 1 = n → l' 2 = i → l' 3 = 500 + i → i < n → mPc μ μ2 n R → (2 ≤ μ2 145 (500 + i) ∧ μ2 145 (500 + i) ≤ 20 ∧ μ2 149 (500 + i) ≠ 0) → jj_mM_putConstants X (d + 3) 297 l' [] μ2 P := by
        intro l' μ2 g0 g1 g2 g3 hlt hI2 hop
        refine bk_mM_putConstants_297 g0 ?_
        simp only [g3]
        exact ⟨fun _ => ⟨by omega, by omega, by omega, c_mM_two fun q => s346 l' μ2 q g0 g1 g2 g3 hlt hI2 hop⟩, fun _ => ⟨by omega, by omega, c_mM_one fun q => s346 l' μ2 q g0 g1 g2 g3 hlt hI2 hop⟩⟩
      have s284 : ∀ (l' : ab_l) (μ2 : ab_m) (u : Int), l' 0 = 109 → l' 1 = n → l' 2 = i → l' 3 = 500 + i → l' 4 = u → i < n → mPc μ μ2 n R → (u ≠ 0 → 2 ≤ μ2 145 (500 + i) ∧ μ2 145 (500 + i) ≤ 20 ∧ μ2 149 (500 + i) ≠ 0) → jj_mM_putConstants X (d + 3) 284 l' [] μ2 P := by
        intro l' μ2 u g0 g1 g2 g3 g4 hlt hI2 hop
        refine bk_mM_putConstants_284 g0 ?_
        simp only [g2, g4]
        simp (disch := omega) only [ab_wi]
        exact ⟨fun q => s297 _ μ2 g0 g1 g2 g3 hlt hI2 (hop q), fun _ => on _ μ2 g0 g1 rfl hlt hI2⟩
      have s221 : ∀ (l' : ab_l) (μ2 : ab_m) (u : Int), l' 0 = 109 → l' 1 = n → l' 2 = i → l' 3 = 500 + i → i < n → mPc μ μ2 n R → (u ≠ 0 → 2 ≤ μ2 145 (500 + i) ∧ μ2 145 (500 + i) ≤ 20 ∧ μ2 149 (500 + i) ≠ 0) → jj_mM_putConstants X (d + 3) 221 l' [(0, u)] μ2 P := by
        intro l' μ2 u g0 g1 g2 g3 hlt hI2 hop
        refine bk_mM_putConstants_221 g0 ?_
        simp only [g3]
        have x : jj_mM_putConstants X (d + 3) 284 (ab_up l' 4 u) [] μ2 P := s284 _ μ2 u g0 g1 g2 g3 rfl hlt hI2 hop
        refine ⟨by omega, fun _ => x, fun q1 => ⟨by omega, fun _ => x, fun q2 => ⟨by omega, fun _ => x, fun _ => ⟨by omega, fun _ => x, fun _ => ⟨by omega, by omega, ?_⟩⟩⟩⟩⟩
        exact c_mM_isByNothing fun q _ => ⟨fun _ => x, fun _ => ⟨fun _ => s297 _ μ2 g0 g1 g2 g3 hlt hI2 (by omega), fun _ => s297 _ μ2 g0 g1 g2 g3 hlt hI2 (by omega)⟩⟩
      have s185 : ∀ (l' : ab_l) (μ2 : ab_m), l' 0 = 109 → l' 1 = n → l' 2 = i → l' 3 = 500 + i → i < n → mPc μ μ2 n R → jj_mM_putConstants X (d + 3) 185 l' [] μ2 P := by
        intro l' μ2 g0 g1 g2 g3 hlt hI2
        refine bk_mM_putConstants_185 g0 ?_
        simp only [g3]
        have x : jj_mM_putConstants X (d + 3) 221 l' [(0, 0)] μ2 P := s221 l' μ2 0 g0 g1 g2 g3 hlt hI2 (fun e => absurd rfl e)
        exact ⟨by omega, fun _ => x, fun q1 => ⟨by omega, fun _ => x, fun q2 => ⟨by omega, fun _ => x, fun _ => s221 l' μ2 1 g0 g1 g2 g3 hlt hI2 (fun _ => by omega)⟩⟩⟩
      have s122 : ∀ (l' : ab_l) (μ2 : ab_m), l' 0 = 109 → l' 1 = n → l' 2 = i → l' 3 = 500 + i → i < n → mPc μ μ2 n R → jj_mM_putConstants X (d + 3) 122 l' [] μ2 P := by
        intro l' μ2 g0 g1 g2 g3 hlt hI2
        refine bk_mM_putConstants_122 g0 ?_
        simp only [g2, g3]
        have x : jj_mM_putConstants X (d + 3) 185 l' [] μ2 P := s185 l' μ2 g0 g1 g2 g3 hlt hI2
        refine c_mM_usesB (by omega) (fun u => ⟨fun q => absurd q (by decide), fun _ => ?_⟩) (fun _ => ⟨fun _ => x, fun q => absurd rfl q⟩)
        have old := hI2.1.at hi hlt
        have ob := old.2.2.2.1 u
        simp (disch := omega) only [ab_wi]
        refine ⟨by omega, by omega, fun _ => x, fun _ => ⟨by omega, by omega, by omega, fun μ3 q3 => ⟨by omega, fun μ4 q4 μ5 q5 => ?_⟩⟩⟩
        have ag : mAg μ2 μ5 i := by rw [q5, q4, q3]; exact ((mAg.rf.mu (by omega)).mu (by omega)).mu (by omega)
        have v145 : μ5 145 (500 + i) = μ2 145 (500 + i) := by rw [q5, q4, q3]; simp [ab_mud]
        have v146 : μ5 146 (500 + i) = μ2 146 (500 + i) := ag 146 _ (by omega) (by omega)
        have v147 : μ5 147 (500 + i) = μ2 147 (500 + i) := by rw [q5, q4, q3]; simp [ab_mud]
        have v149 : μ5 149 (500 + i) = μ2 149 (500 + i) := by rw [q5, q4, q3]; simp [ab_mud]
        have v150 : μ5 150 (500 + i) = 1 := by rw [q5, q4, q3]; simp [ab_mud]
        have u2 : 2 ≤ μ2 145 (500 + i) ∧ μ2 145 (500 + i) ≤ 17 ∨ μ2 145 (500 + i) = 22 := u.2
        refine s185 l' μ5 g0 g1 g2 g3 hlt (hI2.put ⟨hi, hlt⟩ ag ?_ (fun e => by rw [v145]; exact hI2.1.last hi e) ?_)
        · obtain ⟨o1, o2, o3, o4, o5, o6, o7, o8, o9⟩ := old
          unfold mI
          refine ⟨by rw [v145]; exact o1, by rw [v145]; exact o2, fun q => ?_, fun q => ?_, by rw [v145, v146]; exact o5, by rw [v145, v146]; exact o6, fun q => ?_, by rw [v145, v146]; exact o8, by rw [v145, v149]; exact o9⟩
          · rw [v147]; unfold mUA at q o3; rw [v145, v149] at q; exact o3 q
          · have := q.1; rw [v150] at this; exact absurd this (by decide)
          · rw [v145] at q; omega
        · rw [v145, v149, v150, u.1]; exact mWt_b u2
      refine bk_mM_putConstants_10 h0 ?_
      simp only [h1, h2]
      rw [show ab_w (500 + i) = 500 + i from ab_wi (by omega) (by omega), show ab_w (i + 1) = i + 1 from ab_wi (by omega) (by omega)]
      refine ⟨fun _ => hP μ1 hI, fun h => ⟨by omega, fun _ => ?_, fun _ => on _ μ1 h0 h1 rfl h hI⟩⟩
      have x : jj_mM_putConstants X (d + 3) 122 (ab_up l 3 (500 + i)) [] μ1 P := s122 _ μ1 h0 h1 h2 rfl h hI
      refine c_mM_usesA (by omega) (fun u => ⟨fun q => absurd q (by decide), fun _ => ?_⟩) (fun _ => ⟨fun _ => x, fun q => absurd rfl q⟩)
      have old := hI.1.at hi h
      have oa := old.2.2.1 u
      have u2 : (1 ≤ μ1 145 (500 + i) ∧ μ1 145 (500 + i) ≤ 22) ∨ μ1 145 (500 + i) = 24 ∨ μ1 145 (500 + i) = 26 ∨ μ1 145 (500 + i) = 27 := u.2
      simp (disch := omega) only [ab_wi]
      refine ⟨by omega, by omega, fun _ => x, fun _ => ⟨by omega, by omega, by omega, fun μ2 q2 => ⟨by omega, fun μ3 q3 => ⟨by omega, fun hc => ⟨by omega, by omega, fun μ4 q4 μ5 q5 => ?_⟩, fun hc => ⟨by omega, fun μ4 q4 μ5 q5 => ?_⟩⟩⟩⟩⟩
      · have e3 : μ3 145 (500 + i) = μ1 145 (500 + i) := by rw [q3, q2]; simp [ab_mud]
        have ag : mAg μ1 μ5 i := by rw [q5, q4, q3, q2]; exact (((mAg.rf.mu (by omega)).mu (by omega)).mu (by omega)).mu (by omega)
        have v145 : μ5 145 (500 + i) = μ1 145 (500 + i) := by rw [q5, q4]; simp [ab_mud, e3]
        have v146 : μ5 146 (500 + i) = μ1 146 (500 + i) := ag 146 _ (by omega) (by omega)
        have v148 : μ5 148 (500 + i) = μ1 148 (500 + i) := by rw [q5, q4, q3, q2]; simp [ab_mud]
        have v149 : μ5 149 (500 + i) = 1 := by rw [q5, q4, q3, q2]; simp [ab_mud]
        have v150 : μ5 150 (500 + i) = μ1 150 (500 + i) := by rw [q5, q4, q3, q2]; simp [ab_mud]
        refine s122 _ μ5 h0 h1 h2 rfl h (hI.put ⟨hi, h⟩ ag ?_ (fun e => by rw [v145]; exact hI.1.last hi e) ?_)
        · obtain ⟨o1, o2, o3, o4, o5, o6, o7, o8, o9⟩ := old
          unfold mI
          refine ⟨by rw [v145]; exact o1, by rw [v145]; exact o2, fun q => ?_, fun q => ?_, by rw [v145, v146]; exact o5, by rw [v145, v146]; exact o6, by rw [v145, v148]; exact o7, by rw [v145, v146]; exact o8, fun q => by rw [v145] at q; rw [e3] at hc; exact absurd q hc, fun _ => by rw [v149]; decide⟩
          · have := q.1; rw [v149] at this; exact absurd this (by decide)
          · rw [v148]; unfold mUB at q o4; rw [v145, v150] at q; exact o4 q
        · rw [v145, v149, v150, u.1]; exact mWt_a u2
      · have e3 : μ3 145 (500 + i) = μ1 145 (500 + i) := by rw [q3, q2]; simp [ab_mud]
        rw [e3] at hc
        have ag : mAg μ1 μ5 i := by rw [q5, q4, q3, q2]; exact (((mAg.rf.mu (by omega)).mu (by omega)).mu (by omega)).mu (by omega)
        have v145 : μ5 145 (500 + i) = 0 := by rw [q5, q4]; simp [ab_mud]
        have v146 : μ5 146 (500 + i) = μ1 146 (500 + i) := ag 146 _ (by omega) (by omega)
        have v149 : μ5 149 (500 + i) = 1 := by rw [q5, q4, q3, q2]; simp [ab_mud]
        have v150 : μ5 150 (500 + i) = μ1 150 (500 + i) := by rw [q5, q4, q3, q2]; simp [ab_mud]
        have od := old.2.2.2.2.1 (Or.inl (by omega))
        have hne : i ≠ (n : Int) - 1 := fun e => by have := hI.1.last hi e; omega
        refine s122 _ μ5 h0 h1 h2 rfl h (hI.put ⟨hi, h⟩ ag ?_ (fun e => absurd e hne) ?_)
        · unfold mI mUA mUB
          rw [v145, v146]
          exact ⟨by omega, by omega, fun q => by omega, fun q => by omega, fun _ => od, fun q => by omega, fun q => by omega, fun q => by omega, fun q => by omega, fun _ => by rw [v149]; decide⟩
        · rw [v145, v149, v150, u.1, hc]; exact mWt_c
  refine bk_mM_putConstants_0 rfl ?_
  simp only [la1]
  refine c_mM_findKnown (Or.inr rfl) hW hR fun μ1 hf => s10 _ _ μ1 0 rfl rfl rfl (by omega) (by omega) rfl ⟨hW.same fun c i a b => hf c i (by omega) (by omega), fun c i a b _ => hf c i a (by omega), Or.inr ⟨fun c i a b => hf c i (by omega) (by omega), hf 109 93 (by omega) (by omega)⟩⟩
end M8

/-! THE REFERENCE, part 9: isExpr, has, hand -/
section M9
variable {X : jm_X} {d : Nat} {P : Int → ab_m → Prop}
theorem c_mM_isExpr {μ : ab_m} {e o a ka b kb : Int} (he : 0 ≤ e ∧ e < 402) (h1 : μ 166 e = o → μ 167 e = a → μ 169 e = ka → μ 168 e = b → μ 170 e = kb → P 1 μ) (h0 : P 0 μ) : jj_mM_isExpr X d 0 (ab_la [109, e, o, a, ka, b, kb]) [] μ P := by
  refine bk_mM_isExpr_0 rfl ?_
  simp only [la1, la2, la3, la4, la5, la6]
  exact ⟨he, fun _ => h0, fun q1 => ⟨he, fun _ => h0, fun q2 => ⟨he, fun _ => h0, fun q3 => ⟨he, fun _ => h0, fun q4 => ⟨he, fun _ => h0, fun q5 => h1 q1 q2 q3 q4 q5⟩⟩⟩⟩⟩
/-- the instruction defines a register -/
def mDf (μ : ab_m) (k : Int) : Prop := μ 145 k ≤ 21 ∨ μ 145 k = 23
/-- the expression e has the register r -/
def mHas (μ : ab_m) (e r : Int) : Prop := (μ 169 e = 0 ∧ μ 167 e = r) ∨ (2 ≤ μ 166 e ∧ μ 166 e ≤ 17 ∧ μ 170 e = 0 ∧ μ 168 e = r)
theorem c_mM_has {μ : ab_m} {e r : Int} (he : 0 ≤ e ∧ e < 402) (h1 : P 1 μ) (h0 : ¬ mHas μ e r → P 0 μ) : jj_mM_has X d 0 (ab_la [109, e, r]) [] μ P := by
  have s19 : ¬ (μ 169 e = 0 ∧ μ 167 e = r) → jj_mM_has X d 19 (ab_la [109, e, r]) [] μ P := by
    intro hn
    refine bk_mM_has_19 rfl ?_
    simp only [la1, la2]
    have z : ¬ (2 ≤ μ 166 e ∧ μ 166 e ≤ 17 ∧ μ 170 e = 0 ∧ μ 168 e = r) → P 0 μ := fun hn2 => h0 fun q => q.elim hn hn2
    exact ⟨he, fun q1 => z (by omega), fun q1 => ⟨he, fun q2 => z (by omega), fun q2 => ⟨he, fun q3 => z (fun q => q3 q.2.2.1), fun q3 => ⟨he, fun q4 => z (fun q => q4 q.2.2.2), fun _ => h1⟩⟩⟩⟩
  refine bk_mM_has_0 rfl ?_
  simp only [la1, la2]
  exact ⟨he, fun q1 => s19 (fun q => q1 q.1), fun q1 => ⟨he, fun _ => h1, fun q2 => s19 (fun q => q2 q.2)⟩⟩
/-- what may be held behind instruction i -/
def mGd (μ : ab_m) (i r v : Int) : Prop := 0 ≤ v → ((mDf μ (500 + i) ∧ μ 146 (500 + i) = r) ∧ v = μ 171 i ∧ ¬ mHas μ v r) ∨ (¬ (mDf μ (500 + i) ∧ μ 146 (500 + i) = r) ∧ v = μ 165 (300 * i + r) ∧ (mDf μ (500 + i) → ¬ mHas μ v (μ 146 (500 + i))))
theorem mGd.neg {μ : ab_m} {i r : Int} : mGd μ i r (-1) := fun h => absurd h (by decide)
def ab_p (f : Int → Int) (n : Nat) : Nat := ab_cn (fun j => decide (0 ≤ f j)) n
theorem p_lt {μ : ab_m} {a i : Int} {n : Nat} (h0 : 0 ≤ i) (h1 : i < n) (h : 0 ≤ μ a i) : ab_p (ab_mu μ a i (-1) a) n < ab_p (μ a) n := by
  refine ab_cn_lt (k := i.toNat) (fun j hj hp => ?_) (by omega) ?_ ?_
  · rw [decide_eq_true_eq] at hp ⊢
    rw [ab_mud] at hp
    split at hp
    · omega
    · exact hp
  · rw [decide_eq_false_iff_not, ab_mud, if_pos (by omega)]
    omega
  · rw [decide_eq_true_eq, Int.toNat_of_nonneg h0]
    exact h
def mH (μ : ab_m) : Nat := 48763403 * ab_z (μ 163) 402 + 403 * ab_p (μ 165) 121000 + ab_nz (μ 164) 402
/-- what hand does -/
def mHd (μ μ' : ab_m) (i to R N : Int) : Prop := (∀ c j, (c < 163 ∨ 165 < c) → μ' c j = μ c j) ∧ (∀ j, j ≠ to → μ' 163 j = μ 163 j ∧ μ' 164 j = μ 164 j) ∧ μ' 163 to = 1 ∧ (∀ j, ¬ (300 * to ≤ j ∧ j < 300 * to + R) → μ' 165 j = μ 165 j) ∧ (∀ r, 0 ≤ r → r < R → mGd μ i r (μ' 165 (300 * to + r)) ∧ μ' 165 (300 * to + r) < N) ∧ (μ 163 to ≠ 0 → ∀ r, 0 ≤ r → r < R → μ' 165 (300 * to + r) = μ 165 (300 * to + r) ∨ μ' 165 (300 * to + r) = -1) ∧ (μ' 164 to = 0 → μ 164 to = 0 ∧ μ 163 to ≠ 0 ∧ ∀ r, 0 ≤ r → r < R → μ' 165 (300 * to + r) = μ 165 (300 * to + r)) ∧ mH μ' ≤ mH μ
theorem c_mM_hand {μ : ab_m} {i to R N : Int} (hR : μ 109 71 = R) (hR3 : 0 ≤ R ∧ R ≤ 300) (hi : 0 ≤ i ∧ i ≤ 400) (hto : 0 ≤ to ∧ to ≤ 401) (hN : 0 ≤ N ∧ N ≤ 402) (hd : mDf μ (500 + i) → 0 ≤ μ 146 (500 + i)) (h171 : μ 171 i < N) (h165 : ∀ r, 0 ≤ r → r < R → μ 165 (300 * i + r) < N) (hP : ∀ μ', mHd μ μ' i to R N → P 0 μ') : jj_mM_hand X (d + 1) 0 (ab_la [109, i, to]) [] μ P := by
  have s49 : ∀ (m : Nat) (l : ab_l) (μ1 : ab_m) (made fi ls r : Int), l 0 = 109 → l 1 = i → l 2 = to → l 4 = made → l 5 = fi → l 6 = ls → l 7 = r → 0 ≤ r → r ≤ R → (R - r).toNat = m → (made = -1 ∧ ¬ mDf μ (500 + i) ∨ made = μ 146 (500 + i) ∧ mDf μ (500 + i)) → (∀ c j, c ≠ 165 → μ1 c j = μ c j) → (∀ j, ¬ (300 * to ≤ j ∧ j < 300 * to + r) → μ1 165 j = μ 165 j) → (∀ q, 0 ≤ q → q < r → mGd μ i q (μ1 165 (300 * to + q)) ∧ μ1 165 (300 * to + q) < N) →
      (fi = 1 ∧ μ 163 to = 0 ∧ ls = 1 ∨ fi = 0 ∧ μ 163 to ≠ 0 ∧ (∀ q, 0 ≤ q → q < r → μ1 165 (300 * to + q) = μ 165 (300 * to + q) ∨ μ1 165 (300 * to + q) = -1) ∧ (ls = 0 ∧ (∀ q, 0 ≤ q → q < r → μ1 165 (300 * to + q) = μ 165 (300 * to + q)) ∧ ab_p (μ1 165) 121000 ≤ ab_p (μ 165) 121000 ∨ ls = 1 ∧ ab_p (μ1 165) 121000 < ab_p (μ 165) 121000)) → jj_mM_hand X (d + 1) 49 l [] μ1 P := by
    intro m
    induction m using Nat.strongRecOn with
    | ind m ih =>
      intro l μ1 made fi ls r h0 h1 h2 h4 h5 h6 h7 hr hrR hm hmade ho hun hgd hfi
      have hR1 : μ1 109 71 = R := by rw [ho 109 71 (by decide)]; exact hR
      have s144 : ∀ (l' : ab_l) (e : Int), l' 0 = 109 → l' 1 = i → l' 2 = to → l' 4 = made → l' 5 = fi → l' 6 = ls → l' 7 = r → l' 8 = e → r < R → mGd μ i r e → e < N → jj_mM_hand X (d + 1) 144 l' [] μ1 P := by
        intro l' e g0 g1 g2 g4 g5 g6 g7 g8 hlt hge heN
        refine bk_mM_hand_144 g0 ?_
        simp only [g1, g2, g5, g7, g8]
        simp (disch := omega) only [ab_wi]
        have old : μ1 165 (300 * to + r) = μ 165 (300 * to + r) := hun _ (by omega)
        -- the row behind a write
        have wr : ∀ (v : Int) (μ2 : ab_m), μ2 = ab_mu μ1 165 (300 * to + r) v → mGd μ i r v → v < N → (∀ c j, c ≠ 165 → μ2 c j = μ c j) ∧ (∀ j, ¬ (300 * to ≤ j ∧ j < 300 * to + (r + 1)) → μ2 165 j = μ 165 j) ∧ (∀ q, 0 ≤ q → q < r + 1 → mGd μ i q (μ2 165 (300 * to + q)) ∧ μ2 165 (300 * to + q) < N) ∧ (∀ q, 0 ≤ q → q < r → μ2 165 (300 * to + q) = μ1 165 (300 * to + q)) ∧ μ2 165 (300 * to + r) = v := by
          intro v μ2 e2 hg hv
          refine ⟨fun c j hc => by rw [e2, mu_ne hc]; exact ho c j hc, fun j hj => ?_, fun q q0 q1 => ?_, fun q q0 q1 => by rw [e2, ab_mud, if_neg (by omega)], by rw [e2, ab_mud, if_pos ⟨rfl, rfl⟩]⟩
          · rw [e2, ab_mud, if_neg (by omega)]; exact hun j (by omega)
          · by_cases hq : q = r
            · subst hq; rw [e2, ab_mud, if_pos ⟨rfl, rfl⟩]; exact ⟨hg, hv⟩
            · rw [e2, ab_mud, if_neg (by omega)]; exact hgd q q0 (by omega)
        -- nothing is written
        have nw : fi = 0 → mGd μ i r (μ1 165 (300 * to + r)) → μ1 165 (300 * to + r) < N → jj_mM_hand X (d + 1) 49 (ab_up (ab_up l' 9 (300 * to + r)) 7 (r + 1)) [] μ1 P := by
          intro hz hg hv
          refine ih _ (by omega) _ μ1 made fi ls (r + 1) g0 g1 g2 g4 g5 g6 rfl (by omega) (by omega) rfl hmade ho (fun j hj => hun j (by omega)) (fun q q0 q1 => ?_) ?_
          · by_cases hq : q = r
            · subst hq; exact ⟨hg, hv⟩
            · exact hgd q q0 (by omega)
          · rcases hfi with k | ⟨k1, k2, k3, k4⟩
            · exact absurd k.1 (by omega)
            · refine Or.inr ⟨k1, k2, fun q q0 q1 => ?_, ?_⟩
              · by_cases hq : q = r
                · subst hq; exact Or.inl old
                · exact k3 q q0 (by omega)
              · rcases k4 with ⟨k5, k6, k7⟩ | k5
                · refine Or.inl ⟨k5, fun q q0 q1 => ?_, k7⟩
                  by_cases hq : q = r
                  · subst hq; exact old
                  · exact k6 q q0 (by omega)
                · exact Or.inr k5
        refine ⟨fun hz => ⟨by omega, fun hs => nw hz (fun h9 => by omega) (by omega), fun hs => ⟨by omega, fun he => nw hz (by rw [he]; exact hge) (by omega), fun he => ⟨by omega, fun μ2 e2 => ?_⟩⟩⟩, fun hz => ⟨by omega, fun μ2 e2 => ?_⟩⟩
        · obtain ⟨w1, w2, w3, w4, w5⟩ := wr (-1) μ2 e2 mGd.neg (by omega)
          have lt := p_lt (μ := μ1) (a := 165) (i := 300 * to + r) (n := 121000) (by omega) (by omega) hs
          rw [← e2] at lt
          refine ih _ (by omega) _ μ2 made fi 1 (r + 1) g0 g1 g2 g4 g5 rfl rfl (by omega) (by omega) rfl hmade w1 w2 w3 ?_
          rcases hfi with k | ⟨k1, k2, k3, k4⟩
          · exact absurd k.1 (by omega)
          · refine Or.inr ⟨k1, k2, fun q q0 q1 => ?_, Or.inr ⟨rfl, ?_⟩⟩
            · by_cases hq : q = r
              · subst hq; exact Or.inr w5
              · rw [w4 q q0 (by omega)]; exact k3 q q0 (by omega)
            · rcases k4 with ⟨k5, k6, k7⟩ | ⟨k5, k6⟩ <;> omega
        · obtain ⟨w1, w2, w3, w4, w5⟩ := wr e μ2 e2 hge heN
          refine ih _ (by omega) _ μ2 made fi ls (r + 1) g0 g1 g2 g4 g5 g6 rfl (by omega) (by omega) rfl hmade w1 w2 w3 ?_
          rcases hfi with k | ⟨k1, k2, k3, k4⟩
          · exact Or.inl k
          · exact absurd k1 hz
      refine bk_mM_hand_49 h0 ?_
      simp only [h1, h2, h4, h6, h7, hR1]
      simp (disch := omega) only [ab_wi]
      have row : r < R → μ1 165 (300 * i + r) = μ 165 (300 * i + r) := fun hlt => hun _ (by omega)
      have e171 : μ1 171 i = μ 171 i := ho 171 _ (by decide)
      refine ⟨fun h => ⟨by omega, fun μ2 e2 => ⟨by omega, ?_⟩⟩, fun hlt => ⟨by omega, fun hne => ⟨fun hs => ?_, fun hs => ⟨fun hm1 => ?_, fun hm1 => ?_⟩⟩, fun he => ⟨by omega, fun hs => ?_, fun hs => ⟨by omega, ?_⟩⟩⟩⟩
      · -- the end
        have hrr : r = R := by omega
        subst hrr
        have zle : ab_z (μ2 163) 402 ≤ ab_z (μ 163) 402 := by
          rw [e2, ← (funext fun j => ho 163 j (by decide) : μ1 163 = μ 163)]; exact z_le (fun h => absurd h (by decide))
        have zlt : μ 163 to = 0 → ab_z (μ2 163) 402 < ab_z (μ 163) 402 := by
          intro g
          rw [e2, ← (funext fun j => ho 163 j (by decide) : μ1 163 = μ 163)]
          exact z_lt (by omega) (by omega) (by rw [ho 163 _ (by decide)]; exact g) (by decide)
        have pn : ab_p (μ1 165) 121000 ≤ 121000 := ab_cn_le _ _
        have b2 : μ2 165 = μ1 165 := by rw [e2]; exact mu_ne (by decide)
        have b4 : ∀ j, μ2 164 j = μ 164 j := fun j => by rw [e2, mu_ne (by decide)]; exact ho 164 j (by decide)
        have fin : ∀ (μ3 : ab_m) (v : Int), μ3 = ab_mu μ2 164 to v → (v = 0 → μ 164 to = 0 ∧ μ 163 to ≠ 0 ∧ ls = 0) → (ls = 0 → v ≠ 0 → μ 164 to ≠ 0) → P 0 μ3 := by
          intro μ3 v e3 hv hv2
          have n2 := nz_le_n (μ3 164) 402
          have c3 : μ3 163 = μ2 163 := by rw [e3]; exact mu_ne (by decide)
          have c5 : μ3 165 = μ1 165 := by rw [e3, mu_ne (by decide)]; exact b2
          have m4 : ab_nz (μ3 164) 402 ≤ ab_nz (μ 164) 402 + 1 := by
            have := nz_up μ2 164 to v 402
            rw [← e3, (funext b4 : μ2 164 = μ 164)] at this
            exact this
          have m5 : ls = 0 → ab_nz (μ3 164) 402 ≤ ab_nz (μ 164) 402 := by
            intro hl
            have := nz_le (μ := μ2) (a := 164) (i := to) (v := v) (n := 402) (fun h => by rw [b4]; exact hv2 hl h)
            rw [← e3, (funext b4 : μ2 164 = μ 164)] at this
            exact this
          refine hP μ3 ⟨fun c j hc => ?_, fun j hj => ⟨?_, ?_⟩, ?_, fun j hj => ?_, fun q q0 q1 => ?_, fun hc q q0 q1 => ?_, fun hz => ?_, ?_⟩
          · rw [e3, mu_ne (by omega), e2, mu_ne (by omega)]; exact ho c j (by omega)
          · rw [c3, e2, ab_mud, if_neg (by omega)]; exact ho 163 j (by decide)
          · rw [e3, ab_mud, if_neg (by omega)]; exact b4 j
          · rw [c3, e2, ab_mud, if_pos ⟨rfl, rfl⟩]; decide
          · rw [c5]; exact hun j hj
          · rw [c5]; exact hgd q q0 q1
          · rw [c5]
            rcases hfi with k | ⟨k1, k2, k3, k4⟩
            · exact absurd k.2.1 hc
            · exact k3 q q0 q1
          · have : v = 0 := by rw [e3, ab_mud, if_pos ⟨rfl, rfl⟩] at hz; exact hz
            obtain ⟨g0, g1, g2⟩ := hv this
            refine ⟨g0, g1, fun q q0 q1 => ?_⟩
            rw [c5]
            rcases hfi with k | ⟨k1, k2, k3, k4⟩
            · omega
            · rcases k4 with ⟨k5, k6, k7⟩ | k5
              · exact k6 q q0 q1
              · omega
          · unfold mH
            rw [c3, c5]
            rcases hfi with k | ⟨k1, k2, k3, k4⟩
            · have := zlt k.2.1; omega
            · rcases k4 with ⟨k5, k6, k7⟩ | k5
              · have := m5 k5; omega
              · omega
        refine ⟨fun hz => ⟨by omega, fun μ3 e3 => fin μ3 (1 % 2) e3 (fun q => absurd q (by decide)) (fun _ _ => by rw [← b4]; exact hz)⟩, fun hz => ⟨fun hl => ⟨by omega, fun μ3 e3 => fin μ3 (0 % 2) e3 (fun _ => ?_) (fun _ q => absurd rfl q)⟩, fun hl => ⟨by omega, fun μ3 e3 => fin μ3 (1 % 2) e3 (fun q => absurd q (by decide)) (fun q _ => absurd q hl)⟩⟩⟩
        rcases hfi with k | ⟨k1, k2, k3, k4⟩
        · omega
        · exact ⟨by rw [← b4]; exact hz, k2, hl⟩
      · rw [row hlt] at hs ⊢
        exact s144 _ (μ 165 (300 * i + r)) h0 h1 h2 h4 h5 h6 h7 rfl hlt (fun q => by omega) (by omega)
      · rw [row hlt] at hs ⊢
        refine s144 _ (μ 165 (300 * i + r)) h0 h1 h2 h4 h5 h6 h7 rfl hlt (fun q => Or.inr ⟨fun q2 => ?_, rfl, fun q2 => ?_⟩) (h165 r hr hlt)
        · rcases hmade with k | k
          · exact k.2 q2.1
          · have := hd k.2; omega
        · rcases hmade with k | k
          · exact absurd q2 k.2
          · have := hd k.2; omega
      · rw [row hlt] at hs ⊢
        have hb := h165 r hr hlt
        refine c_mM_has (by omega) ⟨fun q => absurd q (by decide), fun _ => s144 _ (-1) h0 h1 h2 h4 h5 h6 h7 rfl hlt mGd.neg (by omega)⟩ (fun hnh => ⟨fun _ => ?_, fun q => absurd rfl q⟩)
        refine s144 _ (μ 165 (300 * i + r)) h0 h1 h2 h4 h5 h6 h7 rfl hlt (fun q => Or.inr ⟨fun q2 => ?_, rfl, fun q2 => ?_⟩) hb
        · rcases hmade with k | k
          · exact k.2 q2.1
          · exact hne (by rw [k.1]; exact q2.2.symm)
        · rcases hmade with k | k
          · exact absurd k.1 hm1
          · rw [← k.1]
            intro hh
            exact hnh (by unfold mHas at hh ⊢; rw [ho 166 _ (by decide), ho 167 _ (by decide), ho 168 _ (by decide), ho 169 _ (by decide), ho 170 _ (by decide)]; exact hh)
      · exact s144 _ (-1) h0 h1 h2 h4 h5 h6 h7 rfl hlt mGd.neg (by omega)
      · rw [e171] at hs ⊢
        refine c_mM_has (by omega) ⟨fun _ => s144 _ (-1) h0 h1 h2 h4 h5 h6 h7 rfl hlt mGd.neg (by omega), fun q => absurd q (by decide)⟩ (fun hnh => ⟨fun q => absurd rfl q, fun _ => ⟨by omega, ?_⟩⟩)
        rw [e171]
        have hmd : made = μ 146 (500 + i) ∧ mDf μ (500 + i) := by
          rcases hmade with k | k
          · omega
          · exact k
        refine s144 _ (μ 171 i) h0 h1 h2 h4 h5 h6 h7 rfl hlt (fun q => Or.inl ⟨⟨hmd.2, by rw [← hmd.1]; exact he.symm⟩, rfl, fun hh => ?_⟩) h171
        exact hnh (by unfold mHas at hh ⊢; rw [ho 166 _ (by decide), ho 167 _ (by decide), ho 168 _ (by decide), ho 169 _ (by decide), ho 170 _ (by decide)]; exact hh)
  have s24 : ∀ (s : Int), (s = -1 ∧ ¬ mDf μ (500 + i) ∨ s = μ 146 (500 + i) ∧ mDf μ (500 + i)) → jj_mM_hand X (d + 1) 24 (ab_up (ab_la [109, i, to]) 3 (500 + i)) [(0, s)] μ P := by
    intro s hs
    refine bk_mM_hand_24 rfl ?_
    show ((0 : Int) ≤ to ∧ to < 402) ∧ (μ 163 to ≠ 0 → _) ∧ (μ 163 to = 0 → _)
    exact ⟨by omega, fun h => s49 _ _ μ s 0 0 0 rfl rfl rfl rfl rfl rfl rfl (by omega) (by omega) rfl hs (fun _ _ _ => rfl) (fun _ _ => rfl) (fun q q0 q1 => by omega) (Or.inr ⟨rfl, h, fun q q0 q1 => by omega, Or.inl ⟨rfl, fun q q0 q1 => by omega, Nat.le_refl _⟩⟩), fun h => s49 _ _ μ s 1 1 0 rfl rfl rfl rfl rfl rfl rfl (by omega) (by omega) rfl hs (fun _ _ _ => rfl) (fun _ _ => rfl) (fun q q0 q1 => by omega) (Or.inl ⟨rfl, h, rfl⟩)⟩
  refine bk_mM_hand_0 rfl ?_
  simp only [la1]
  simp (disch := omega) only [ab_wi]
  exact c_mM_defines (by omega) (fun q => ⟨fun q2 => absurd q2 (by decide), fun _ => ⟨by omega, s24 _ (Or.inr ⟨rfl, q⟩)⟩⟩) (fun q1 q2 => ⟨fun _ => s24 _ (Or.inl ⟨rfl, fun q => by unfold mDf at q; omega⟩), fun q3 => absurd rfl q3⟩)
end M9

/-! THE REFERENCE, part 10: findHeld -/
section M10
variable {X : jm_X} {d : Nat} {P : Int → ab_m → Prop}
/-- a way from i to j -/
def mE (μ : ab_m) (i j : Int) : Prop := (μ 145 (500 + i) ≠ 25 ∧ μ 145 (500 + i) ≠ 28 ∧ j = i + 1) ∨ (mIsL (μ 145 (500 + i)) ∧ j = μ 146 (500 + i))
/-- j is come to by m ways -/
def mRc (μ : ab_m) (n : Int) : Nat → Int → Prop
  | 0, j => j = 0
  | m + 1, j => ∃ i, 0 ≤ i ∧ i < n ∧ mRc μ n m i ∧ mE μ i j
theorem mE.same {μ μ' : ab_m} {i j : Int} (h : mE μ i j) (h1 : μ' 145 (500 + i) = μ 145 (500 + i)) (h2 : μ' 146 (500 + i) = μ 146 (500 + i)) : mE μ' i j := by
  unfold mE at h ⊢
  rw [h1, h2]
  exact h
theorem mRc.same {μ μ' : ab_m} {n : Int} (h1 : ∀ i, 0 ≤ i → i < n → μ' 145 (500 + i) = μ 145 (500 + i)) (h2 : ∀ i, 0 ≤ i → i < n → μ' 146 (500 + i) = μ 146 (500 + i)) : ∀ {m : Nat} {j : Int}, mRc μ n m j → mRc μ' n m j := by
  intro m
  induction m with
  | zero => intro j h; exact h
  | succ m ih =>
    intro j ⟨i, a, b, c, e⟩
    exact ⟨i, a, b, ih c, e.same (h1 i a b) (h2 i a b)⟩
theorem mWF.e {μ : ab_m} {n R i j : Int} (h : mWF μ 500 n R) (h0 : 0 ≤ i) (h1 : i < n) (he : mE μ i j) : 0 ≤ j ∧ j < n := by
  rcases he with ⟨a, b, c⟩ | ⟨a, b⟩
  · have : i ≠ n - 1 := fun e => by have := h.last h0 e; omega
    omega
  · have := (h.at h0 h1).2.2.2.2.2.1 a
    omega
theorem mHas.same {μ μ' : ab_m} {e r : Int} (h : mHas μ e r) (hs : ∀ c j, 166 ≤ c → c ≤ 170 → μ' c j = μ c j) : mHas μ' e r := by
  unfold mHas at h ⊢
  rw [hs 166 _ (by decide) (by decide), hs 167 _ (by decide) (by decide), hs 168 _ (by decide) (by decide), hs 169 _ (by decide) (by decide), hs 170 _ (by decide) (by decide)]
  exact h
theorem mGd.same {μ μ' : ab_m} {i r v : Int} (h : mGd μ i r v) (hs : ∀ c j, 166 ≤ c → c ≤ 171 → μ' c j = μ c j) (hc : ∀ c j, 145 ≤ c → c ≤ 150 → μ' c j = μ c j) (h5 : μ' 165 (300 * i + r) = μ 165 (300 * i + r)) : mGd μ' i r v := by
  intro h0
  have hh : ∀ e q, mHas μ' e q → mHas μ e q := fun e q w => w.same fun c j a b => (hs c j a (by omega)).symm
  have e1 : μ' 145 (500 + i) = μ 145 (500 + i) := hc _ _ (by decide) (by decide)
  have e2 : μ' 146 (500 + i) = μ 146 (500 + i) := hc _ _ (by decide) (by decide)
  have e3 : μ' 171 i = μ 171 i := hs _ _ (by decide) (by decide)
  have hdf : mDf μ' (500 + i) ↔ mDf μ (500 + i) := by unfold mDf; rw [e1]
  rcases h h0 with ⟨⟨a, a2⟩, b, c⟩ | ⟨a, b, c⟩
  · exact Or.inl ⟨⟨hdf.mpr a, by rw [e2]; exact a2⟩, by rw [e3]; exact b, fun w => c (hh _ _ w)⟩
  · exact Or.inr ⟨fun w => a ⟨hdf.mp w.1, by rw [← e2]; exact w.2⟩, by rw [h5]; exact b, fun w w2 => c (hdf.mp w) (by rw [← e2]; exact hh _ _ w2)⟩
/-- what holds while findHeld goes on: all ways of instructions that aren't dirty are right, of instruction x those to D -/
def mHI (μ : ab_m) (n R x : Int) (D : Int → Prop) : Prop := (∀ i, 0 ≤ i → i < n → μ 166 i = μ 145 (500 + i) ∧ μ 167 i = μ 147 (500 + i) ∧ μ 169 i = μ 149 (500 + i) ∧ μ 171 i < n) ∧ (∀ r, 0 ≤ r → r < R → μ 165 r < 0) ∧ μ 163 0 ≠ 0 ∧ (∀ i, 0 ≤ i → i < n → μ 163 i ≠ 0 → (∃ m, mRc μ n m i) ∧ ∀ r, 0 ≤ r → r < R → μ 165 (300 * i + r) < n) ∧ (∀ i, 0 ≤ i → i < n → μ 163 i ≠ 0 → μ 164 i = 0 → ∀ j, mE μ i j → (i = x → D j) → μ 163 j ≠ 0 ∧ ∀ r, 0 ≤ r → r < R → mGd μ i r (μ 165 (300 * j + r)))
theorem mHI.hand {μ μ' : ab_m} {n R x to : Int} {D : Int → Prop} (hW : mWF μ 500 n R) (h : mHI μ n R x D) (hx : 0 ≤ x ∧ x < n) (hc : μ 163 x ≠ 0) (he : mE μ x to) (hd : mHd μ μ' x to R n) : mHI μ' n R x (fun j => D j ∨ j = to) := by
  obtain ⟨a1, a2, a3, a4, a5⟩ := h
  obtain ⟨b1, b2, b3, b4, b5, b6, b7, b8⟩ := hd
  have hto := hW.e hx.1 hx.2 he
  have hR : 0 ≤ R ∧ R ≤ 300 := ⟨hW.2.2.1, hW.2.2.2.1⟩
  have code : ∀ c j, 145 ≤ c → c ≤ 150 → μ' c j = μ c j := fun c j g1 g2 => b1 c j (by omega)
  have snap : ∀ c j, 166 ≤ c → c ≤ 171 → μ' c j = μ c j := fun c j g1 g2 => b1 c j (by omega)
  have row : ∀ j r, j ≠ to → 0 ≤ r → r < R → μ' 165 (300 * j + r) = μ 165 (300 * j + r) := fun j r g1 g2 g3 => b4 _ (by omega)
  have com : ∀ j, μ 163 j ≠ 0 → μ' 163 j ≠ 0 := by
    intro j hj
    by_cases e : j = to
    · rw [e, b3]; decide
    · rw [(b2 j e).1]; exact hj
  refine ⟨fun i g0 g1 => ?_, fun r g0 g1 => ?_, com 0 a3, fun i g0 g1 g2 => ⟨?_, ?_⟩, fun i g0 g1 g2 g3 j hj hD => ?_⟩
  · rw [snap 166 _ (by decide) (by decide), snap 167 _ (by decide) (by decide), snap 169 _ (by decide) (by decide), snap 171 _ (by decide) (by decide), code 145 _ (by decide) (by decide), code 147 _ (by decide) (by decide), code 149 _ (by decide) (by decide)]
    exact a1 i g0 g1
  · by_cases e : to = 0
    · have := b6 (by rw [e]; exact a3) r g0 g1
      rw [e, Int.mul_zero, Int.zero_add] at this
      have := a2 r g0 g1
      omega
    · have := row 0 r (Ne.symm e) g0 g1
      rw [Int.mul_zero, Int.zero_add] at this
      rw [this]; exact a2 r g0 g1
  · have tr : ∀ {m : Nat} {j : Int}, mRc μ n m j → mRc μ' n m j := mRc.same (fun i _ _ => code _ _ (by decide) (by decide)) (fun i _ _ => code _ _ (by decide) (by decide))
    by_cases e : i = to
    · obtain ⟨m, hm⟩ := (a4 x hx.1 hx.2 hc).1
      exact ⟨m + 1, x, hx.1, hx.2, tr hm, by rw [e]; exact he.same (code _ _ (by decide) (by decide)) (code _ _ (by decide) (by decide))⟩
    · rw [(b2 i e).1] at g2
      obtain ⟨m, hm⟩ := (a4 i g0 g1 g2).1
      exact ⟨m, tr hm⟩
  · intro r q0 q1
    by_cases e : i = to
    · rw [e]; exact (b5 r q0 q1).2
    · rw [(b2 i e).1] at g2
      rw [row i r e q0 q1]
      exact (a4 i g0 g1 g2).2 r q0 q1
  · have hj' : mE μ i j := hj.same (code _ _ (by decide) (by decide)).symm (code _ _ (by decide) (by decide)).symm
    -- the row of i is as it was
    have st : μ 163 i ≠ 0 ∧ μ 164 i = 0 ∧ ∀ r, 0 ≤ r → r < R → μ' 165 (300 * i + r) = μ 165 (300 * i + r) := by
      by_cases e : i = to
      · rw [e] at g3
        obtain ⟨q1, q2, q3⟩ := b7 g3
        rw [e]
        exact ⟨q2, q1, q3⟩
      · rw [(b2 i e).1] at g2
        rw [(b2 i e).2] at g3
        exact ⟨g2, g3, fun r q0 q1 => row i r e q0 q1⟩
    by_cases ej : j = to
    · subst ej
      refine ⟨by rw [b3]; decide, fun r q0 q1 => ?_⟩
      by_cases ei : i = x
      · subst ei
        exact (b5 r q0 q1).1.same snap code (st.2.2 r q0 q1)
      · obtain ⟨w1, w2⟩ := a5 i g0 g1 st.1 st.2.1 j hj' (fun q => absurd q ei)
        rcases b6 w1 r q0 q1 with w | w
        · rw [w]; exact (w2 r q0 q1).same snap code (st.2.2 r q0 q1)
        · rw [w]; exact mGd.neg
    · obtain ⟨w1, w2⟩ := a5 i g0 g1 st.1 st.2.1 j hj' (fun q => (hD q).resolve_right ej)
      refine ⟨com j w1, fun r q0 q1 => ?_⟩
      rw [row j r ej q0 q1]
      exact (w2 r q0 q1).same snap code (st.2.2 r q0 q1)
end M10

/-! THE REFERENCE, part 11: findHeld, its loops -/
section M11
variable {X : jm_X} {d : Nat} {P : Int → ab_m → Prop}
def fHe (μ μ' : ab_m) : Prop := ∀ c j, (c < 163 ∨ 171 < c) → μ' c j = μ c j
theorem fHe.mu {μ μ' : ab_m} {a i v : Int} (h : fHe μ μ') (ha : 163 ≤ a ∧ a ≤ 171) : fHe μ (ab_mu μ' a i v) := by
  intro c j hc
  rw [ab_mud, if_neg (by omega)]
  exact h c j hc
theorem mHI.all {μ : ab_m} {n R x : Int} {D D' : Int → Prop} (h : mHI μ n R x D) (ha : ∀ j, mE μ x j → D j) : mHI μ n R (-1) D' := by
  obtain ⟨a1, a2, a3, a4, a5⟩ := h
  exact ⟨a1, a2, a3, a4, fun i g0 g1 g2 g3 j hj _ => a5 i g0 g1 g2 g3 j hj (fun e => ha j (by rw [← e]; exact hj))⟩
/-- the end of findHeld -/
def mHF (μ : ab_m) (n R : Int) : Prop := (∀ i, 0 ≤ i → i < n → μ 166 i = μ 145 (500 + i) ∧ μ 167 i = μ 147 (500 + i) ∧ μ 169 i = μ 149 (500 + i) ∧ μ 171 i < n) ∧ (∀ r, 0 ≤ r → r < R → μ 165 r < 0) ∧ (∀ i, 0 ≤ i → i < n → μ 163 i ≠ 0 → (∃ m, mRc μ n m i) ∧ (∀ r, 0 ≤ r → r < R → μ 165 (300 * i + r) < n) ∧ ∀ j, mE μ i j → μ 163 j ≠ 0 ∧ ∀ r, 0 ≤ r → r < R → mGd μ i r (μ 165 (300 * j + r)))
theorem c_mM_findHeld {μ : ab_m} {n R : Int} (hW : mWF μ 500 n R) (hR : μ 109 71 = R) (hg : ab_Rg μ) (hP : ∀ μ', fHe μ μ' → mHF μ' n R → μ' 163 0 ≠ 0 → P 0 μ') : jj_mM_findHeld X (d + 2) 0 (ab_la [109, n]) [] μ P := by
  have n1 : 1 ≤ n ∧ n ≤ 400 ∧ 0 ≤ R ∧ R ≤ 300 := ⟨hW.1, hW.2.1, hW.2.2.1, hW.2.2.2.1⟩
  have wf : ∀ μ1, fHe μ μ1 → mWF μ1 500 n R := fun μ1 h => hW.same fun c i g1 g2 => h c i (by omega)
  have rr : ∀ μ1, fHe μ μ1 → μ1 109 71 = R := fun μ1 h => by rw [h 109 71 (by omega)]; exact hR
  -- the turns
  have s244 : ∀ (m : Nat) (l : ab_l) (μ1 : ab_m) (i more : Int) (c : Nat), l 0 = 109 → l 1 = n → l 2 = more → l 3 = i → 0 ≤ i → i ≤ n → (n - i).toNat = m → fHe μ μ1 → mHI μ1 n R (-1) (fun _ => True) → (∀ j, 0 ≤ j → j < n → μ1 164 j ≠ 0 → μ1 163 j ≠ 0) → (more = 0 ∧ mH μ1 ≤ c ∧ (∀ j, 0 ≤ j → j < i → μ1 164 j = 0) ∨ more = 1 ∧ mH μ1 < c) →
      (∀ (l' : ab_l) (μ2 : ab_m) (more' : Int), l' 0 = 109 → l' 1 = n → l' 2 = more' → fHe μ μ2 → mHI μ2 n R (-1) (fun _ => True) → (∀ j, 0 ≤ j → j < n → μ2 164 j ≠ 0 → μ2 163 j ≠ 0) → (more' = 0 ∧ mH μ2 ≤ c ∧ (∀ j, 0 ≤ j → j < n → μ2 164 j = 0) ∨ more' = 1 ∧ mH μ2 < c) → jj_mM_findHeld X (d + 2) 236 l' [] μ2 P) → jj_mM_findHeld X (d + 2) 244 l [] μ1 P := by
    intro m
    induction m using Nat.strongRecOn with
    | ind m ih =>
      intro l μ1 i more c h0 h1 h2 h3 hi hin hm hf hI h6 hc k
      refine bk_mM_findHeld_244 h0 ?_
      simp only [h1, h3]
      rw [show ab_w (500 + i) = 500 + i from ab_wi (by omega) (by omega), show ab_w (i + 1) = i + 1 from ab_wi (by omega) (by omega)]
      refine ⟨fun q => k l μ1 more h0 h1 h2 hf hI h6 ?_, fun h => ⟨by omega, fun hz => ⟨by omega, fun μ2 e2 => ?_⟩, fun hz => ih _ (by omega) _ μ1 (i + 1) more c h0 h1 h2 rfl (by omega) (by omega) rfl hf hI h6 ?_ k⟩⟩
      · rcases hc with q1 | q1
        · exact Or.inl ⟨q1.1, q1.2.1, fun j a b => q1.2.2 j a (by omega)⟩
        · exact Or.inr q1
      · have hf2 : fHe μ μ2 := by rw [e2]; exact hf.mu (by omega)
        have ci : μ1 163 i ≠ 0 := h6 i hi h hz
        have u : ∀ a j, a ≠ 164 → μ2 a j = μ1 a j := fun a j ha => by rw [e2, mu_ne ha]
        have lt2 : mH μ2 < mH μ1 := by
          have a : μ2 163 = μ1 163 := funext fun j => u 163 j (by decide)
          have b' : μ2 165 = μ1 165 := funext fun j => u 165 j (by decide)
          have c' : ab_nz (μ2 164) 402 < ab_nz (μ1 164) 402 := by rw [e2]; exact nz_lt (by omega) (by omega) hz
          unfold mH
          rw [a, b']
          omega
        have hlt : mH μ2 < c := by omega
        have hI2 : mHI μ2 n R i (fun _ => False) := by
          obtain ⟨a1, a2, a3, a4, a5⟩ := hI
          have tr : ∀ {m : Nat} {j : Int}, mRc μ1 n m j → mRc μ2 n m j := mRc.same (fun i _ _ => u _ _ (by decide)) (fun i _ _ => u _ _ (by decide))
          refine ⟨fun j g0 g1 => ?_, fun r g0 g1 => ?_, ?_, fun j g0 g1 g2 => ?_, fun j g0 g1 g2 g3 j2 hj hD => ?_⟩
          · rw [u 166 _ (by decide), u 167 _ (by decide), u 169 _ (by decide), u 171 _ (by decide), u 145 _ (by decide), u 147 _ (by decide), u 149 _ (by decide)]; exact a1 j g0 g1
          · rw [u 165 _ (by decide)]; exact a2 r g0 g1
          · rw [u 163 _ (by decide)]; exact a3
          · rw [u 163 _ (by decide)] at g2
            obtain ⟨⟨m, hm⟩, w⟩ := a4 j g0 g1 g2
            exact ⟨⟨m, tr hm⟩, fun r q0 q1 => by rw [u 165 _ (by decide)]; exact w r q0 q1⟩
          · have hji : j ≠ i := fun e => hD e
            rw [u 163 _ (by decide)] at g2
            rw [e2, ab_mud, if_neg (by omega)] at g3
            obtain ⟨w1, w2⟩ := a5 j g0 g1 g2 g3 j2 (hj.same (u _ _ (by decide)).symm (u _ _ (by decide)).symm) (fun e => absurd e (by omega))
            refine ⟨by rw [u 163 _ (by decide)]; exact w1, fun r q0 q1 => ?_⟩
            rw [u 165 _ (by decide)]
            exact (w2 r q0 q1).same (fun c j a b => u c j (by omega)) (fun c j a b => u c j (by omega)) (u _ _ (by decide))
        have h62 : ∀ j, 0 ≤ j → j < n → μ2 164 j ≠ 0 → μ2 163 j ≠ 0 := by
          intro j g0 g1 g2
          rw [u 163 _ (by decide)]
          refine h6 j g0 g1 fun q => g2 ?_
          rw [e2, ab_mud]
          split
          · rfl
          · exact q
        -- a hand
        have hand : ∀ (μ3 : ab_m) (to : Int) (D : Int → Prop) (Q : Int → ab_m → Prop), fHe μ μ3 → mHI μ3 n R i D → (∀ j, 0 ≤ j → j < n → μ3 164 j ≠ 0 → μ3 163 j ≠ 0) → μ3 163 i ≠ 0 → mH μ3 < c → mE μ3 i to → (∀ μ4, fHe μ μ4 → mHI μ4 n R i (fun j => D j ∨ j = to) → (∀ j, 0 ≤ j → j < n → μ4 164 j ≠ 0 → μ4 163 j ≠ 0) → μ4 163 i ≠ 0 → mH μ4 < c → Q 0 μ4) → jj_mM_hand X (d + 1) 0 (ab_la [109, i, to]) [] μ3 Q := by
          intro μ3 to D Q g1 g2 g3 g4 g5 g6 kk
          have hto := (wf μ3 g1).e hi h g6
          refine c_mM_hand (rr μ3 g1) (by omega) (by omega) (by omega) (by omega) (fun q => (((wf μ3 g1).at hi h).2.2.2.2.1 q).1) (g2.1 i hi h).2.2.2 ((g2.2.2.2.1 i hi h g4).2) fun μ4 hd4 => ?_
          refine kk μ4 (fun c j hc => (hd4.1 c j (by omega)).trans (g1 c j hc)) (g2.hand (wf μ3 g1) ⟨hi, h⟩ g4 g6 hd4) (fun j q0 q1 q2 => ?_) ?_ (by have := hd4.2.2.2.2.2.2.2; omega)
          · by_cases e : j = to
            · rw [e, hd4.2.2.1]; decide
            · rw [(hd4.2.1 j e).1]; rw [(hd4.2.1 j e).2] at q2; exact g3 j q0 q1 q2
          · by_cases e : i = to
            · rw [e, hd4.2.2.1]; decide
            · rw [(hd4.2.1 i e).1]; exact g4
        -- behind the first
        have s290 : ∀ (l' : ab_l) (μ3 : ab_m) (D : Int → Prop), l' 0 = 109 → l' 1 = n → l' 2 = 1 → l' 3 = i → fHe μ μ3 → mHI μ3 n R i D → (∀ j, 0 ≤ j → j < n → μ3 164 j ≠ 0 → μ3 163 j ≠ 0) → μ3 163 i ≠ 0 → mH μ3 < c → (μ3 145 (500 + i) ≠ 25 → μ3 145 (500 + i) ≠ 28 → D (i + 1)) → jj_mM_findHeld X (d + 2) 290 l' [] μ3 P := by
          intro l' μ3 D g0 g1 g2 g3 w1 w2 w3 w4 w5 w6
          refine bk_mM_findHeld_290 g0 ?_
          simp only [g3]
          rw [show ab_w (500 + i) = 500 + i from ab_wi (by omega) (by omega), show ab_w (i + 1) = i + 1 from ab_wi (by omega) (by omega)]
          have on : ∀ μ4, fHe μ μ4 → mHI μ4 n R (-1) (fun _ => True) → (∀ j, 0 ≤ j → j < n → μ4 164 j ≠ 0 → μ4 163 j ≠ 0) → mH μ4 < c → jj_mM_findHeld X (d + 2) 244 (ab_up l' 3 (i + 1)) [] μ4 P := fun μ4 q1 q2 q3 q4 => ih _ (by omega) _ μ4 (i + 1) 1 c g0 g1 g2 rfl (by omega) (by omega) rfl q1 q2 q3 (Or.inr ⟨rfl, q4⟩) k
          refine c_mM_leaps (by omega) (fun q => ⟨fun q2 => absurd q2 (by decide), fun _ => ⟨by omega, ?_⟩⟩) (fun q1 q2 q3 => ⟨fun _ => on μ3 w1 (w2.all fun j hj => ?_) w3 w5, fun q => absurd rfl q⟩)
          · refine hand μ3 (μ3 146 (500 + i)) D _ w1 w2 w3 w4 w5 (Or.inr ⟨q, rfl⟩) fun μ4 v1 v2 v3 v4 v5 => on μ4 v1 (v2.all fun j hj => ?_) v3 v5
            have hj3 : mE μ3 i j := hj.same ((v1 145 _ (by omega)).trans (w1 145 _ (by omega)).symm).symm ((v1 146 _ (by omega)).trans (w1 146 _ (by omega)).symm).symm
            rcases hj3 with ⟨a, b, e⟩ | ⟨a, e⟩
            · left; rw [e]; exact w6 a b
            · right; exact e
          · rcases hj with ⟨a, b, e⟩ | ⟨a, e⟩
            · rw [e]; exact w6 a b
            · rcases a with a | a | a
              · exact absurd a q1
              · exact absurd a q2
              · exact absurd a q3
        have ci2 : μ2 163 i ≠ 0 := by rw [u 163 _ (by decide)]; exact ci
        refine c_mM_goesOn (by omega) (fun q1 q2 => ⟨fun q => absurd q (by decide), fun _ => ?_⟩) (fun q => ⟨fun _ => s290 _ μ2 _ h0 h1 rfl h3 hf2 hI2 h62 ci2 hlt (fun a b => by omega), fun q2 => absurd rfl q2⟩)
        exact hand μ2 (i + 1) _ _ hf2 hI2 h62 ci2 hlt (Or.inl ⟨q1, q2, rfl⟩) fun μ4 v1 v2 v3 v4 v5 => s290 _ μ4 _ h0 h1 rfl h3 v1 v2 v3 v4 v5 (fun _ _ => Or.inr rfl)
      · rcases hc with q1 | q1
        · refine Or.inl ⟨q1.1, q1.2.1, fun j a b => ?_⟩
          by_cases e : j = i
          · rw [e]; exact hz
          · exact q1.2.2 j a (by omega)
        · exact Or.inr q1
  have s236 : ∀ (m : Nat) (l : ab_l) (μ1 : ab_m) (more : Int), l 0 = 109 → l 1 = n → l 2 = more → (more = 0 ∧ (∀ j, 0 ≤ j → j < n → μ1 164 j = 0) ∨ more = 1) → 2 * mH μ1 + more.toNat = m → fHe μ μ1 → mHI μ1 n R (-1) (fun _ => True) → (∀ j, 0 ≤ j → j < n → μ1 164 j ≠ 0 → μ1 163 j ≠ 0) → jj_mM_findHeld X (d + 2) 236 l [] μ1 P := by
    intro m
    induction m using Nat.strongRecOn with
    | ind m ih =>
      intro l μ1 more h0 h1 h2 hmr hm hf hI h6
      refine bk_mM_findHeld_236 h0 ?_
      rw [h2]
      refine ⟨fun q => ?_, fun h => ?_⟩
      · have hcl : ∀ j, 0 ≤ j → j < n → μ1 164 j = 0 := by
          rcases hmr with w | w
          · exact w.2
          · omega
        obtain ⟨a1, a2, a3, a4, a5⟩ := hI
        refine hP μ1 hf ⟨a1, a2, fun i g0 g1 g2 => ⟨(a4 i g0 g1 g2).1, (a4 i g0 g1 g2).2, fun j hj => a5 i g0 g1 g2 (hcl i g0 g1) j hj (fun _ => trivial)⟩⟩ a3
      · exact s244 _ _ μ1 0 0 (mH μ1) h0 h1 rfl rfl (by omega) (by omega) rfl hf hI h6 (Or.inl ⟨rfl, Nat.le_refl _, fun j a b => by omega⟩) fun l' μ2 more' g0 g1 g2 g3 g4 g5 g6 => by
          refine ih (2 * mH μ2 + more'.toNat) ?_ l' μ2 more' g0 g1 g2 ?_ rfl g3 g4 g5
          · rcases g6 with w | w <;> omega
          · rcases g6 with w | w
            · exact Or.inl ⟨w.1, w.2.2⟩
            · exact Or.inr w.1
  -- the first row
  have s199 : ∀ (m : Nat) (l : ab_l) (μ1 : ab_m) (r : Int), l 0 = 109 → l 1 = n → l 2 = r → 0 ≤ r → r ≤ R → (R - r).toNat = m → fHe μ μ1 → (∀ i, 0 ≤ i → i < n → μ1 166 i = μ 145 (500 + i) ∧ μ1 167 i = μ 147 (500 + i) ∧ μ1 169 i = μ 149 (500 + i) ∧ μ1 171 i < n ∧ μ1 163 i = 0 ∧ μ1 164 i = 0) → (∀ q, 0 ≤ q → q < r → μ1 165 q = -1) → jj_mM_findHeld X (d + 2) 199 l [] μ1 P := by
    intro m
    induction m using Nat.strongRecOn with
    | ind m ih =>
      intro l μ1 r h0 h1 h2 hr hrR hm hf hs hz
      refine bk_mM_findHeld_199 h0 ?_
      simp only [h2, rr μ1 hf]
      rw [show ab_w (r + 1) = r + 1 from ab_wi (by omega) (by omega)]
      refine ⟨fun q => ⟨by omega, fun μ2 e2 => ⟨by omega, fun μ3 e3 => ?_⟩⟩, fun q => ⟨by omega, fun μ2 e2 => ?_⟩⟩
      · have hf3 : fHe μ μ3 := by rw [e3, e2]; exact (hf.mu (by omega)).mu (by omega)
        have u : ∀ c j, c ≠ 163 → c ≠ 164 → μ3 c j = μ1 c j := fun c j a b => by rw [e3, mu_ne b, e2, mu_ne a]
        have v3 : ∀ j, μ3 163 j = if j = 0 then 1 else μ1 163 j := fun j => by rw [e3, mu_ne (by decide), e2, ab_mud]; simp
        have v4 : ∀ j, μ3 164 j = if j = 0 then 1 else μ1 164 j := fun j => by rw [e3, ab_mud]; simp only [true_and]; rw [show (1 % 2 : Int) = 1 from rfl, e2, mu_ne (by decide)]
        have z3 : ∀ j, 0 ≤ j → j < n → μ3 163 j ≠ 0 → j = 0 := by
          intro j a b cq
          rw [v3] at cq
          split at cq
          · assumption
          · exact absurd (hs j a b).2.2.2.2.1 cq
        refine s236 _ _ μ3 1 h0 h1 rfl (Or.inr rfl) rfl hf3 ⟨fun i a b => ?_, fun q' a b => ?_, ?_, fun i a b cq => ?_, fun i a b cq dq => ?_⟩ (fun j a b cq => ?_)
        · rw [u 166 _ (by decide) (by decide), u 167 _ (by decide) (by decide), u 169 _ (by decide) (by decide), u 171 _ (by decide) (by decide), hf3 145 _ (by omega), hf3 147 _ (by omega), hf3 149 _ (by omega)]
          exact ⟨(hs i a b).1, (hs i a b).2.1, (hs i a b).2.2.1, (hs i a b).2.2.2.1⟩
        · rw [u 165 _ (by decide) (by decide), hz q' a (by omega)]; decide
        · rw [v3, if_pos rfl]; decide
        · have : i = 0 := z3 i a b cq
          subst this
          refine ⟨⟨0, rfl⟩, fun q' g0 g1 => ?_⟩
          rw [Int.mul_zero, Int.zero_add, u 165 _ (by decide) (by decide), hz q' g0 (by omega)]; omega
        · have : i = 0 := z3 i a b cq
          subst this
          rw [v4, if_pos rfl] at dq
          exact absurd dq (by decide)
        · rw [v4] at cq
          split at cq
          · rename_i e; rw [e, v3, if_pos rfl]; decide
          · exact absurd (hs j a b).2.2.2.2.2 cq
      · refine ih _ (by omega) _ μ2 (r + 1) h0 h1 rfl (by omega) (by omega) rfl (by rw [e2]; exact hf.mu (by omega)) (fun i a b => ?_) (fun q' a b => ?_)
        · rw [e2, mu_ne (by decide), mu_ne (by decide), mu_ne (by decide), mu_ne (by decide), mu_ne (by decide), mu_ne (by decide)]; exact hs i a b
        · rw [e2, ab_mud]
          split
          · rfl
          · exact hz q' a (by omega)
  -- the expressions
  have s2 : ∀ (m : Nat) (l : ab_l) (μ1 : ab_m) (i : Int), l 0 = 109 → l 1 = n → l 2 = i → 0 ≤ i → i ≤ n → (n - i).toNat = m → fHe μ μ1 → (∀ j, 0 ≤ j → j < i → μ1 166 j = μ 145 (500 + j) ∧ μ1 167 j = μ 147 (500 + j) ∧ μ1 169 j = μ 149 (500 + j) ∧ μ1 171 j < n ∧ μ1 163 j = 0 ∧ μ1 164 j = 0) → jj_mM_findHeld X (d + 2) 2 l [] μ1 P := by
    intro m
    induction m using Nat.strongRecOn with
    | ind m ih =>
      intro l μ1 i h0 h1 h2 hi hin hm hf hs
      have s177 : ∀ (l' : ab_l) (μ2 : ab_m), l' 0 = 109 → l' 1 = n → l' 2 = i → i < n → fHe μ μ2 → (∀ j, 0 ≤ j → j < i → μ2 166 j = μ 145 (500 + j) ∧ μ2 167 j = μ 147 (500 + j) ∧ μ2 169 j = μ 149 (500 + j) ∧ μ2 171 j < n ∧ μ2 163 j = 0 ∧ μ2 164 j = 0) → (μ2 166 i = μ 145 (500 + i) ∧ μ2 167 i = μ 147 (500 + i) ∧ μ2 169 i = μ 149 (500 + i) ∧ μ2 171 i < n) → jj_mM_findHeld X (d + 2) 177 l' [] μ2 P := by
        intro l' μ2 g0 g1 g2 hlt w1 w2 w3
        refine bk_mM_findHeld_177 g0 ?_
        simp only [g2]
        rw [show ab_w (i + 1) = i + 1 from ab_wi (by omega) (by omega)]
        refine ⟨by omega, fun μ3 e3 => ⟨by omega, fun μ4 e4 => ?_⟩⟩
        have u : ∀ c j, c ≠ 163 → c ≠ 164 → μ4 c j = μ2 c j := fun c j a b => by rw [e4, mu_ne b, e3, mu_ne a]
        refine ih _ (by omega) _ μ4 (i + 1) g0 g1 rfl (by omega) (by omega) rfl (by rw [e4, e3]; exact (w1.mu (by omega)).mu (by omega)) fun j a b => ?_
        rw [u 166 _ (by decide) (by decide), u 167 _ (by decide) (by decide), u 169 _ (by decide) (by decide), u 171 _ (by decide) (by decide)]
        have y3 : μ4 163 j = if j = i then 0 else μ2 163 j := by rw [e4, mu_ne (by decide), e3, ab_mud]; simp
        have y4 : μ4 164 j = if j = i then 0 else μ2 164 j := by rw [e4, ab_mud]; simp only [true_and]; rw [show (0 % 2 : Int) = 0 from rfl, e3, mu_ne (by decide)]
        rw [y3, y4]
        by_cases e : j = i
        · rw [if_pos e, if_pos e, e]; exact ⟨w3.1, w3.2.1, w3.2.2.1, w3.2.2.2, rfl, rfl⟩
        · rw [if_neg e, if_neg e]; exact w2 j a (by omega)
      have s83 : ∀ (m2 : Nat) (l' : ab_l) (μ2 : ab_m) (j : Int), l' 0 = 109 → l' 1 = n → l' 2 = i → l' 3 = 500 + i → l' 4 = j → 0 ≤ j → j ≤ i + 1 → (i + 1 - j).toNat = m2 → i < n → fHe μ μ2 → (∀ j, 0 ≤ j → j < i → μ2 166 j = μ 145 (500 + j) ∧ μ2 167 j = μ 147 (500 + j) ∧ μ2 169 j = μ 149 (500 + j) ∧ μ2 171 j < n ∧ μ2 163 j = 0 ∧ μ2 164 j = 0) → (μ2 166 i = μ 145 (500 + i) ∧ μ2 167 i = μ 147 (500 + i) ∧ μ2 169 i = μ 149 (500 + i) ∧ μ2 171 i < n) → jj_mM_findHeld X (d + 2) 83 l' [] μ2 P := by
        intro m2
        induction m2 using Nat.strongRecOn with
        | ind m2 ih2 =>
          intro l' μ2 j g0 g1 g2 g3 g4 hj hji hm2 hlt w1 w2 w3
          have x : jj_mM_findHeld X (d + 2) 177 l' [] μ2 P := s177 l' μ2 g0 g1 g2 hlt w1 w2 w3
          refine bk_mM_findHeld_83 g0 ?_
          simp only [g2, g3, g4]
          rw [show ab_w (j + 1) = j + 1 from ab_wi (by omega) (by omega)]
          refine ⟨fun _ => x, fun q => ⟨by omega, fun _ => x, fun _ => ⟨by omega, fun _ => x, fun _ => ⟨by omega, fun _ => x, fun _ => ⟨by omega, by omega, by omega, by omega, by omega, ?_⟩⟩⟩⟩⟩
          have on : ∀ v μ3, μ3 = ab_mu μ2 171 i v → v < n → jj_mM_findHeld X (d + 2) 83 (ab_up l' 4 (j + 1)) [] μ3 P := by
            intro v μ3 e3 hv
            refine ih2 _ (by omega) _ μ3 (j + 1) g0 g1 g2 g3 rfl (by omega) (by omega) rfl hlt (by rw [e3]; exact w1.mu (by omega)) (fun j2 a b => ?_) ?_
            · rw [e3, mu_ne (show (166 : Int) ≠ 171 by decide), mu_ne (show (167 : Int) ≠ 171 by decide), mu_ne (show (169 : Int) ≠ 171 by decide), mu_ne (show (163 : Int) ≠ 171 by decide), mu_ne (show (164 : Int) ≠ 171 by decide), ab_mud, if_neg (by omega)]; exact w2 j2 a b
            · rw [e3, mu_ne (show (166 : Int) ≠ 171 by decide), mu_ne (show (167 : Int) ≠ 171 by decide), mu_ne (show (169 : Int) ≠ 171 by decide), ab_mud, if_pos ⟨rfl, rfl⟩]; exact ⟨w3.1, w3.2.1, w3.2.2.1, hv⟩
          exact c_mM_isExpr (by omega) (fun _ _ _ _ _ => ⟨fun q => absurd q (by decide), fun _ => ⟨by omega, fun μ3 e3 => on j μ3 e3 (by omega)⟩⟩) ⟨fun _ => ⟨by omega, fun μ3 e3 => on (-1) μ3 e3 (by omega)⟩, fun q => absurd rfl q⟩
      refine bk_mM_findHeld_2 h0 ?_
      simp only [h1, h2]
      rw [show ab_w (500 + i) = 500 + i from ab_wi (by omega) (by omega)]
      refine ⟨fun q => s199 _ _ μ1 0 h0 h1 rfl (by omega) (by omega) rfl hf (fun j a b => hs j a (by omega)) (fun q a b => by omega), fun q => ⟨by omega, by omega, fun μ2 e2 => ⟨by omega, by omega, fun μ3 e3 => ⟨by omega, by omega, fun μ4 e4 => ⟨by omega, by omega, fun μ5 e5 => ⟨by omega, by omega, fun μ6 e6 => ⟨by omega, fun μ7 e7 => ?_⟩⟩⟩⟩⟩⟩⟩
      have f2 : fHe μ μ2 := by rw [e2]; exact hf.mu (by omega)
      have f3 : fHe μ μ3 := by rw [e3]; exact f2.mu (by omega)
      have f4 : fHe μ μ4 := by rw [e4]; exact f3.mu (by omega)
      have f5 : fHe μ μ5 := by rw [e5]; exact f4.mu (by omega)
      have f6 : fHe μ μ6 := by rw [e6]; exact f5.mu (by omega)
      have f7 : fHe μ μ7 := by rw [e7]; exact f6.mu (by omega)
      have b149 : ab_rg 4 (μ 149 (500 + i)) := hg 149 _ (by decide)
      have k6 : ∀ j, μ7 166 j = if j = i then μ 145 (500 + i) else μ1 166 j := fun j => by
        rw [e7, mu_ne (by decide), e6, mu_ne (by decide), e5, mu_ne (by decide), e4, mu_ne (by decide), e3, mu_ne (by decide), e2, ab_mud, hf 145 _ (by omega)]; simp
      have k7 : ∀ j, μ7 167 j = if j = i then μ 147 (500 + i) else μ1 167 j := fun j => by
        rw [e7, mu_ne (by decide), e6, mu_ne (by decide), e5, mu_ne (by decide), e4, mu_ne (by decide), e3, ab_mud, f2 147 _ (by omega), e2, mu_ne (by decide)]; simp
      have k9 : ∀ j, μ7 169 j = if j = i then μ 149 (500 + i) else μ1 169 j := fun j => by
        rw [e7, mu_ne (by decide), e6, mu_ne (by decide), e5, ab_mud, f4 149 _ (by omega), ab_rgb b149, e4, mu_ne (by decide), e3, mu_ne (by decide), e2, mu_ne (by decide)]; simp
      have k1 : ∀ j, μ7 171 j = if j = i then -1 else μ1 171 j := fun j => by
        rw [e7, ab_mud, e6, mu_ne (by decide), e5, mu_ne (by decide), e4, mu_ne (by decide), e3, mu_ne (by decide), e2, mu_ne (by decide)]; simp
      have k3 : ∀ j, μ7 163 j = μ1 163 j := fun j => by
        rw [e7, mu_ne (by decide), e6, mu_ne (by decide), e5, mu_ne (by decide), e4, mu_ne (by decide), e3, mu_ne (by decide), e2, mu_ne (by decide)]
      have k4 : ∀ j, μ7 164 j = μ1 164 j := fun j => by
        rw [e7, mu_ne (by decide), e6, mu_ne (by decide), e5, mu_ne (by decide), e4, mu_ne (by decide), e3, mu_ne (by decide), e2, mu_ne (by decide)]
      refine s83 _ _ μ7 0 h0 h1 h2 rfl rfl (by omega) (by omega) rfl q f7 (fun j a b => ?_) ?_
      · rw [k6, k7, k9, k1, k3, k4, if_neg (by omega), if_neg (by omega), if_neg (by omega), if_neg (by omega)]; exact hs j a b
      · rw [k6, k7, k9, k1, if_pos rfl, if_pos rfl, if_pos rfl, if_pos rfl]; exact ⟨rfl, rfl, rfl, by omega⟩
  exact bk_mM_findHeld_0 rfl (s2 _ _ μ 0 rfl rfl rfl (by omega) (by omega) rfl (fun _ _ _ => rfl) (fun j a b => by omega))
end M11

