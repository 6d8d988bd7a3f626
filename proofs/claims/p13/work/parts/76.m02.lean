/-! THE REFERENCE, part 21: findColours -/
section M21
variable {X : jm_X} {d : Nat} {P : Int → ab_m → Prop}
def fCo (μ μ' : ab_m) : Prop := ∀ c i, (c < 174 ∨ 177 < c) → ¬ (c = 109 ∧ i = 105) → μ' c i = μ c i
theorem fCo.mu {μ μ' : ab_m} {a j v : Int} (h : fCo μ μ') (ha : (174 ≤ a ∧ a ≤ 177) ∨ (a = 109 ∧ j = 105)) : fCo μ (ab_mu μ' a j v) := by
  intro c i g1 g2
  rw [ab_mud, if_neg (by omega)]
  exact h c i g1 g2
/-- the registers of instruction k have the property -/
def mRs (μ : ab_m) (k : Int) (Q : Int → Prop) : Prop := (mUA μ k → Q (μ 147 k)) ∧ (mUB μ k → Q (μ 148 k)) ∧ (mDf μ k → Q (μ 146 k))
theorem mRs.mono {μ : ab_m} {k : Int} {Q Q' : Int → Prop} (h : mRs μ k Q) (hq : ∀ q, Q q → Q' q) : mRs μ k Q' := ⟨fun w => hq _ (h.1 w), fun w => hq _ (h.2.1 w), fun w => hq _ (h.2.2 w)⟩
theorem c_mM_findColours {μ : ab_m} {n R : Int} (hW : mWF μ 500 n R) (hR : μ 109 71 = R) (hn : μ 109 70 = n) (hP : ∀ μ', fCo μ μ' → (∀ i, 0 ≤ i → i < n → mRs μ (500 + i) fun r => 0 ≤ μ' 175 r ∧ μ' 175 r < 300) → P 0 μ') : jj_mM_findColours X (d + 3) 0 (ab_la [109]) [] μ P := by
  have n1 : 1 ≤ n ∧ n ≤ 400 ∧ 0 ≤ R ∧ R ≤ 300 := ⟨hW.1, hW.2.1, hW.2.2.1, hW.2.2.2.1⟩
  have rr : ∀ μ1, fCo μ μ1 → μ1 109 71 = R := fun μ1 h => by rw [h 109 71 (by omega) (by omega)]; exact hR
  have nn : ∀ μ1, fCo μ μ1 → μ1 109 70 = n := fun μ1 h => by rw [h 109 70 (by omega) (by omega)]; exact hn
  -- all registers that are there
  have s315 : ∀ (m : Nat) (l : ab_l) (μ1 : ab_m) (r : Int), l 0 = 109 → l 1 = r → 0 ≤ r → r ≤ R → (R - r).toNat = m → fCo μ μ1 → (∀ i, 0 ≤ i → i < n → mRs μ (500 + i) fun q => 0 ≤ q ∧ q < R ∧ μ1 177 q ≠ 0) → (∀ q, 0 ≤ q → q < r → μ1 175 q ≤ q ∧ (μ1 177 q ≠ 0 → 0 ≤ μ1 175 q)) → (∀ q, r ≤ q → q < 300 → μ1 175 q = -1) → jj_mM_findColours X (d + 3) 315 l [] μ1 P := by
    intro m
    induction m using Nat.strongRecOn with
    | ind m ih =>
      intro l μ1 r h0 h1 hr hrR hm hf ht hc hz
      have s339 : ∀ (m2 : Nat) (l' : ab_l) (c more : Int), l' 0 = 109 → l' 1 = r → l' 2 = c → l' 3 = more → 0 ≤ c → c ≤ r → (2 * (r - c) + 1).toNat + more.toNat = m2 → (more = 0 ∨ more = 1) → r < R → jj_mM_findColours X (d + 3) 339 l' [] μ1 P := by
        intro m2
        induction m2 using Nat.strongRecOn with
        | ind m2 ih2 =>
          intro l' c more g0 g1 g2 g3 hc0 hcr hm2 hmo hlt
          -- the registers before it
          have s348 : ∀ (m3 : Nat) (l2 : ab_l) (s mo : Int), l2 0 = 109 → l2 1 = r → l2 2 = c → l2 3 = mo → l2 4 = s → 0 ≤ s → s ≤ r → (r - s).toNat = m3 → (mo = 0 ∨ mo = 1 ∧ c < r) → more = 1 → jj_mM_findColours X (d + 3) 348 l2 [] μ1 P := by
            intro m3
            induction m3 using Nat.strongRecOn with
            | ind m3 ih3 =>
              intro l2 s mo k0 k1 k2 k3 k4 hs hsr hm3 hmo2 hm1
              refine bk_mM_findColours_348 k0 ?_
              simp only [k1, k2, k3, k4]
              simp (disch := omega) only [ab_wi]
              refine ⟨fun _ => ⟨fun q => ?_, fun q => ?_⟩, fun q => ⟨fun _ => ih3 _ (by omega) _ (s + 1) 1 k0 k1 k2 rfl rfl (by omega) (by omega) rfl (by omega) hm1, fun q2 => ⟨by omega, fun _ => ih3 _ (by omega) _ (s + 1) 0 k0 k1 k2 rfl rfl (by omega) (by omega) rfl (by omega) hm1, fun q3 => ⟨by omega, fun _ => ih3 _ (by omega) _ (s + 1) 0 k0 k1 k2 rfl rfl (by omega) (by omega) rfl (by omega) hm1, fun _ => ?_⟩⟩⟩⟩
              · exact ih2 _ (by omega) _ c 0 k0 k1 (by show c + 0 = c; omega) (by show l2 3 = 0; rw [k3]; exact q) hc0 hcr rfl (Or.inl rfl) hlt
              · exact ih2 _ (by omega) _ (c + 1) 1 k0 k1 rfl (by show l2 3 = 1; rw [k3]; omega) (by omega) (by omega) rfl (Or.inr rfl) hlt
              · have := (hc s hs (by omega)).1
                exact ih3 _ (by omega) _ (s + 1) 1 k0 k1 k2 rfl rfl (by omega) (by omega) rfl (by omega) hm1
          refine bk_mM_findColours_339 g0 ?_
          simp only [g1, g2, g3]
          simp (disch := omega) only [ab_wi]
          have fin : ∀ (μ2 μ3 : ab_m) (v : Int), μ2 = ab_mu μ1 175 r c → μ3 = ab_mu μ2 109 105 v → jj_mM_findColours X (d + 3) 315 (ab_up l' 1 (r + 1)) [] μ3 P := by
            intro μ2 μ3 v e2 e3
            have u7 : ∀ q, μ3 177 q = μ1 177 q := fun q => by rw [e3, mu_ne (by decide), e2, mu_ne (by decide)]
            refine ih _ (by omega) _ μ3 (r + 1) g0 rfl (by omega) (by omega) rfl (by rw [e3, e2]; exact (hf.mu (by omega)).mu (by omega)) (fun i a b => (ht i a b).mono fun q hq => by rw [u7]; exact hq) (fun q a b => ?_) (fun q a b => ?_)
            · rw [u7, e3, mu_ne (by decide), e2, ab_mud]
              split
              · omega
              · exact hc q a (by omega)
            · rw [e3, mu_ne (by decide), e2, ab_mud, if_neg (by omega)]
              exact hz q (by omega) b
          exact ⟨fun _ => ⟨by omega, fun μ2 e2 => ⟨fun _ μ3 e3 => fin μ2 μ3 _ e2 e3, fun _ μ3 e3 => fin μ2 μ3 _ e2 e3⟩⟩, fun q => s348 _ _ 0 0 g0 g1 g2 rfl rfl (by omega) (by omega) rfl (Or.inl rfl) (by omega)⟩
      refine bk_mM_findColours_315 h0 ?_
      simp only [h1, rr μ1 hf]
      simp (disch := omega) only [ab_wi]
      refine ⟨fun q => hP μ1 hf (fun i a b => ?_), fun q => ⟨by omega, fun w => s339 _ _ 0 1 h0 h1 rfl rfl (by omega) (by omega) rfl (Or.inr rfl) q, fun w => ?_⟩⟩
      · refine (ht i a b).mono fun q ⟨a, b, c⟩ => ?_
        have := hc q a (by omega)
        exact ⟨this.2 c, by omega⟩
      · refine ih _ (by omega) _ μ1 (r + 1) h0 rfl (by omega) (by omega) rfl hf ht (fun q' a b => ?_) (fun q' a b => hz q' (by omega) b)
        by_cases e : q' = r
        · subst e
          refine ⟨?_, fun v => absurd w v⟩
          rw [hz q' (by omega) (by omega)]
          omega
        · exact hc q' a (by omega)
  -- what is there, what is apart
  have s63 : ∀ (m : Nat) (l : ab_l) (μ1 : ab_m) (i : Int), l 0 = 109 → l 1 = i → 0 ≤ i → i ≤ n → (n - i).toNat = m → fCo μ μ1 → (∀ j, 0 ≤ j → j < i → mRs μ (500 + j) fun q => 0 ≤ q ∧ q < R ∧ μ1 177 q ≠ 0) → (∀ q, 0 ≤ q → q < 300 → μ1 175 q = -1) → jj_mM_findColours X (d + 3) 63 l [] μ1 P := by
    intro m
    induction m using Nat.strongRecOn with
    | ind m ih =>
      intro l μ1 i h0 h1 hi hin hm hf ht hz
      have code : ∀ μ2, fCo μ μ2 → ∀ c, 145 ≤ c → c ≤ 150 → μ2 c (500 + i) = μ c (500 + i) := fun μ2 h c a b => h c _ (by omega) (by omega)
      have ua : ∀ μ2, fCo μ μ2 → (mUA μ2 (500 + i) ↔ mUA μ (500 + i)) := fun μ2 h => by unfold mUA; rw [code μ2 h 145 (by decide) (by decide), code μ2 h 149 (by decide) (by decide)]
      have ub : ∀ μ2, fCo μ μ2 → (mUB μ2 (500 + i) ↔ mUB μ (500 + i)) := fun μ2 h => by unfold mUB; rw [code μ2 h 145 (by decide) (by decide), code μ2 h 150 (by decide) (by decide)]
      have s142 : ∀ (m2 : Nat) (l' : ab_l) (μ2 : ab_m) (r : Int), l' 0 = 109 → l' 1 = i → l' 2 = 500 + i → l' 3 = r → 0 ≤ r → r ≤ R → (R - r).toNat = m2 → i < n → mDf μ (500 + i) → fCo μ μ2 → (∀ j, 0 ≤ j → j < i + 1 → mRs μ (500 + j) fun q => 0 ≤ q ∧ q < R ∧ μ2 177 q ≠ 0) → (∀ q, 0 ≤ q → q < 300 → μ2 175 q = -1) → jj_mM_findColours X (d + 3) 142 l' [] μ2 P := by
        intro m2
        induction m2 using Nat.strongRecOn with
        | ind m2 ih2 =>
          intro l' μ2 r g0 g1 g2 g3 hr hrR hm2 hlt hdf f2 t2 z2
          have dd : 0 ≤ μ 146 (500 + i) ∧ μ 146 (500 + i) < R := (hW.at hi hlt).2.2.2.2.1 hdf
          have e6 : ∀ μ3, fCo μ μ3 → μ3 146 (500 + i) = μ 146 (500 + i) := fun μ3 h => code μ3 h 146 (by decide) (by decide)
          have s248 : ∀ (l2 : ab_l) (v : Int), l2 0 = 109 → l2 1 = i → l2 2 = 500 + i → l2 3 = r → r < R → jj_mM_findColours X (d + 3) 248 l2 [(0, v), (0, 300 * μ 146 (500 + i) + r), (2, 176)] μ2 P := by
            intro l2 v k0 k1 k2 k3 hrl
            refine bk_mM_findColours_248 k0 ?_
            simp only [k2, k3]
            refine ⟨by omega, fun μ3 q3 => ?_⟩
            have f3 : fCo μ μ3 := by rw [q3]; exact f2.mu (by omega)
            rw [e6 μ3 f3]
            simp (disch := omega) only [ab_wi]
            have on : ∀ μ4 w, μ4 = ab_mu μ3 176 (300 * r + μ 146 (500 + i)) w → jj_mM_findColours X (d + 3) 142 (ab_up l2 3 (r + 1)) [] μ4 P := by
              intro μ4 w q4
              refine ih2 _ (by omega) _ μ4 (r + 1) k0 k1 k2 rfl (by omega) (by omega) rfl hlt hdf (by rw [q4]; exact f3.mu (by omega)) (fun j a b => (t2 j a b).mono fun q hq => by rw [q4, mu_ne (by decide), q3, mu_ne (by decide)]; exact hq) (fun q a b => by rw [q4, mu_ne (by decide), q3, mu_ne (by decide)]; exact z2 q a b)
            exact ⟨by omega, by omega, by omega, fun _ => ⟨by omega, fun μ4 q4 => on μ4 _ q4⟩, fun _ => ⟨fun _ => ⟨by omega, fun μ4 q4 => on μ4 _ q4⟩, fun _ => ⟨by omega, fun μ4 q4 => on μ4 _ q4⟩⟩⟩
          have s200 : ∀ (v : Int), r < R → jj_mM_findColours X (d + 3) 200 l' [(0, v)] μ2 P := by
            intro v hrl
            refine bk_mM_findColours_200 g0 ?_
            simp only [g2, g3, e6 μ2 f2]
            simp (disch := omega) only [ab_wi]
            exact ⟨by omega, by omega, by omega, fun _ => s248 _ _ g0 g1 g2 g3 hrl, fun _ => ⟨fun _ => s248 _ _ g0 g1 g2 g3 hrl, fun _ => s248 _ _ g0 g1 g2 g3 hrl⟩⟩
          refine bk_mM_findColours_142 g0 ?_
          simp only [g1, g2, g3, rr μ2 f2]
          simp (disch := omega) only [ab_wi]
          exact ⟨fun _ => ih _ (by omega) _ μ2 (i + 1) g0 rfl (by omega) (by omega) rfl f2 t2 z2, fun q => ⟨by omega, fun _ => s200 0 q, fun _ => ⟨by omega, fun _ => s200 0 q, fun _ => ⟨by omega, fun _ => s200 1 q, fun _ => ⟨by omega, fun _ => s200 0 q, fun _ => s200 1 q⟩⟩⟩⟩⟩
      -- marks
      have mark : ∀ (μ2 μ3 : ab_m) (x : Int) (Q : Int → Prop), μ3 = ab_mu μ2 177 x (1 % 2) → ∀ q, 0 ≤ q ∧ q < R ∧ μ2 177 q ≠ 0 → 0 ≤ q ∧ q < R ∧ μ3 177 q ≠ 0 := by
        intro μ2 μ3 x Q e q ⟨a, b, c⟩
        refine ⟨a, b, ?_⟩
        rw [e, ab_mud]
        split
        · decide
        · exact c
      have s117 : ∀ (l' : ab_l) (μ2 : ab_m), l' 0 = 109 → l' 1 = i → l' 2 = 500 + i → i < n → fCo μ μ2 → (∀ j, 0 ≤ j → j < i → mRs μ (500 + j) fun q => 0 ≤ q ∧ q < R ∧ μ2 177 q ≠ 0) → (mUA μ (500 + i) → 0 ≤ μ 147 (500 + i) ∧ μ 147 (500 + i) < R ∧ μ2 177 (μ 147 (500 + i)) ≠ 0) → (mUB μ (500 + i) → 0 ≤ μ 148 (500 + i) ∧ μ 148 (500 + i) < R ∧ μ2 177 (μ 148 (500 + i)) ≠ 0) → (∀ q, 0 ≤ q → q < 300 → μ2 175 q = -1) → jj_mM_findColours X (d + 3) 117 l' [] μ2 P := by
        intro l' μ2 g0 g1 g2 hlt f2 t2 ta tb z2
        refine bk_mM_findColours_117 g0 ?_
        simp only [g1, g2]
        rw [show ab_w (i + 1) = i + 1 from ab_wi (by omega) (by omega)]
        have e5 := code μ2 f2 145 (by decide) (by decide)
        refine c_mM_defines (by omega) (fun q => ⟨fun _ => ?_, fun w => absurd w (by decide)⟩) (fun q1 q2 => ⟨fun w => absurd rfl w, fun _ => ?_⟩)
        · rw [e5] at q
          have dd := (hW.at hi hlt).2.2.2.2.1 q
          rw [code μ2 f2 146 (by decide) (by decide)]
          refine ⟨by omega, by omega, fun μ3 q3 => ?_⟩
          have mk := mark μ2 μ3 _ (fun _ => True) q3
          refine s142 _ _ μ3 0 g0 g1 g2 rfl (by omega) (by omega) rfl hlt q (by rw [q3]; exact f2.mu (by omega)) (fun j a b => ?_) (fun q a b => by rw [q3, mu_ne (by decide)]; exact z2 q a b)
          by_cases e : j = i
          · subst e
            refine ⟨fun w => mk _ (ta w), fun w => mk _ (tb w), fun _ => ⟨dd.1, dd.2, ?_⟩⟩
            rw [q3, ab_mud, if_pos ⟨rfl, rfl⟩]; decide
          · exact (t2 j a (by omega)).mono mk
        · rw [e5] at q1 q2
          refine ih _ (by omega) _ μ2 (i + 1) g0 rfl (by omega) (by omega) rfl f2 (fun j a b => ?_) z2
          by_cases e : j = i
          · subst e
            exact ⟨ta, tb, fun w => by unfold mDf at w; omega⟩
          · exact t2 j a (by omega)
      have s97 : ∀ (l' : ab_l) (μ2 : ab_m), l' 0 = 109 → l' 1 = i → l' 2 = 500 + i → i < n → fCo μ μ2 → (∀ j, 0 ≤ j → j < i → mRs μ (500 + j) fun q => 0 ≤ q ∧ q < R ∧ μ2 177 q ≠ 0) → (mUA μ (500 + i) → 0 ≤ μ 147 (500 + i) ∧ μ 147 (500 + i) < R ∧ μ2 177 (μ 147 (500 + i)) ≠ 0) → (∀ q, 0 ≤ q → q < 300 → μ2 175 q = -1) → jj_mM_findColours X (d + 3) 97 l' [] μ2 P := by
        intro l' μ2 g0 g1 g2 hlt f2 t2 ta z2
        refine bk_mM_findColours_97 g0 ?_
        simp only [g2]
        refine c_mM_usesB (by omega) (fun q => ⟨fun w => absurd w (by decide), fun _ => ?_⟩) (fun q => ⟨fun _ => s117 l' μ2 g0 g1 g2 hlt f2 t2 ta (fun w => absurd ((ub μ2 f2).mpr w) q) z2, fun w => absurd rfl w⟩)
        have q' := (ub μ2 f2).mp q
        have bb := (hW.at hi hlt).2.2.2.1 q'
        rw [code μ2 f2 148 (by decide) (by decide)]
        refine ⟨by omega, by omega, fun μ3 q3 => ?_⟩
        have mk := mark μ2 μ3 _ (fun _ => True) q3
        refine s117 l' μ3 g0 g1 g2 hlt (by rw [q3]; exact f2.mu (by omega)) (fun j a b => (t2 j a b).mono mk) (fun w => mk _ (ta w)) (fun _ => ⟨bb.1, bb.2, ?_⟩) (fun q a b => by rw [q3, mu_ne (by decide)]; exact z2 q a b)
        rw [q3, ab_mud, if_pos ⟨rfl, rfl⟩]; decide
      refine bk_mM_findColours_63 h0 ?_
      simp only [h1, nn μ1 hf]
      rw [show ab_w (500 + i) = 500 + i from ab_wi (by omega) (by omega)]
      refine ⟨fun q μ2 e => ?_, fun h => c_mM_usesA (by omega) (fun q => ⟨fun w => absurd w (by decide), fun _ => ?_⟩) (fun q => ⟨fun _ => s97 _ μ1 h0 h1 rfl h hf ht (fun w => absurd ((ua μ1 hf).mpr w) q) hz, fun w => absurd rfl w⟩)⟩
      · exact s315 _ _ μ2 0 h0 rfl (by omega) (by omega) rfl (by rw [e]; exact hf.mu (by omega)) (fun j a b => (ht j a (by omega)).mono fun q hq => by rw [e, mu_ne (by decide)]; exact hq) (fun q a b => by omega) (fun q a b => by rw [e, mu_ne (by decide)]; exact hz q a b)
      · have q' := (ua μ1 hf).mp q
        have aa := (hW.at hi h).2.2.1 q'
        rw [code μ1 hf 147 (by decide) (by decide)]
        refine ⟨by omega, by omega, fun μ3 q3 => ?_⟩
        have mk := mark μ1 μ3 _ (fun _ => True) q3
        refine s97 _ μ3 h0 h1 rfl h (by rw [q3]; exact hf.mu (by omega)) (fun j a b => (ht j a b).mono mk) (fun _ => ⟨aa.1, aa.2, ?_⟩) (fun q a b => by rw [q3, mu_ne (by decide)]; exact hz q a b)
        rw [q3, ab_mud, if_pos ⟨rfl, rfl⟩]; decide
  have s34 : ∀ (m : Nat) (l : ab_l) (μ1 : ab_m) (r : Int), l 0 = 109 → l 1 = r → 0 ≤ r → r ≤ 300 → (300 - r).toNat = m → fCo μ μ1 → (∀ q, 0 ≤ q → q < r → μ1 175 q = -1) → jj_mM_findColours X (d + 3) 34 l [] μ1 P := by
    intro m
    induction m using Nat.strongRecOn with
    | ind m ih =>
      intro l μ1 r h0 h1 hr hrR hm hf hz
      refine bk_mM_findColours_34 h0 ?_
      simp only [h1]
      simp (disch := omega) only [ab_wi]
      refine ⟨fun q => s63 _ _ μ1 0 h0 rfl (by omega) (by omega) rfl hf (fun j a b => by omega) (fun q a b => hz q a (by omega)), fun q => ⟨by omega, fun μ2 e2 => ⟨by omega, fun μ3 e3 => ?_⟩⟩⟩
      refine ih _ (by omega) _ μ3 (r + 1) h0 rfl (by omega) (by omega) rfl (by rw [e3, e2]; exact (hf.mu (by omega)).mu (by omega)) (fun q a b => ?_)
      rw [e3, ab_mud]
      split
      · rfl
      · rw [e2, mu_ne (by decide)]; exact hz q a (by omega)
  have s13 : ∀ (m : Nat) (l : ab_l) (μ1 : ab_m) (r : Int), l 0 = 109 → l 1 = r → 0 ≤ r → r ≤ 90000 → (90000 - r).toNat = m → fCo μ μ1 → jj_mM_findColours X (d + 3) 13 l [] μ1 P := by
    intro m
    induction m using Nat.strongRecOn with
    | ind m ih =>
      intro l μ1 r h0 h1 hr hrR hm hf
      refine bk_mM_findColours_13 h0 ?_
      simp only [h1]
      simp (disch := omega) only [ab_wi]
      exact ⟨fun q => s34 _ _ μ1 0 h0 rfl (by omega) (by omega) rfl hf (fun q a b => by omega), fun q => ⟨by omega, fun μ2 e2 => ih _ (by omega) _ μ2 (r + 1) h0 rfl (by omega) (by omega) rfl (by rw [e2]; exact hf.mu (by omega))⟩⟩
  refine bk_mM_findColours_0 rfl ?_
  rw [hn]
  exact c_mM_findLive (Or.inr rfl) (by omega) (by rw [hR]; omega) hW.lp fun μ1 ho => s13 _ _ μ1 0 rfl rfl (by omega) (by omega) rfl (fun c i a _ => ho c i (by omega))
end M21

/-! THE REFERENCE, part 22: improve -/
section M22
variable {X : jm_X} {d : Nat} {P : Int → ab_m → Prop}
/-- what improve writes -/
def fIm (μ μ' : ab_m) : Prop := ∀ c i, (c < 161 ∨ 177 < c) → ¬ (c = 109 ∧ (i = 70 ∨ i = 73 ∨ i = 91 ∨ i = 92 ∨ i = 93 ∨ i = 104 ∨ i = 105)) → ¬ (145 ≤ c ∧ c ≤ 150 ∧ 500 ≤ i) → μ' c i = μ c i
theorem fIm.trans {μ μ1 μ2 : ab_m} (h : fIm μ μ1) (h2 : fIm μ1 μ2) : fIm μ μ2 := fun c i a b e => (h2 c i a b e).trans (h c i a b e)
theorem fIm.rf {μ : ab_m} : fIm μ μ := fun _ _ _ _ _ => rfl
theorem fIm.mu {μ μ' : ab_m} {a j v : Int} (h : fIm μ μ') (ha : (161 ≤ a ∧ a ≤ 177) ∨ (a = 109 ∧ (j = 70 ∨ j = 73 ∨ j = 91 ∨ j = 92 ∨ j = 93 ∨ j = 104 ∨ j = 105)) ∨ (145 ≤ a ∧ a ≤ 150 ∧ 500 ≤ j)) : fIm μ (ab_mu μ' a j v) := by
  intro c i g1 g2 g3
  rw [ab_mud, if_neg (by omega)]
  exact h c i g1 g2 g3
theorem fPc.im {μ μ' : ab_m} (h : fPc μ μ') : fIm μ μ' := fun c i a b e => h c i (by omega) (by omega) (by omega)
theorem fCp.im {μ μ' : ab_m} (h : fCp μ μ') : fIm μ μ' := fun c i a b e => h c i (by omega) (by omega) (by omega)
theorem fDd.im {μ μ' : ab_m} (h : fDd μ μ') : fIm μ μ' := fun c i a b e => h c i (by omega) (by omega) (by omega)
theorem fPj.im {μ μ' : ab_m} (h : fPj μ μ') : fIm μ μ' := fun c i a b e => h c i (by omega) (by omega) (by omega) (by omega) (by omega)
theorem fCo.im {μ μ' : ab_m} (h : fCo μ μ') : fIm μ μ' := fun c i a b e => h c i (by omega) (by omega)
theorem mSt.sk {μ μ' : ab_m} {n R : Int} (h : mSt μ n) (hW : mWF μ 500 n R) (hs : mSk μ μ' n) : mSt μ' n := by
  intro i a b e
  have s := hs i a b
  rw [s.1] at e
  have dd : 0 ≤ μ 146 (500 + i) ∧ μ 146 (500 + i) < n := (hW.2.2.2.2 i a b).2.2.2.2.2.1 e
  rw [s.2.1, (hs _ dd.1 dd.2).1]
  rcases h i a b e with v | v
  · exact Or.inl v
  · exact Or.inr (v.same fun j x y => ⟨(hs j x y).1, (hs j x y).2.1⟩)
theorem mSd.psi {μ μ1 : ab_m} {n : Nat} (h : mSameN μ μ1 n) : mPsi μ1 n = mPsi μ n := mPsi_sameN h
/-- what one round does -/
def mRd (μ μ1 : ab_m) (n : Nat) (R : Int) : Prop := ∃ k : Nat, μ1 109 70 = k ∧ mWF μ1 500 k R ∧ (mPhi μ1 k < mPhi μ n ∨ k = n ∧ mPhi μ1 n = mPhi μ n ∧ mSt μ1 n ∧ (mSt μ n → μ1 109 93 = 0 ∨ mPsi μ1 n < mPsi μ n))
theorem c_mM_round {μ : ab_m} {n : Nat} {R : Int} (hW : mWF μ 500 n R) (hR : μ 109 71 = R) (hn : μ 109 70 = n) (hw : μ 109 18 = 0 ∨ μ 109 18 = 1) (h93 : μ 109 93 = 0) (hP : ∀ μ', fIm μ μ' → mRd μ μ' n R → P 0 μ') : jj_mM_putConstants X (d + 3) 0 (ab_la [109, n]) [] μ (fun _ μ8 => jj_mM_putCopies X (d + 3) 0 (ab_la [109, μ8 109 70]) [] μ8 (fun _ μ11 => jj_mM_putOutDead X (d + 3) 0 (ab_la [109, μ11 109 70]) [] μ11 (fun _ μ14 => jj_mM_putJumps X (d + 3) 0 (ab_la [109]) [] μ14 P))) := by
  refine c_mM_putConstants hW hR fun μ1 p1 => ?_
  obtain ⟨w1, f1, c1⟩ := p1
  have r1 : μ1 109 71 = R := by rw [f1.im 109 71 (by omega) (by omega) (by omega)]; exact hR
  have n1 : μ1 109 70 = n := by rw [f1 109 70 (by omega) (by omega) (by omega)]; exact hn
  rw [n1]
  refine ok_rg fun hg => ?_
  refine c_mM_putCopies w1 r1 n1 hg fun μ2 f2 w2 c2 => ?_
  have f2' := f1.im.trans f2.im
  have r2 : μ2 109 71 = R := by rw [f2' 109 71 (by omega) (by omega) (by omega)]; exact hR
  have k18 : μ2 109 18 = 0 ∨ μ2 109 18 = 1 := by rw [f2' 109 18 (by omega) (by omega) (by omega)]; exact hw
  -- after putCopies: less, or the same skeleton
  have g2 : ∃ k : Nat, μ2 109 70 = k ∧ (mPhi μ2 k < mPhi μ n ∨ k = n ∧ mSk μ μ2 n ∧ (μ2 109 93 = 0 ∨ mPsi μ2 n < mPsi μ n)) := by
    rcases c2 with ⟨k, e, v⟩ | ⟨e, s, p, v⟩
    · refine ⟨k, e, Or.inl ?_⟩
      rcases c1 with u | ⟨u, _⟩
      · omega
      · rw [mPhi_same u] at v; exact v
    · refine ⟨n, e, ?_⟩
      rcases c1 with u | ⟨u, u2⟩
      · refine Or.inl ?_
        rw [s.phi]; exact u
      · have sn : mSameN μ μ1 n := fun c i a b _ _ => u c _ a b
        refine Or.inr ⟨rfl, sn.sk.trans s, ?_⟩
        rw [mPsi_sameN sn] at v
        rcases v with v | v
        · exact Or.inl (by rw [v, u2]; exact h93)
        · exact Or.inr v
  obtain ⟨k2, e2, g2⟩ := g2
  rw [e2] at w2 ⊢
  refine c_mM_putOutDead w2 r2 e2 k18 fun μ3 f3 w3 c3 => ?_
  have f3' := f2'.trans f3.im
  have g3 : ∃ k : Nat, μ3 109 70 = k ∧ (mPhi μ3 k < mPhi μ n ∨ k = n ∧ mSk μ μ3 n ∧ (μ3 109 93 = 0 ∨ mPsi μ3 n < mPsi μ n)) := by
    rcases c3 with ⟨k, e, v⟩ | ⟨e, s, v⟩
    · refine ⟨k, e, Or.inl ?_⟩
      rcases g2 with u | ⟨u, u2, _⟩
      · omega
      · subst u; rw [u2.phi] at v; exact v
    · refine ⟨k2, e, ?_⟩
      rcases g2 with u | ⟨u, u2, u3⟩
      · refine Or.inl ?_
        rw [s.sk.phi]; exact u
      · subst u
        refine Or.inr ⟨rfl, u2.trans s.sk, ?_⟩
        rw [mPsi_sameN s, v]
        exact u3
  obtain ⟨k3, e3, g3⟩ := g3
  rw [e3] at w3
  refine c_mM_putJumps w3 e3 fun μ4 f4 q4 => ?_
  have f4' := f3'.trans f4.im
  refine hP μ4 f4' ?_
  obtain ⟨k4, e4, w4, c4⟩ := q4
  refine ⟨k4, e4, w4, ?_⟩
  rcases c4 with v | ⟨v1, v2, v3, v4⟩
  · refine Or.inl ?_
    rcases g3 with u | ⟨u, u2, _⟩
    · omega
    · subst u; rw [u2.phi] at v; exact v
  · subst v1
    rcases g3 with u | ⟨u, u2, u3⟩
    · refine Or.inl ?_
      rw [v2.phi]; exact u
    · subst u
      refine Or.inr ⟨rfl, by rw [v2.phi, u2.phi], v3, fun hs => ?_⟩
      have := v4 (hs.sk hW u2)
      rw [mPsi_sameN this.1, this.2]
      exact u3
/-- the rounds, and the colours behind them -/
theorem c_mM_rounds {μ : ab_m} {n : Nat} {R : Int} {l : ab_l} (h0 : l 0 = 109) (hW : mWF μ 500 n R) (hR : μ 109 71 = R) (hn : μ 109 70 = n) (hw : μ 109 18 = 0 ∨ μ 109 18 = 1) (hP : ∀ (n' : Int) μ', fIm μ μ' → μ' 109 70 = n' → μ' 109 73 = 1 → mWF μ' 500 n' R → (∀ i, 0 ≤ i → i < n' → mRs μ' (500 + i) fun r => 0 ≤ μ' 175 r ∧ μ' 175 r < 300) → P n' μ') : jj_mM_improve X (d + 4) 137 l [] μ P := by
  have rr : ∀ μ2, fIm μ μ2 → μ2 109 71 = R := fun μ2 h => by rw [h 109 71 (by omega) (by omega) (by omega)]; exact hR
  have ww : ∀ μ2, fIm μ μ2 → μ2 109 18 = 0 ∨ μ2 109 18 = 1 := fun μ2 h => by rw [h 109 18 (by omega) (by omega) (by omega)]; exact hw
  have fin : ∀ (μ1 : ab_m) (k : Nat), fIm μ μ1 → μ1 109 70 = k → mWF μ1 500 k R → jj_mM_findColours X (d + 3) 0 (ab_la [109]) [] μ1 (fun _ μ1 => ∀ μ4, μ4 = ab_mu μ1 109 73 1 → P (μ4 109 70) μ4) := by
    intro μ1 k f1 n1 w1
    refine c_mM_findColours w1 (rr _ f1) n1 fun μ2 f2 hc μ4 e4 => ?_
    have u : ∀ c j, c ≠ 109 → μ4 c j = μ2 c j := fun c j a => by rw [e4, mu_ne a]
    have sm : mSame μ1 μ4 := fun c j a b => by rw [u c j (by omega)]; exact f2 c j (by omega) (by omega)
    have e70 : μ4 109 70 = k := by rw [e4, ab_mud, if_neg (by omega), f2 109 70 (by omega) (by omega)]; exact n1
    rw [e70]
    refine hP k μ4 ((f1.trans f2.im).trans (by rw [e4]; exact fIm.rf.mu (by omega))) e70 (by rw [e4, ab_mud, if_pos ⟨rfl, rfl⟩]) (w1.same sm) fun i a b => ?_
    have := hc i a b
    unfold mRs mUA mUB mDf at this ⊢
    simp only [sm 145 _ (by decide) (by decide), sm 146 _ (by decide) (by decide), sm 147 _ (by decide) (by decide), sm 148 _ (by decide) (by decide), sm 149 _ (by decide) (by decide), sm 150 _ (by decide) (by decide), u 175 _ (by decide)]
    exact this
  have key : ∀ (p : Nat) (s : Nat) (q : Nat) (μ1 : ab_m) (k : Nat), fIm μ μ1 → μ1 109 70 = k → mWF μ1 500 k R → mPhi μ1 k = p → (s = 0 → mSt μ1 k) → s ≤ 1 → mPsi μ1 k = q → jj_mM_improve X (d + 4) 137 l [] μ1 P := by
    intro p
    induction p using Nat.strongRecOn with
    | ind p ihp =>
      intro s
      induction s using Nat.strongRecOn with
      | ind s ihs =>
        intro q
        induction q using Nat.strongRecOn with
        | ind q ihq =>
          intro μ1 k f1 n1 w1 hp hs hs1 hq
          refine bk_mM_improve_137 h0 ?_
          refine ⟨fun _ => ?_, fun _ μ6 e6 μ7 e7 => ?_⟩
          · exact fin μ1 k f1 n1 w1
          · have u : ∀ c j, c ≠ 109 → μ7 c j = μ1 c j := fun c j a => by rw [e7, mu_ne a, e6, mu_ne a]
            have sm : mSame μ1 μ7 := fun c j a b => u c j (by omega)
            have sn : mSameN μ1 μ7 k := fun c j a b _ _ => sm c _ a b
            have f7 : fIm μ1 μ7 := by rw [e7, e6]; exact (fIm.rf.mu (by omega)).mu (by omega)
            have e70 : μ7 109 70 = k := by rw [e7, ab_mud, if_neg (by omega), e6, ab_mud, if_neg (by omega)]; exact n1
            have e93 : μ7 109 93 = 0 := by rw [e7, ab_mud, if_neg (by omega), e6, ab_mud, if_pos ⟨rfl, rfl⟩]
            rw [e70]
            refine c_mM_round (w1.same sm) (rr _ (f1.trans f7)) e70 (ww _ (f1.trans f7)) e93 fun μ8 f8 g8 => ?_
            obtain ⟨k8, e8, w8, c8⟩ := g8
            have f8' := (f1.trans f7).trans f8
            rw [mPhi_same sm, hp] at c8
            rcases c8 with v | ⟨v1, v2, v3, v4⟩
            · exact ihp _ v 1 _ μ8 k8 f8' e8 w8 rfl (fun h => absurd h (by decide)) (by omega) rfl
            · subst v1
              have e2 : mPhi μ8 k8 = p := v2
              by_cases hs0 : s = 0
              · rcases v4 ((hs hs0).same w1 sn) with v | v
                · refine bk_mM_improve_137 h0 ⟨fun _ => fin μ8 k8 f8' e8 w8, fun h => absurd v h⟩
                · rw [mPsi_sameN sn, hq] at v
                  exact ihq _ v μ8 k8 f8' e8 w8 e2 (fun _ => v3) hs1 rfl
              · exact ihs 0 (by omega) _ μ8 k8 f8' e8 w8 e2 (fun _ => v3) (by omega) rfl
  exact key _ 1 _ μ n fIm.rf hn hW rfl (fun h => absurd h (by decide)) (by omega) rfl
/-- the code that was laid down is copied -/
theorem mWF.copy {μ μ1 : ab_m} {n R : Int} (hg : ab_Rg μ) (hW : mWF μ 0 n R) (h : ∀ j, 0 ≤ j → j < n → (∀ c, 145 ≤ c → c ≤ 148 → μ1 c (500 + j) = μ c j) ∧ μ1 149 (500 + j) = μ 149 j % 2 ∧ μ1 150 (500 + j) = μ 150 j % 2) : mWF μ1 500 n R := by
  have b1 : ∀ j, μ 149 j % 2 = μ 149 j := fun j => ab_rgb (hg 149 j (by decide))
  have b2 : ∀ j, μ 150 j % 2 = μ 150 j := fun j => ab_rgb (hg 150 j (by decide))
  refine ⟨hW.1, hW.2.1, hW.2.2.1, hW.2.2.2.1, fun i a b => ?_⟩
  have q := hW.2.2.2.2 i a b
  obtain ⟨h1, h2, h3⟩ := h i a b
  unfold mUA mUB at q ⊢
  rw [h1 145 (by decide) (by decide), h1 146 (by decide) (by decide), h1 147 (by decide) (by decide), h1 148 (by decide) (by decide), h2, h3, b1, b2]
  rw [Int.zero_add] at q
  exact q
/-- improve: nothing laid down, or the rounds -/
theorem c_mM_improve {μ : ab_m} {n : Nat} {R : Int} (hW : μ 109 72 ≠ 0 → mWF μ 0 n R) (hR : μ 109 71 = R) (hn : μ 109 69 = n) (hw : μ 109 18 = 0 ∨ μ 109 18 = 1) (hE : μ 109 72 = 0 → ∀ μ', μ' = ab_mu μ 109 0 1 → P 0 μ') (hP : μ 109 72 ≠ 0 → ∀ (n' : Int) μ', fIm (ab_mu μ 109 0 0) μ' → μ' 109 70 = n' → μ' 109 73 = 1 → mWF μ' 500 n' R → (∀ i, 0 ≤ i → i < n' → mRs μ' (500 + i) fun r => 0 ≤ μ' 175 r ∧ μ' 175 r < 300) → P n' μ') : jj_mM_improve X (d + 4) 0 (ab_la [109]) [] μ P := by
  refine bk_mM_improve_0 rfl ?_
  refine ⟨fun q μ1 e1 => ⟨fun w => ?_, fun w => hE q μ1 e1⟩, fun q μ7 e7 => ⟨fun w μ8 e8 => ?_, fun w => ?_⟩⟩
  · rw [e1, ab_mud, if_pos ⟨rfl, rfl⟩] at w
    exact absurd w (by decide)
  · have hW := hW q
    have n1 : 1 ≤ (n : Int) ∧ (n : Int) ≤ 400 := ⟨hW.1, hW.2.1⟩
    have f8 : fIm (ab_mu μ 109 0 0) μ8 := by rw [e8, e7]; exact fIm.rf.mu (by omega)
    refine ok_rg fun hg => ?_
    have u8 : ∀ c j, c ≠ 109 → μ8 c j = μ c j := fun c j a => by rw [e8, mu_ne a, e7, mu_ne a]
    have w8 : mWF μ8 0 n R := hW.same fun c j a b => u8 c j (by omega)
    have g69 : μ8 109 69 = n := by rw [e8, ab_mud, if_neg (by omega), e7, ab_mud, if_neg (by omega)]; exact hn
    have g70 : μ8 109 70 = n := by rw [e8, ab_mud, if_pos ⟨rfl, rfl⟩, e7, ab_mud, if_neg (by omega)]; exact hn
    have g71 : μ8 109 71 = R := by rw [e8, ab_mud, if_neg (by omega), e7, ab_mud, if_neg (by omega)]; exact hR
    have g18 : μ8 109 18 = 0 ∨ μ8 109 18 = 1 := by rw [e8, ab_mud, if_neg (by omega), e7, ab_mud, if_neg (by omega)]; exact hw
    have s35 : ∀ (m : Nat) (l : ab_l) (μ1 : ab_m) (i : Int), l 0 = 109 → l 1 = i → 0 ≤ i → i ≤ n → ((n : Int) - i).toNat = m → (∀ c j, ¬ (145 ≤ c ∧ c ≤ 150 ∧ 500 ≤ j) → μ1 c j = μ8 c j) → (∀ j, 0 ≤ j → j < i → (∀ c, 145 ≤ c → c ≤ 148 → μ1 c (500 + j) = μ8 c j) ∧ μ1 149 (500 + j) = μ8 149 j % 2 ∧ μ1 150 (500 + j) = μ8 150 j % 2) → jj_mM_improve X (d + 4) 35 l [] μ1 P := by
      intro m
      induction m using Nat.strongRecOn with
      | ind m ih =>
        intro l μ1 i h0 h1 hi hin hm hu hG
        refine bk_mM_improve_35 h0 ?_
        have e69 : μ1 109 69 = n := by rw [hu 109 69 (by omega)]; exact g69
        simp only [h1, e69]
        rw [show ab_w (500 + i) = 500 + i from ?_, show ab_w (i + 1) = i + 1 from ?_]
        · refine ⟨fun w2 μ2 e2 μ3 e3 => ?_, fun w2 => ⟨by omega, by omega, fun μ5 e5 => ⟨by omega, by omega, fun μ6 e6 => ⟨by omega, by omega, fun μ7 e7 => ⟨by omega, by omega, fun μ9 e9 => ⟨by omega, by omega, fun μ10 e10 => ⟨by omega, by omega, fun μ11 e11 => ?_⟩⟩⟩⟩⟩⟩⟩
          · have u3 : ∀ c j, c ≠ 109 → μ3 c j = μ1 c j := fun c j a => by rw [e3, mu_ne a, e2, mu_ne a]
            have v3 : ∀ j, j ≠ 104 → j ≠ 93 → μ3 109 j = μ8 109 j := fun j a b => by rw [e3, ab_mud, if_neg (by omega), e2, ab_mud, if_neg (by omega)]; exact hu _ _ (by omega)
            have w3 : mWF μ3 500 n R := by
              refine w8.copy hg fun j a b => ?_
              have := hG j a (by omega)
              refine ⟨fun c x y => by rw [u3 c _ (by omega)]; exact this.1 c x y, by rw [u3 149 _ (by decide)]; exact this.2.1, by rw [u3 150 _ (by decide)]; exact this.2.2⟩
            have f3 : fIm (ab_mu μ 109 0 0) μ3 := f8.trans fun c j a b e => by
              by_cases hc : c = 109
              · rw [hc]; exact v3 j (by omega) (by omega)
              · rw [u3 c j hc]; exact hu c j (by omega)
            exact c_mM_rounds h0 w3 (by rw [v3 71 (by decide) (by decide)]; exact g71) (by rw [v3 70 (by decide) (by decide)]; exact g70) (by rw [v3 18 (by decide) (by decide)]; exact g18) fun n' μ' a b c e f => hP q n' μ' (f3.trans a) b c e f
          · have off : ∀ c j, ¬ (145 ≤ c ∧ c ≤ 150 ∧ j = 500 + i) → μ11 c j = μ1 c j := fun c j a => by
              rw [e11, ab_mud, if_neg (by omega), e10, ab_mud, if_neg (by omega), e9, ab_mud, if_neg (by omega), e7, ab_mud, if_neg (by omega), e6, ab_mud, if_neg (by omega), e5, ab_mud, if_neg (by omega)]
            refine ih _ (by omega) _ μ11 (i + 1) h0 rfl (by omega) (by omega) rfl (fun c j a => by rw [off c j (by omega)]; exact hu c j a) (fun j a b => ?_)
            by_cases hj : j = i
            · subst hj
              have b0 : ∀ c, μ1 c j = μ8 c j := fun c => hu c j (by omega)
              have x5 : μ11 145 (500 + j) = μ8 145 j := by rw [e11, mu_ne (by decide), e10, mu_ne (by decide), e9, mu_ne (by decide), e7, mu_ne (by decide), e6, mu_ne (by decide), e5, ab_mud, if_pos ⟨rfl, rfl⟩, b0]
              have x6 : μ11 146 (500 + j) = μ8 146 j := by rw [e11, mu_ne (by decide), e10, mu_ne (by decide), e9, mu_ne (by decide), e7, mu_ne (by decide), e6, ab_mud, if_pos ⟨rfl, rfl⟩, e5, mu_ne (by decide), b0]
              have x7 : μ11 147 (500 + j) = μ8 147 j := by rw [e11, mu_ne (by decide), e10, mu_ne (by decide), e9, mu_ne (by decide), e7, ab_mud, if_pos ⟨rfl, rfl⟩, e6, mu_ne (by decide), e5, mu_ne (by decide), b0]
              have x8 : μ11 148 (500 + j) = μ8 148 j := by rw [e11, mu_ne (by decide), e10, mu_ne (by decide), e9, ab_mud, if_pos ⟨rfl, rfl⟩, e7, mu_ne (by decide), e6, mu_ne (by decide), e5, mu_ne (by decide), b0]
              refine ⟨fun c x y => ?_, ?_, ?_⟩
              · rcases (show c = 145 ∨ c = 146 ∨ c = 147 ∨ c = 148 by omega) with g | g | g | g <;> subst g
                · exact x5
                · exact x6
                · exact x7
                · exact x8
              · rw [e11, mu_ne (by decide), e10, ab_mud, if_pos ⟨rfl, rfl⟩, e9, mu_ne (by decide), e7, mu_ne (by decide), e6, mu_ne (by decide), e5, mu_ne (by decide), b0]
              · rw [e11, ab_mud, if_pos ⟨rfl, rfl⟩, e10, mu_ne (by decide), e9, mu_ne (by decide), e7, mu_ne (by decide), e6, mu_ne (by decide), e5, mu_ne (by decide), b0]
            · have := hG j a (by omega)
              refine ⟨fun c x y => by rw [off c _ (by omega)]; exact this.1 c x y, by rw [off 149 _ (by omega)]; exact this.2.1, by rw [off 150 _ (by omega)]; exact this.2.2⟩
        · exact ab_wi (by omega) (by omega)
        · exact ab_wi (by omega) (by omega)
    exact s35 _ _ μ8 0 rfl rfl (by decide) (by omega) rfl (fun _ _ _ => rfl) (fun j a b => by omega)
  · rw [e7, ab_mud, if_pos ⟨rfl, rfl⟩] at w
    exact absurd w (by decide)
end M22

/-! THE REFERENCE, part 23: the code is run -/
section M23
variable {X : jm_X} {d : Nat} {P : Int → ab_m → Prop}
/-- what a run writes -/
def fRun (μ μ' : ab_m) : Prop := ∀ c i, (c < 139 ∨ 144 < c) → c ≠ 178 → ¬ (c = 109 ∧ (i = 0 ∨ i = 54 ∨ i = 56 ∨ i = 57 ∨ i = 110)) → μ' c i = μ c i
theorem fRun.trans {μ μ1 μ2 : ab_m} (h : fRun μ μ1) (h2 : fRun μ1 μ2) : fRun μ μ2 := fun c i a b e => (h2 c i a b e).trans (h c i a b e)
theorem fRun.rf {μ : ab_m} : fRun μ μ := fun _ _ _ _ _ => rfl
theorem fRun.mu {μ μ' : ab_m} {a j v : Int} (h : fRun μ μ') (ha : (139 ≤ a ∧ a ≤ 144) ∨ a = 178 ∨ (a = 109 ∧ (j = 0 ∨ j = 54 ∨ j = 56 ∨ j = 57 ∨ j = 110))) : fRun μ (ab_mu μ' a j v) := by
  intro c i g1 g2 g3
  rw [ab_mud, if_neg (by omega)]
  exact h c i g1 g2 g3
/-- a register has a slot -/
def mSl (μ : ab_m) (r : Int) : Prop := 0 ≤ r ∧ r < 300 ∧ (μ 109 110 ≠ 0 → 0 ≤ μ 175 r ∧ μ 175 r < 300)
def vS (μ : ab_m) (r : Int) : Int := if μ 109 110 = 0 then r else μ 175 r
def vA (μ : ab_m) (k : Int) : Int := if μ 149 k = 0 then μ 178 (vS μ (μ 147 k)) else μ 147 k
def vB (μ : ab_m) (k : Int) : Int := if μ 150 k = 0 then μ 178 (vS μ (μ 148 k)) else μ 148 k
theorem mSl.rg {μ : ab_m} {r : Int} (h : mSl μ r) : 0 ≤ vS μ r ∧ vS μ r < 300 := by
  unfold vS
  by_cases e : μ 109 110 = 0
  · rw [if_pos e]; exact ⟨h.1, h.2.1⟩
  · rw [if_neg e]; exact h.2.2 e
theorem c_mM_slotOf {μ : ab_m} {r : Int} (h : mSl μ r) (hP : P (vS μ r) μ) : jj_mM_slotOf X d 0 (ab_la [109, r]) [] μ P := by
  refine bk_mM_slotOf_0 rfl ?_
  simp only [la1]
  refine ⟨fun e => ?_, fun e => ⟨⟨h.1, h.2.1⟩, ?_⟩⟩
  · rw [vS, if_pos e] at hP; exact hP
  · rw [vS, if_neg e] at hP; exact hP
theorem c_mM_valueA {μ : ab_m} {k : Int} (hk : 0 ≤ k ∧ k < 1000) (h : μ 149 k = 0 → mSl μ (μ 147 k)) (hP : P (vA μ k) μ) : jj_mM_valueA X (d + 1) 0 (ab_la [109, k]) [] μ P := by
  refine bk_mM_valueA_0 rfl ?_
  simp only [la1]
  refine ⟨hk, fun e => ⟨hk, c_mM_slotOf (h e) ⟨(h e).rg, ?_⟩⟩, fun e => ⟨hk, ?_⟩⟩
  · rw [vA, if_pos e] at hP; exact hP
  · rw [vA, if_neg e] at hP; exact hP
theorem c_mM_valueB {μ : ab_m} {k : Int} (hk : 0 ≤ k ∧ k < 1000) (h : μ 150 k = 0 → mSl μ (μ 148 k)) (hP : P (vB μ k) μ) : jj_mM_valueB X (d + 1) 0 (ab_la [109, k]) [] μ P := by
  refine bk_mM_valueB_0 rfl ?_
  simp only [la1]
  refine ⟨hk, fun e => ⟨hk, c_mM_slotOf (h e) ⟨(h e).rg, ?_⟩⟩, fun e => ⟨hk, ?_⟩⟩
  · rw [vB, if_pos e] at hP; exact hP
  · rw [vB, if_neg e] at hP; exact hP
/-- rows -/
def mRw (μ : ab_m) : Prop := (μ 109 18 = 0 ∨ μ 109 18 = 1) ∧ ∀ j, 0 ≤ j → j < 16 → μ 121 j ≤ 100
theorem c_mM_isCellR {μ : ab_m} {r i : Int} (hR : mRw μ) (hr : 0 ≤ r ∧ r < 8) (h1 : 0 ≤ i → i < 100 → P 1 μ) (h0 : P 0 μ) : jj_mM_isCell X d 0 (ab_la [109, r, i]) [] μ P := by
  refine bk_mM_isCell_0 rfl ?_
  simp only [la1, la2]
  have hw := hR.1
  rw [show ab_w (8 * μ 109 18) = 8 * μ 109 18 from ab_wi (by omega) (by omega), show ab_w (8 * μ 109 18 + r) = 8 * μ 109 18 + r from ab_wi (by omega) (by omega)]
  have := hR.2 (8 * μ 109 18 + r) (by omega) (by omega)
  exact ⟨fun _ => h0, fun q => ⟨by omega, fun _ => h0, fun w => h1 q (by omega)⟩⟩
/-- the code that runs -/
def mRn (μ : ab_m) (b n R : Int) : Prop := mWF μ b n R ∧ (μ 109 110 ≠ 0 → ∀ i, 0 ≤ i → i < n → mRs μ (b + i) fun r => 0 ≤ μ 175 r ∧ μ 175 r < 300) ∧ mRw μ ∧ 0 ≤ μ 109 53 ∧ μ 109 53 ≤ 200
theorem mRn.same {μ μ' : ab_m} {b n R : Int} (h : mRn μ b n R) (hf : fRun μ μ') (h110 : μ' 109 110 = μ 109 110) : mRn μ' b n R := by
  obtain ⟨h1, h2, h3, h4⟩ := h
  have sm : ∀ c i, 145 ≤ c → c ≤ 150 → μ' c i = μ c i := fun c i a b => hf c i (by omega) (by omega) (by omega)
  refine ⟨h1.same sm, fun e i x y => ?_, ⟨?_, fun j x y => ?_⟩, ?_⟩
  · rw [h110] at e
    have := h2 e i x y
    unfold mRs mUA mUB mDf at this ⊢
    have u175 : ∀ j, μ' 175 j = μ 175 j := fun j => hf 175 j (by omega) (by decide) (by omega)
    simp only [sm 145 _ (by decide) (by decide), sm 146 _ (by decide) (by decide), sm 147 _ (by decide) (by decide), sm 148 _ (by decide) (by decide), sm 149 _ (by decide) (by decide), sm 150 _ (by decide) (by decide), u175]
    exact this
  · rw [hf 109 18 (by omega) (by omega) (by omega)]; exact h3.1
  · rw [hf 121 j (by omega) (by omega) (by omega)]; exact h3.2 j x y
  · rw [hf 109 53 (by omega) (by omega) (by omega)]; exact h4
theorem mRn.sA {μ : ab_m} {b n R i : Int} (h : mRn μ b n R) (h0 : 0 ≤ i) (h1 : i < n) (hu : (1 ≤ μ 145 (b + i) ∧ μ 145 (b + i) ≤ 22) ∨ μ 145 (b + i) = 24 ∨ μ 145 (b + i) = 26 ∨ μ 145 (b + i) = 27) (he : μ 149 (b + i) = 0) : mSl μ (μ 147 (b + i)) := by
  have g := (h.1.at h0 h1).2.2.1 ⟨he, hu⟩
  have r3 := h.1.2.2.2.1
  exact ⟨g.1, by omega, fun e => (h.2.1 e i h0 h1).1 ⟨he, hu⟩⟩
theorem mRn.sA0 {μ : ab_m} {b n R i : Int} (h : mRn μ b n R) (h0 : 0 ≤ i) (h1 : i < n) (hu : μ 145 (b + i) ≤ 1) (he : μ 149 (b + i) = 0) : mSl μ (μ 147 (b + i)) := by
  have g := h.1.at h0 h1
  by_cases e : μ 145 (b + i) = 0
  · exact absurd he (g.2.2.2.2.2.2.2.2.2 e)
  · have := g.1
    exact h.sA h0 h1 (by omega) he
theorem mRn.sB {μ : ab_m} {b n R i : Int} (h : mRn μ b n R) (h0 : 0 ≤ i) (h1 : i < n) (hu : (2 ≤ μ 145 (b + i) ∧ μ 145 (b + i) ≤ 17) ∨ μ 145 (b + i) = 22) (he : μ 150 (b + i) = 0) : mSl μ (μ 148 (b + i)) := by
  have g := (h.1.at h0 h1).2.2.2.1 ⟨he, hu⟩
  have r3 := h.1.2.2.2.1
  exact ⟨g.1, by omega, fun e => (h.2.1 e i h0 h1).2.1 ⟨he, hu⟩⟩
theorem mRn.sD {μ : ab_m} {b n R i : Int} (h : mRn μ b n R) (h0 : 0 ≤ i) (h1 : i < n) (hu : mDf μ (b + i)) : mSl μ (μ 146 (b + i)) := by
  have g := (h.1.at h0 h1).2.2.2.2.1 hu
  have r3 := h.1.2.2.2.1
  exact ⟨g.1, by omega, fun e => (h.2.1 e i h0 h1).2.2 hu⟩
theorem c_mM_runCode {μ : ab_m} {b n R f : Int} (hb : b = 0 ∨ b = 500) (h : mRn μ b n R) (hf : 0 ≤ f ∧ f ≤ 100000) (hu : μ 109 57 = 0) (ht : μ 109 54 = 0) (hp : μ 109 56 = 0) (hP : ∀ r μ', fRun μ μ' → 0 ≤ μ' 109 56 → μ' 109 56 ≤ 300 → P r μ') : jj_mM_runCode X (d + 2) 0 (ab_la [109, b, f]) [] μ P := by
  have n1 : 1 ≤ n ∧ n ≤ 400 := ⟨h.1.1, h.1.2.1⟩
  -- what stays true
  have s24 : ∀ (m : Nat) (l : ab_l) (μ1 : ab_m) (pc u : Int), l 0 = 109 → l 1 = b → l 2 = f → l 3 = pc → 0 ≤ pc → pc < n → μ1 109 57 = u → 0 ≤ u → u ≤ f → (f - u).toNat = m → fRun μ μ1 → μ1 109 110 = μ 109 110 → 0 ≤ μ1 109 54 → μ1 109 54 ≤ μ 109 53 → 0 ≤ μ1 109 56 → μ1 109 56 ≤ 300 → jj_mM_runCode X (d + 2) 24 l [] μ1 P := by
    intro m
    induction m using Nat.strongRecOn with
    | ind m ih =>
      intro l μ1 pc u h0 h1 h2 h3 hpc hpn hu1 hu0 huf hm hf1 h110 ht0 ht1 hp0 hp1
      refine bk_mM_runCode_24 h0 ?_
      have kk : 0 ≤ b + pc ∧ b + pc < 1000 := by omega
      simp only [h1, h2, h3, hu1]
      rw [show ab_w (u + 1) = u + 1 from ab_wi (by omega) (by omega), show ab_w (b + pc) = b + pc from ab_wi (by omega) (by omega), show ab_w (pc + 1) = pc + 1 from ab_wi (by omega) (by omega)]
      refine ⟨fun hne μ2 e2 => ?_, fun _ => hP _ μ1 hf1 hp0 hp1⟩
      have f2 : fRun μ μ2 := by rw [e2]; exact hf1.mu (by omega)
      have q2 : ∀ j, j ≠ 57 → μ2 109 j = μ1 109 j := fun j a => by rw [e2, ab_mud, if_neg (by omega)]
      have c2 : μ2 109 110 = μ 109 110 := by rw [q2 110 (by decide)]; exact h110
      have g2 : mRn μ2 b n R := h.same f2 c2
      have I := g2.1.at hpc hpn
      have u2 : μ2 109 57 = u + 1 := by rw [e2, ab_mud, if_pos ⟨rfl, rfl⟩]
      have p2 : 0 ≤ μ2 109 56 ∧ μ2 109 56 ≤ 300 := by rw [q2 56 (by decide)]; exact ⟨hp0, hp1⟩
      have t2 : 0 ≤ μ2 109 54 ∧ μ2 109 54 ≤ μ 109 53 := by rw [q2 54 (by decide)]; exact ⟨ht0, ht1⟩
      have i2 : μ2 109 53 = μ 109 53 := f2 109 53 (by omega) (by omega) (by omega)
      -- behind the instruction
      have s496 : ∀ (l' : ab_l) (μ3 : ab_m) (pc' : Int), l' 0 = 109 → l' 1 = b → l' 2 = f → l' 3 = pc' → l' 4 = b + pc → 0 ≤ pc' → pc' < n → fRun μ μ3 → μ3 109 57 = u + 1 → μ3 109 110 = μ 109 110 → 0 ≤ μ3 109 54 → μ3 109 54 ≤ μ 109 53 → 0 ≤ μ3 109 56 → μ3 109 56 ≤ 300 → jj_mM_runCode X (d + 2) 496 l' [] μ3 P := by
        intro l' μ3 pc' g0 g1 g2' g3 g4 hpc' hpn' f3 u3 c3 t3 t3' p3 p3'
        refine bk_mM_runCode_496 g0 ?_
        simp only [g4]
        have r3 := h.same f3 c3
        have go : ∀ μ4 : ab_m, (∀ c j, c ≠ 178 → μ4 c j = μ3 c j) → jj_mM_runCode X (d + 2) 24 l' [] μ4 P := fun μ4 w => ih _ (by omega) l' μ4 pc' (u + 1) g0 g1 g2' g3 hpc' hpn' (by rw [w _ _ (by decide)]; exact u3) (by omega) (by omega) rfl (fun c j a b e => by rw [w c j b]; exact f3 c j a b e) (by rw [w _ _ (by decide)]; exact c3) (by rw [w _ _ (by decide)]; exact t3) (by rw [w _ _ (by decide)]; exact t3') (by rw [w _ _ (by decide)]; exact p3) (by rw [w _ _ (by decide)]; exact p3')
        refine c_mM_defines kk (fun hd => ⟨fun q => absurd q (by decide), fun _ => ⟨kk, c_mM_slotOf (r3.sD hpc hpn hd) ⟨(r3.sD hpc hpn hd).rg, fun μ7 e7 => go μ7 fun c j a => by rw [e7, mu_ne a]⟩⟩⟩) (fun _ _ => ⟨fun _ => go μ3 fun _ _ _ => rfl, fun q => absurd rfl q⟩)
      have on : ∀ (l' : ab_l) (pc' : Int), l' 0 = 109 → l' 1 = b → l' 2 = f → l' 3 = pc' → l' 4 = b + pc → 0 ≤ pc' → pc' < n → jj_mM_runCode X (d + 2) 496 l' [] μ2 P := fun l' pc' a0 a1 a2 a3 a4 a5 a6 => s496 l' μ2 pc' a0 a1 a2 a3 a4 a5 a6 f2 u2 c2 t2.1 t2.2 p2.1 p2.2
      have nx : μ2 145 (b + pc) ≠ 25 → μ2 145 (b + pc) ≠ 28 → pc + 1 < n := fun a1 a2 => by
        by_cases e : pc = n - 1
        · rcases g2.1.last hpc e with w | w
          · exact absurd w a1
          · exact absurd w a2
        · omega
      have s131 : ∀ (l' : ab_l) (s : Int), l' 0 = 109 → l' 1 = b → l' 2 = f → l' 3 = pc + 1 → l' 4 = b + pc → (μ2 145 (b + pc) = 26 ∨ μ2 145 (b + pc) = 27) → jj_mM_runCode X (d + 2) 131 l' [(0, s)] μ2 P := by
        intro l' s a0 a1 a2 a3 a4 ho
        refine bk_mM_runCode_131 a0 ?_
        simp only [a3, a4]
        have dd := I.2.2.2.2.2.1 (by omega)
        have nn := nx (by omega) (by omega)
        exact ⟨kk, fun _ => ⟨fun _ => on _ (pc + 1) a0 a1 a2 rfl a4 (by omega) nn, fun _ => ⟨kk, on _ _ a0 a1 a2 rfl a4 dd.1 dd.2⟩⟩, fun _ => ⟨fun _ => on _ (pc + 1) a0 a1 a2 rfl a4 (by omega) nn, fun _ => ⟨kk, on _ _ a0 a1 a2 rfl a4 dd.1 dd.2⟩⟩⟩
      refine ⟨kk, fun n28 => ⟨kk, fun n25 => ⟨kk, fun e26 => ?_, fun n26 => ⟨kk, fun n27 => ⟨kk, fun n24 => ⟨kk, fun n22 => ⟨kk, fun n21 => ⟨kk, fun n23 => ⟨kk, fun gt1 => ⟨kk, fun lt18 => ?_, fun ge18 => ?_⟩, fun le1 => ?_⟩, fun e23 => ?_⟩, fun e21 => ?_⟩, fun e22 => ?_⟩, fun e24 => ?_⟩, fun e27 => ?_⟩⟩, fun e25 => ?_⟩, fun _ => hP _ μ2 f2 p2.1 p2.2⟩
      · -- ZERO
        exact c_mM_valueA kk (g2.sA hpc hpn (by omega)) ⟨fun _ => s131 _ _ h0 h1 h2 rfl rfl (Or.inl e26), fun _ => s131 _ _ h0 h1 h2 rfl rfl (Or.inl e26)⟩
      · -- two
        have nn := nx n25 n28
        have sa := g2.sA hpc hpn (by omega)
        have sb := g2.sB hpc hpn (by omega)
        exact ⟨kk, c_mM_valueB kk sb (c_mM_isByNothing fun q _ => ⟨fun _ => ⟨kk, c_mM_valueA kk sa (c_mM_valueB kk sb (c_mM_two fun v => on _ (pc + 1) h0 h1 h2 rfl rfl (by omega) nn))⟩, fun _ => hP _ μ2 f2 p2.1 p2.2⟩)⟩
      · -- one
        have nn := nx n25 n28
        have o28 := I.2.1
        exact ⟨kk, c_mM_valueA kk (g2.sA hpc hpn (by omega)) (c_mM_one fun v => on _ (pc + 1) h0 h1 h2 rfl rfl (by omega) nn)⟩
      · -- SET, COPY
        have nn := nx n25 n28
        exact c_mM_valueA kk (g2.sA0 hpc hpn le1) (on _ (pc + 1) h0 h1 h2 rfl rfl (by omega) nn)
      · -- TAKE
        have nn := nx n25 n28
        have i5 := h.2.2.2.2
        refine ⟨fun w => ⟨by omega, fun μ3 e3 => ?_⟩, fun _ => hP _ μ2 f2 p2.1 p2.2⟩
        have q3 : ∀ j, j ≠ 54 → μ3 109 j = μ2 109 j := fun j a => by rw [e3, ab_mud, if_neg (by omega)]
        have t3 : μ3 109 54 = μ2 109 54 + 1 := by rw [e3, ab_mud, if_pos ⟨rfl, rfl⟩]; exact ab_wi (by omega) (by omega)
        exact s496 _ μ3 (pc + 1) h0 h1 h2 rfl rfl (by omega) nn (by rw [e3]; exact f2.mu (by omega)) (by rw [q3 57 (by decide)]; exact u2) (by rw [q3 110 (by decide)]; exact c2) (by omega) (by omega) (by rw [q3 56 (by decide)]; exact p2.1) (by rw [q3 56 (by decide)]; exact p2.2)
      · -- LOAD
        have nn := nx n25 n28
        have sa := g2.sA hpc hpn (by omega)
        have rr := I.2.2.2.2.2.2.1 e21
        refine ⟨kk, c_mM_valueA kk sa (c_mM_isCellR g2.2.2.1 rr (fun x y => ⟨fun _ => ⟨kk, c_mM_valueA kk sa ⟨?_, on _ (pc + 1) h0 h1 h2 rfl rfl (by omega) nn⟩⟩, fun w => absurd w (by decide)⟩) ⟨fun w => absurd rfl w, fun _ => hP _ μ2 f2 p2.1 p2.2⟩)⟩
        rw [show ab_w (100 * μ2 148 (b + pc)) = 100 * μ2 148 (b + pc) from ab_wi (by omega) (by omega), ab_wi (by omega) (by omega)]
        omega
      · -- STORE
        have nn := nx n25 n28
        have sa := g2.sA hpc hpn (by omega)
        have sb := g2.sB hpc hpn (by omega)
        have rr := I.2.2.2.2.2.2.2.1 e22
        refine ⟨kk, c_mM_valueA kk sa (c_mM_isCellR g2.2.2.1 rr (fun x y => ⟨fun _ => ⟨kk, c_mM_valueA kk sa (c_mM_valueB kk sb ⟨?_, fun μ3 e3 => ?_⟩)⟩, fun w => absurd w (by decide)⟩) ⟨fun w => absurd rfl w, fun _ => hP _ μ2 f2 p2.1 p2.2⟩)⟩
        · rw [show ab_w (100 * μ2 146 (b + pc)) = 100 * μ2 146 (b + pc) from ab_wi (by omega) (by omega), ab_wi (by omega) (by omega)]
          omega
        · have q3 : ∀ j, μ3 109 j = μ2 109 j := fun j => by rw [e3, mu_ne (by decide)]
          exact s496 _ μ3 (pc + 1) h0 h1 h2 rfl rfl (by omega) nn (by rw [e3]; exact f2.mu (by omega)) (by rw [q3]; exact u2) (by rw [q3]; exact c2) (by rw [q3]; exact t2.1) (by rw [q3]; exact t2.2) (by rw [q3]; exact p2.1) (by rw [q3]; exact p2.2)
      · -- SAY
        have nn := nx n25 n28
        refine ⟨fun w => c_mM_valueA kk (g2.sA hpc hpn (by omega)) ⟨by omega, fun μ3 e3 μ4 e4 => ?_⟩, fun _ => hP _ μ2 f2 p2.1 p2.2⟩
        have q3 : ∀ j, j ≠ 56 → μ4 109 j = μ2 109 j := fun j a => by rw [e4, ab_mud, if_neg (by omega), e3, mu_ne (by decide)]
        have p4 : μ4 109 56 = μ2 109 56 + 1 := by rw [e4, ab_mud, if_pos ⟨rfl, rfl⟩, e3, mu_ne (by decide)]; exact ab_wi (by omega) (by omega)
        exact s496 _ μ4 (pc + 1) h0 h1 h2 rfl rfl (by omega) nn (by rw [e4, e3]; exact (f2.mu (by omega)).mu (by omega)) (by rw [q3 57 (by decide)]; exact u2) (by rw [q3 110 (by decide)]; exact c2) (by rw [q3 54 (by decide)]; exact t2.1) (by rw [q3 54 (by decide)]; exact t2.2) (by omega) (by omega)
      · -- MANY
        exact c_mM_valueA kk (g2.sA hpc hpn (by omega)) ⟨fun _ => s131 _ _ h0 h1 h2 rfl rfl (Or.inr e27), fun _ => s131 _ _ h0 h1 h2 rfl rfl (Or.inr e27)⟩
      · -- JUMP
        have dd := I.2.2.2.2.2.1 (Or.inl e25)
        exact ⟨kk, on _ _ h0 h1 h2 rfl rfl dd.1 dd.2⟩
  have s2 : ∀ (m : Nat) (l : ab_l) (μ1 : ab_m) (r : Int), l 0 = 109 → l 1 = b → l 2 = f → l 3 = r → 0 ≤ r → r ≤ 300 → (300 - r).toNat = m → (∀ c j, c ≠ 178 → μ1 c j = μ c j) → jj_mM_runCode X (d + 2) 2 l [] μ1 P := by
    intro m
    induction m using Nat.strongRecOn with
    | ind m ih =>
      intro l μ1 r h0 h1 h2 h3 hr hr3 hm ho
      refine bk_mM_runCode_2 h0 ?_
      simp only [h3]
      refine ⟨fun _ => ?_, fun hlt => ⟨by omega, fun μ2 e2 => ?_⟩⟩
      · have z : ∀ j, μ1 109 j = μ 109 j := fun j => ho 109 j (by decide)
        exact s24 _ _ μ1 0 0 h0 h1 h2 rfl (by omega) (by omega) (by rw [z, hu]) (by omega) (by omega) rfl (fun c j _ a _ => ho c j a) (z _) (by rw [z, ht]; omega) (by rw [z, ht]; exact h.2.2.2.1) (by rw [z, hp]; omega) (by rw [z, hp]; omega)
      · rw [show ab_w (r + 1) = r + 1 from ab_wi (by omega) (by omega)]
        exact ih _ (by omega) _ μ2 (r + 1) h0 h1 h2 rfl (by omega) (by omega) rfl (fun c j a => by rw [e2, mu_ne a]; exact ho c j a)
  refine bk_mM_runCode_0 rfl ?_
  exact s2 _ _ μ 0 rfl rfl rfl rfl (by omega) (by omega) rfl (fun _ _ _ => rfl)
end M23

/-! THE REFERENCE, part 24: the small calls -/
section M24
variable {X : jm_X} {d : Nat} {P : Int → ab_m → Prop}
theorem ab_rgq {x : Int} (h : ab_rg 4 x) : 0 ≤ x ∧ x ≤ 1 := h
/-- thrown alone -/
def f0 (μ μ' : ab_m) : Prop := ∀ c i, ¬ (c = 109 ∧ i = 0) → μ' c i = μ c i
theorem f0.mu {μ : ab_m} {v : Int} : f0 μ (ab_mu μ 109 0 v) := fun c i h => by rw [ab_mud, if_neg h]
theorem c_mM_place {μ : ab_m} (hP : ∀ r μ', f0 μ μ' → P r μ') : jj_mM_place X d 0 (ab_la [109]) [] μ P :=
  bk_mM_place_0 rfl fun μ1 e => hP _ μ1 (by rw [e]; exact f0.mu)
theorem c_mM_clear {μ : ab_m} (hP : ∀ μ', (∀ c i, ¬ (c = 109 ∧ (i = 0 ∨ i = 53)) → μ' c i = μ c i) → μ' 109 53 = 0 → P (μ 109 53) μ') : jj_mM_clear X d 0 (ab_la [109]) [] μ P := by
  refine bk_mM_clear_0 rfl fun μ1 e μ2 e2 => ?_
  rw [show μ1 109 53 = μ 109 53 by rw [e, ab_mud, if_neg (by omega)]]
  exact hP μ2 (fun c i h => by rw [e2, ab_mud, if_neg (by omega), e, ab_mud, if_neg (by omega)]) (by rw [e2, ab_mud, if_pos ⟨rfl, rfl⟩])
theorem c_mM_input {μ : ab_m} {v : Int} (hi : 0 ≤ μ 109 53 ∧ μ 109 53 ≤ 200) (h1 : μ 109 53 = 200 → ∀ μ', f0 μ μ' → μ' 109 0 = 1 → P 0 μ') (h0 : μ 109 53 < 200 → ∀ μ', (∀ c i, c ≠ 138 → ¬ (c = 109 ∧ (i = 0 ∨ i = 53)) → μ' c i = μ c i) → μ' 109 0 = 0 → μ' 109 53 = μ 109 53 + 1 → P (μ 109 53 + 1) μ') : jj_mM_input X d 0 (ab_la [109, v]) [] μ P := by
  refine bk_mM_input_0 rfl ⟨fun h => ?_, fun h => ?_⟩
  · refine bk_mM_input_16 rfl fun μ1 e1 => ⟨fun _ => ?_, fun w => ?_⟩
    · have g1 : μ1 109 53 = μ 109 53 := by rw [e1, ab_mud, if_neg (by omega)]
      rw [g1]
      refine ⟨by omega, fun μ2 e2 μ3 e3 => ?_⟩
      have g3 : μ3 109 53 = μ 109 53 + 1 := by rw [e3, ab_mud, if_pos ⟨rfl, rfl⟩, e2, mu_ne (by decide), g1]; exact ab_wi (by omega) (by omega)
      rw [g3]
      refine h0 (by omega) μ3 (fun c i a b => ?_) ?_ g3
      · rw [e3, ab_mud, if_neg (by omega), e2, mu_ne a, e1, ab_mud, if_neg (by omega)]
      · rw [e3, ab_mud, if_neg (by omega), e2, mu_ne (by decide), e1, ab_mud, if_pos ⟨rfl, rfl⟩]
    · rw [e1, ab_mud, if_pos ⟨rfl, rfl⟩] at w
      exact absurd w (by decide)
  · refine bk_mM_input_16 rfl fun μ1 e1 => ⟨fun w => ?_, fun _ => ?_⟩
    · rw [e1, ab_mud, if_pos ⟨rfl, rfl⟩] at w
      exact absurd w (by decide)
    · exact h1 h μ1 (by rw [e1]; exact f0.mu) (by rw [e1, ab_mud, if_pos ⟨rfl, rfl⟩])
theorem c_mM_printed {μ : ab_m} {i : Int} (hp : μ 109 56 ≤ 300) (hP : ∀ r μ', f0 μ μ' → P r μ') : jj_mM_printed X d 0 (ab_la [109, i]) [] μ P := by
  refine bk_mM_printed_0 rfl ?_
  simp only [la1]
  refine ⟨fun h μ1 e => ⟨fun w => ?_, fun _ => hP _ _ (by rw [e]; exact f0.mu)⟩, fun h => ⟨fun h2 μ1 e => ⟨fun w => ⟨by omega, hP _ _ (by rw [e]; exact f0.mu)⟩, fun _ => hP _ _ (by rw [e]; exact f0.mu)⟩, fun h2 μ1 e => ⟨fun w => ?_, fun _ => hP _ _ (by rw [e]; exact f0.mu)⟩⟩⟩
  · rw [e, ab_mud, if_pos ⟨rfl, rfl⟩] at w
    exact absurd w (by decide)
  · rw [e, ab_mud, if_pos ⟨rfl, rfl⟩] at w
    exact absurd w (by decide)
theorem c_mM_told {μ : ab_m} {i : Int} (hP : ∀ r μ', f0 μ μ' → P r μ') : jj_mM_told X d 0 (ab_la [109, i]) [] μ P := by
  have k : ∀ s, jj_mM_told X d 16 (ab_la [109, i]) [(0, s), (2, 109)] μ P := fun s => by
    refine bk_mM_told_16 rfl fun μ1 e => ?_
    have f : ∀ r, P r μ1 := fun r => hP r μ1 (by rw [e]; exact f0.mu)
    exact ⟨⟨fun _ => f _, fun _ => f _, fun _ => f _, fun _ => ⟨fun _ => f _, fun _ => f _⟩, fun _ => ⟨fun _ => f _, fun _ => f _⟩, fun _ => ⟨fun _ => f _, fun _ => f _⟩, fun _ => ⟨fun _ => f _, fun _ => f _⟩, fun _ => ⟨fun _ => f _, fun _ => f _⟩, trivial⟩, fun _ => f _⟩
  exact bk_mM_told_0 rfl ⟨fun _ => k 1, fun _ => ⟨fun _ => k 0, fun _ => k 1⟩⟩
theorem c_mM_colour {μ : ab_m} {i : Int} (hr : μ 109 73 ≠ 0 → μ 109 71 ≤ 300) (hP : ∀ r μ', f0 μ μ' → P r μ') : jj_mM_colour X d 0 (ab_la [109, i]) [] μ P := by
  have k : ∀ s, (s ≤ 0 → 0 ≤ i ∧ i < 300) → jj_mM_colour X d 29 (ab_la [109, i]) [(0, s), (2, 109)] μ P := fun s hs => by
    refine bk_mM_colour_29 rfl fun μ1 e => ?_
    have f : ∀ r, P r μ1 := fun r => hP r μ1 (by rw [e]; exact f0.mu)
    refine ⟨fun w => ⟨?_, f _⟩, fun _ => f _⟩
    rw [e, ab_mud, if_pos ⟨rfl, rfl⟩] at w
    exact hs w
  refine bk_mM_colour_0 rfl ?_
  simp only [la1]
  exact ⟨fun q => ⟨fun _ => k 1 (fun w => absurd w (by decide)), fun _ => ⟨fun _ => k 0 (fun _ => by have := hr q; omega), fun _ => k 1 (fun w => absurd w (by decide))⟩⟩, fun _ => k 2 (fun w => absurd w (by decide))⟩
theorem c_mM_code {μ : ab_m} {bt i p : Int} (h1 : μ 109 72 ≠ 0 → μ 109 69 ≤ 400) (h2 : μ 109 73 ≠ 0 → μ 109 70 ≤ 400) (hP : ∀ r μ', f0 μ μ' → P r μ') : jj_mM_code X d 0 (ab_la [109, bt, i, p]) [] μ P := by
  have k : ∀ s, (s ≤ 0 → 0 ≤ i ∧ i < 400) → jj_mM_code X d 63 (ab_la [109, bt, i, p]) [(0, s), (2, 109)] μ P := fun s hs => by
    refine bk_mM_code_63 rfl fun μ1 e => ?_
    have f : ∀ r, P r μ1 := fun r => hP r μ1 (by rw [e]; exact f0.mu)
    have s86 : ∀ v, (v = 0 ∨ v = 500) → 0 ≤ i ∧ i < 400 → jj_mM_code X d 86 (ab_la [109, bt, i, p]) [(0, v)] μ1 P := fun v hv hi => by
      refine bk_mM_code_86 rfl ?_
      simp only [la2, la3]
      rw [show ab_w (v + i) = v + i from ab_wi (by omega) (by omega)]
      have kk : 0 ≤ v + i ∧ v + i < 1000 := by omega
      exact ⟨fun _ => ⟨fun _ => ⟨fun _ => ⟨fun _ => ⟨kk, fun _ => ⟨kk, fun _ => f _, fun _ => f _⟩, fun _ => ⟨kk, fun _ => f _, fun _ => f _⟩⟩, fun _ => ⟨kk, f _⟩⟩, fun _ => ⟨kk, f _⟩⟩, fun _ => ⟨kk, f _⟩⟩, fun _ => ⟨kk, f _⟩⟩
    refine ⟨fun w => ?_, fun _ => f _⟩
    rw [e, ab_mud, if_pos ⟨rfl, rfl⟩] at w
    exact ⟨fun _ => s86 0 (Or.inl rfl) (hs w), fun _ => s86 500 (Or.inr rfl) (hs w)⟩
  have t1 := k 1 (fun w => absurd w (by decide))
  have s26 : (bt = 0 → μ 109 72 ≠ 0) → (bt ≠ 0 → μ 109 73 ≠ 0) → jj_mM_code X d 26 (ab_la [109, bt, i, p]) [(2, 109)] μ P := fun a b => by
    refine bk_mM_code_26 rfl ?_
    simp only [la1, la2, la3]
    exact ⟨fun _ => t1, fun _ => ⟨fun q => ⟨fun _ => t1, fun _ => ⟨fun _ => t1, fun _ => ⟨fun _ => k 0 (fun _ => by have := h1 (a q); omega), fun _ => t1⟩⟩⟩, fun q => ⟨fun _ => t1, fun _ => ⟨fun _ => t1, fun _ => ⟨fun _ => k 0 (fun _ => by have := h2 (b q); omega), fun _ => t1⟩⟩⟩⟩⟩
  have t2 := k 2 (fun w => absurd w (by decide))
  refine bk_mM_code_0 rfl ?_
  simp only [la1]
  exact ⟨fun q => ⟨fun w => s26 (fun _ => w) (fun w2 => absurd q w2), fun _ => t2⟩, fun q => ⟨fun _ => t2, fun w => s26 (fun w2 => absurd w2 q) (fun _ => w)⟩⟩
theorem c_mM_isLive {μ : ab_m} {bt i r : Int} (h1 : μ 109 72 ≠ 0 → mWF μ 0 (μ 109 69) (μ 109 71)) (h2 : μ 109 73 ≠ 0 → mWF μ 500 (μ 109 70) (μ 109 71)) (hP : ∀ q μ', (∀ c j, c ≠ 174 → ¬ (c = 109 ∧ j = 0) → μ' c j = μ c j) → P q μ') : jj_mM_isLive X (d + 3) 0 (ab_la [109, bt, i, r]) [] μ P := by
  have k : ∀ s, (s ≤ 0 → (bt = 0 → μ 109 72 ≠ 0 ∧ 0 ≤ i ∧ i < μ 109 69) ∧ (bt ≠ 0 → μ 109 73 ≠ 0 ∧ 0 ≤ i ∧ i < μ 109 70) ∧ 0 ≤ r ∧ r < μ 109 71) → jj_mM_isLive X (d + 3) 66 (ab_la [109, bt, i, r]) [(0, s), (2, 109)] μ P := fun s hs => by
    refine bk_mM_isLive_66 rfl fun μ1 e => ?_
    have f1 : f0 μ μ1 := by rw [e]; exact f0.mu
    have u : ∀ c j, c ≠ 109 → μ1 c j = μ c j := fun c j a => f1 c j (by omega)
    have u9 : ∀ j, j ≠ 0 → μ1 109 j = μ 109 j := fun j a => f1 109 j (by omega)
    have fin : ∀ μ2, mOff 174 μ1 μ2 → ∀ q, P q μ2 := fun μ2 w q => hP q μ2 fun c j a b => (w c j a).trans (f1 c j b)
    have ix : 0 ≤ i → i < 400 → 0 ≤ r → r < 300 → ∀ μ2, ab_Rg μ2 → mOff 174 μ1 μ2 → (0 ≤ ab_w (ab_w (300 * i) + r) ∧ ab_w (ab_w (300 * i) + r) < 121000) ∧ (0 ≤ μ2 174 (ab_w (ab_w (300 * i) + r)) ∧ μ2 174 (ab_w (ab_w (300 * i) + r)) ≤ 1) ∧ P (μ2 174 (ab_w (ab_w (300 * i) + r))) μ2 := fun b1 b2 b3 b4 μ2 hg w2 => by
      rw [show ab_w (300 * i) = 300 * i from ab_wi (by omega) (by omega), show ab_w (300 * i + r) = 300 * i + r from ab_wi (by omega) (by omega)]
      exact ⟨by omega, ab_rgq (hg 174 _ (by decide)), fin μ2 w2 _⟩
    have s90 : s ≤ 0 → ∀ v, (v = 0 ∧ bt = 0 ∨ v = 500 ∧ bt ≠ 0) → jj_mM_isLive X (d + 3) 90 (ab_la [109, bt, i, r]) [(0, v), (2, 109)] μ1 P := fun w v hv => by
      obtain ⟨a1, a2, a3⟩ := hs w
      refine bk_mM_isLive_90 rfl ?_
      simp only [la1, la2, la3]
      refine ⟨fun q => ?_, fun q => ?_⟩
      · have g := h1 (a1 q).1
        have b1 := a1 q
        have n4 := g.2.1
        have n3 := g.2.2.2.1
        rw [u9 69 (by decide)]
        refine ok_mono (P := fun _ μ2 => mOff 174 μ1 μ2) (c_mM_findLive (by omega) ⟨by omega, by omega⟩ (by rw [u9 71 (by decide)]; omega) ?_ fun μ2 w2 => w2) fun _ μ2 hg w2 => ix (by omega) (by omega) (by omega) (by omega) μ2 hg w2
        rw [show v = 0 by omega]
        exact (g.same fun c j x y => u c j (by omega)).lp
      · have g := h2 (a2 q).1
        have b1 := a2 q
        have n4 := g.2.1
        have n3 := g.2.2.2.1
        rw [u9 70 (by decide)]
        refine ok_mono (P := fun _ μ2 => mOff 174 μ1 μ2) (c_mM_findLive (by omega) ⟨by omega, by omega⟩ (by rw [u9 71 (by decide)]; omega) ?_ fun μ2 w2 => w2) fun _ μ2 hg w2 => ix (by omega) (by omega) (by omega) (by omega) μ2 hg w2
        rw [show v = 500 by omega]
        exact (g.same fun c j x y => u c j (by omega)).lp
    refine ⟨fun w => ?_, fun _ => hP _ μ1 fun c j _ b => f1 c j b⟩
    rw [e, ab_mud, if_pos ⟨rfl, rfl⟩] at w
    exact ⟨fun q => s90 w 0 (Or.inl ⟨rfl, q⟩), fun q => s90 w 500 (Or.inr ⟨rfl, q⟩)⟩
  have t1 := k 1 (fun w => absurd w (by decide))
  have t2 := k 2 (fun w => absurd w (by decide))
  have s26 : (bt = 0 → μ 109 72 ≠ 0) → (bt ≠ 0 → μ 109 73 ≠ 0) → jj_mM_isLive X (d + 3) 26 (ab_la [109, bt, i, r]) [(2, 109)] μ P := fun a b => by
    refine bk_mM_isLive_26 rfl ?_
    simp only [la1, la2, la3]
    exact ⟨fun _ => t1, fun x => ⟨fun q => ⟨fun _ => t1, fun y => ⟨fun _ => t1, fun z => ⟨fun z2 => k 0 (fun _ => ⟨fun _ => ⟨a q, x, y⟩, fun w => absurd q w, z, z2⟩), fun _ => t1⟩⟩⟩, fun q => ⟨fun _ => t1, fun y => ⟨fun _ => t1, fun z => ⟨fun z2 => k 0 (fun _ => ⟨fun w => absurd w q, fun _ => ⟨b q, x, y⟩, z, z2⟩), fun _ => t1⟩⟩⟩⟩⟩
  refine bk_mM_isLive_0 rfl ?_
  simp only [la1]
  exact ⟨fun q => ⟨fun w => s26 (fun _ => w) (fun w2 => absurd q w2), fun _ => t2⟩, fun q => ⟨fun _ => t2, fun w => s26 (fun w2 => absurd w2 q) (fun _ => w)⟩⟩
/-- what looksUp, isKnown, known write -/
theorem c_mM_looksUp {μ : ab_m} {i r : Int} (h1 : μ 109 72 ≠ 0 → mWF μ 0 (μ 109 69) (μ 109 71)) (hP : ∀ q μ', (∀ c j, (c < 161 ∨ 164 < c) → ¬ (c = 109 ∧ (j = 0 ∨ j = 91 ∨ j = 92)) → μ' c j = μ c j) → (q = 0 ∨ q = 1 ∧ 0 ≤ i ∧ i < 400 ∧ 0 ≤ r ∧ r < 300) → P q μ') : jj_mM_looksUp X (d + 3) 0 (ab_la [109, i, r]) [] μ P := by
  have k : ∀ s, (s ≤ 0 → μ 109 72 ≠ 0 ∧ 0 ≤ i ∧ i < μ 109 69 ∧ 0 ≤ r ∧ r < μ 109 71) → jj_mM_looksUp X (d + 3) 41 (ab_la [109, i, r]) [(0, s), (2, 109)] μ P := fun s hs => by
    refine bk_mM_looksUp_41 rfl fun μ1 e => ?_
    have f1 : f0 μ μ1 := by rw [e]; exact f0.mu
    simp only [la1, la2]
    refine ⟨fun w => ?_, fun _ => hP _ μ1 (fun c j _ b => f1 c j (by omega)) (Or.inl rfl)⟩
    rw [e, ab_mud, if_pos ⟨rfl, rfl⟩] at w
    obtain ⟨a1, a2, a3, a4, a5⟩ := hs w
    have g := h1 a1
    have n4 := g.2.1
    have n3 := g.2.2.2.1
    have u : ∀ c j, c ≠ 109 → μ1 c j = μ c j := fun c j a => f1 c j (by omega)
    rw [f1 109 69 (by omega)]
    refine c_mM_findKnown (Or.inl rfl) (g.same fun c j x y => u c j (by omega)) (f1 109 71 (by omega)) fun μ2 f2 => ?_
    have fin : ∀ q, (q = 0 ∨ q = 1 ∧ 0 ≤ i ∧ i < 400 ∧ 0 ≤ r ∧ r < 300) → P q μ2 := fun q hq => hP q μ2 (fun c j a b => (f2 c j a (by omega)).trans (f1 c j (by omega))) hq
    rw [show ab_w (300 * i) = 300 * i from ab_wi (by omega) (by omega), show ab_w (300 * i + r) = 300 * i + r from ab_wi (by omega) (by omega)]
    exact ⟨by omega, fun _ => fin 0 (Or.inl rfl), fun _ => ⟨by omega, fun _ => fin 0 (Or.inl rfl), fun _ => fin 1 (Or.inr ⟨rfl, by omega⟩)⟩⟩
  have t1 := k 1 (fun w => absurd w (by decide))
  refine bk_mM_looksUp_0 rfl ?_
  simp only [la1, la2]
  exact ⟨fun q => ⟨fun _ => t1, fun x => ⟨fun _ => t1, fun y => ⟨fun _ => t1, fun z => ⟨fun z2 => k 0 (fun _ => ⟨q, x, y, z, z2⟩), fun _ => t1⟩⟩⟩⟩, fun _ => k 2 (fun w => absurd w (by decide))⟩
theorem c_mM_isKnown {μ : ab_m} {i r : Int} (h1 : μ 109 72 ≠ 0 → mWF μ 0 (μ 109 69) (μ 109 71)) (hP : ∀ q μ', (∀ c j, (c < 161 ∨ 164 < c) → ¬ (c = 109 ∧ (j = 0 ∨ j = 91 ∨ j = 92)) → μ' c j = μ c j) → P q μ') : jj_mM_isKnown X (d + 4) 0 (ab_la [109, i, r]) [] μ P := by
  refine bk_mM_isKnown_0 rfl ?_
  exact c_mM_looksUp h1 fun q μ' f hq => ⟨by omega, hP q μ' f⟩
theorem c_mM_known {μ : ab_m} {i r : Int} (h1 : μ 109 72 ≠ 0 → mWF μ 0 (μ 109 69) (μ 109 71)) (hP : ∀ q μ', (∀ c j, (c < 161 ∨ 164 < c) → ¬ (c = 109 ∧ (j = 0 ∨ j = 91 ∨ j = 92)) → μ' c j = μ c j) → P q μ') : jj_mM_known X (d + 4) 0 (ab_la [109, i, r]) [] μ P := by
  refine bk_mM_known_0 rfl ?_
  simp only [la1, la2]
  refine c_mM_looksUp h1 fun q μ' f hq => ⟨fun _ => hP _ μ' f, fun w => ?_⟩
  rcases hq with hq | ⟨-, hq⟩
  · exact absurd hq w
  · rw [show ab_w (300 * i) = 300 * i from ab_wi (by omega) (by omega), show ab_w (300 * i + r) = 300 * i + r from ab_wi (by omega) (by omega)]
    exact ⟨by omega, hP _ μ' f⟩
theorem c_mM_beginRun {μ : ab_m} (hP : ∀ μ', (∀ c j, c ≠ 141 → ¬ (c = 109 ∧ (j = 54 ∨ j = 56 ∨ j = 57)) → μ' c j = μ c j) → μ' 109 54 = 0 → μ' 109 56 = 0 → μ' 109 57 = 0 → P 0 μ') : jj_mM_beginRun X d 0 (ab_la [109]) [] μ P := by
  refine bk_mM_beginRun_0 rfl fun μ1 e1 μ2 e2 μ3 e3 => ?_
  have s17 : ∀ (m : Nat) (l : ab_l) (μ4 : ab_m) (k : Int), l 0 = 109 → l 1 = k → 0 ≤ k → k ≤ 800 → (800 - k).toNat = m → (∀ c j, c ≠ 141 → μ4 c j = μ3 c j) → jj_mM_beginRun X d 17 l [] μ4 P := by
    intro m
    induction m using Nat.strongRecOn with
    | ind m ih =>
      intro l μ4 k h0 h1 hk hk8 hm ho
      refine bk_mM_beginRun_17 h0 ?_
      simp only [h1]
      refine ⟨fun _ => hP μ4 (fun c j a b => ?_) ?_ ?_ ?_, fun _ => ⟨by omega, fun μ5 e5 => ?_⟩⟩
      · rw [ho c j a, e3, ab_mud, if_neg (by omega), e2, ab_mud, if_neg (by omega), e1, ab_mud, if_neg (by omega)]
      · rw [ho _ _ (by decide), e3, ab_mud, if_neg (by omega), e2, ab_mud, if_neg (by omega), e1, ab_mud, if_pos ⟨rfl, rfl⟩]
      · rw [ho _ _ (by decide), e3, ab_mud, if_neg (by omega), e2, ab_mud, if_pos ⟨rfl, rfl⟩]
      · rw [ho _ _ (by decide), e3, ab_mud, if_pos ⟨rfl, rfl⟩]
      · rw [show ab_w (k + 1) = k + 1 from ab_wi (by omega) (by omega)]
        exact ih _ (by omega) _ μ5 (k + 1) h0 rfl (by omega) (by omega) rfl (fun c j a => by rw [e5, mu_ne a]; exact ho c j a)
  exact s17 _ _ μ3 0 rfl rfl (by omega) (by omega) rfl (fun _ _ _ => rfl)
end M24

/-! THE REFERENCE, part 25: feed -/
section M25
variable {X : jm_X} {d : Nat} {P : Int → ab_m → Prop}
noncomputable def fdB (row k : Int) : Int := ab_w (ab_landL (ab_shrL row (8 * k)) 255)
def fdF (b : Int) : Prop := b = 10 ∨ (32 ≤ b ∧ b ≤ 126)
def fdOk (row n : Int) : Prop := 1 ≤ n ∧ n ≤ 8 ∧ ∀ k, 0 ≤ k → k < n → fdF (fdB row k)
theorem c_mM_isFine {μ : ab_m} {b : Int} (h1 : fdF b → P 1 μ) (h0 : ¬ fdF b → P 0 μ) : jj_mM_isFine X d 0 (ab_la [b]) [] μ P := by
  refine bk_mM_isFine_0 ?_
  simp only [la0]
  exact ⟨fun h => h1 (Or.inl h), fun h => ⟨fun w => h0 (fun q => by unfold fdF at q; omega), fun w => ⟨fun w2 => h0 (fun q => by unfold fdF at q; omega), fun w2 => h1 (Or.inr ⟨w, w2⟩)⟩⟩⟩
theorem c_mM_feed {μ : ab_m} {l : ab_l} {row n t : Int} (l0 : l 0 = 109) (l1 : l 1 = row) (l3 : l 3 = n) (ht : μ 109 2 = t) (ht0 : 0 ≤ t ∧ t ≤ 3000) (hB : ¬ fdOk row n → ∀ μ', f0 μ μ' → μ' 109 0 = 1 → P 0 μ') (hS : fdOk row n → 3000 < t + n → ∀ μ', f0 μ μ' → μ' 109 0 = 2 → P 0 μ') (hP : fdOk row n → t + n ≤ 3000 → ∀ μ', (∀ c i, c ≠ 110 → ¬ (c = 109 ∧ (i = 0 ∨ i = 2)) → μ' c i = μ c i) → μ' 109 0 = 0 → μ' 109 2 = t + n → P (t + n) μ') : jj_mM_feed X (d + 1) 0 l [] μ P := by
  have s105 : fdOk row n → t + n ≤ 3000 → ∀ (m : Nat) (l : ab_l) (μ1 : ab_m) (k : Int), l 0 = 109 → l 1 = row → l 3 = n → l 4 = k → 0 ≤ k → k ≤ n → (n - k).toNat = m → (∀ c i, c ≠ 110 → ¬ (c = 109 ∧ (i = 0 ∨ i = 2)) → μ1 c i = μ c i) → μ1 109 0 = 0 → μ1 109 2 = t + k → jj_mM_feed X (d + 1) 105 l [] μ1 P := by
    intro ok le m
    have n8 := ok.2.1
    induction m using Nat.strongRecOn with
    | ind m ih =>
      intro l μ1 k h0 h1 h3 h4 hk hkn hm hf hz hq
      refine bk_mM_feed_105 h0 ?_
      simp only [h1, h3, h4, hq]
      rw [show ab_w (k + 1) = k + 1 from ab_wi (by omega) (by omega)]
      refine ⟨fun w => ?_, fun w => ⟨by omega, fun μ2 e2 μ3 e3 => ?_⟩⟩
      · have e : k = n := by omega
        subst e
        exact hP ok le μ1 hf hz hq
      · refine ih _ (by omega) _ μ3 (k + 1) h0 h1 h3 rfl (by omega) (by omega) rfl (fun c i a b => ?_) ?_ ?_
        · rw [e3, ab_mud, if_neg (by omega), e2, mu_ne a]; exact hf c i a b
        · rw [e3, ab_mud, if_neg (by omega), e2, mu_ne (by decide)]; exact hz
        · rw [e3, ab_mud, if_pos ⟨rfl, rfl⟩, e2, mu_ne (by decide), hq, ab_wi (by omega) (by omega)]; omega
  -- the bytes are seen to be fine, or not
  have s69b : ∀ (l : ab_l) (μ1 : ab_m), l 0 = 109 → f0 μ μ1 → μ1 109 0 = 1 → ¬ fdOk row n → jj_mM_feed X (d + 1) 69 l [] μ1 P := by
    intro l μ1 h0 hf hz nok
    refine bk_mM_feed_69 h0 ?_
    rw [hz]
    exact ⟨fun _ => ⟨fun w => absurd w (by decide), fun _ => hB nok μ1 hf hz⟩, fun w => absurd w (by decide)⟩
  have s69 : ∀ (l : ab_l) (μ1 : ab_m), l 0 = 109 → l 1 = row → l 3 = n → f0 μ μ1 → μ1 109 0 = 0 → fdOk row n → jj_mM_feed X (d + 1) 69 l [] μ1 P := by
    intro l μ1 h0 h1 h3 hf hz ok
    have n8 := ok.2.1
    have n1 := ok.1
    refine bk_mM_feed_69 h0 ?_
    have e2 : μ1 109 2 = t := by rw [hf 109 2 (by omega)]; exact ht
    rw [h3, e2, show ab_w (t + n) = t + n from ab_wi (by omega) (by omega)]
    refine ⟨fun w => absurd hz w, fun _ => ⟨fun le => ⟨fun _ => ?_, fun w => by omega⟩, fun gt μ5 e5 => ⟨fun w => ?_, fun _ => ?_⟩⟩⟩
    · exact s105 ok le _ _ μ1 0 h0 h1 h3 rfl (by omega) (by omega) rfl (fun c i a b => hf c i (by omega)) hz (by rw [e2]; omega)
    · rw [e5, ab_mud, if_pos ⟨rfl, rfl⟩] at w
      exact absurd w (by decide)
    · exact hS ok gt μ5 (fun c i a => by rw [e5, ab_mud, if_neg a]; exact hf c i a) (by rw [e5, ab_mud, if_pos ⟨rfl, rfl⟩])
  have s23 : ∀ (m : Nat) (l : ab_l) (μ1 : ab_m) (k : Int), l 0 = 109 → l 1 = row → l 3 = n → l 4 = k → 1 ≤ n → n ≤ 8 → 0 ≤ k → k ≤ n → (n - k).toNat = m → f0 μ μ1 → (μ1 109 0 = 1 ∧ ¬ fdOk row n ∨ μ1 109 0 = 0 ∧ ∀ j, 0 ≤ j → j < k → fdF (fdB row j)) → jj_mM_feed X (d + 1) 23 l [] μ1 P := by
    intro m
    induction m using Nat.strongRecOn with
    | ind m ih =>
      intro l μ1 k h0 h1 h3 h4 n1 n8 hk hkn hm hf hc
      refine bk_mM_feed_23 h0 ?_
      simp only [h1, h3, h4]
      rw [show ab_w (k + 1) = k + 1 from ab_wi (by omega) (by omega), show ab_w (8 * k) = 8 * k from ab_wi (by omega) (by omega)]
      refine ⟨fun w => ?_, fun w => ⟨fun w2 => ?_, fun w2 => ?_⟩⟩
      · rcases hc with ⟨z, nok⟩ | ⟨z, q⟩
        · exact s69b l μ1 h0 hf z nok
        · exact s69 l μ1 h0 h1 h3 hf z ⟨n1, n8, fun j a b => q j a (by omega)⟩
      · rcases hc with ⟨z, nok⟩ | ⟨z, q⟩
        · exact s69b l μ1 h0 hf z nok
        · exact absurd z w2
      · rcases hc with ⟨z, nok⟩ | ⟨z, q⟩
        · rw [z] at w2; exact absurd w2 (by decide)
        · refine c_mM_isFine (fun ff => ⟨fun x => absurd x (by decide), fun _ μ6 e6 => ?_⟩) (fun nf => ⟨fun _ μ6 e6 => ?_, fun x => absurd rfl x⟩)
          · refine ih _ (by omega) _ μ6 (k + 1) h0 h1 h3 rfl n1 n8 (by omega) (by omega) rfl (fun c i a => by rw [e6, ab_mud, if_neg a]; exact hf c i a) (Or.inr ⟨by rw [e6, ab_mud, if_pos ⟨rfl, rfl⟩], fun j a b => ?_⟩)
            by_cases e : j = k
            · subst e; exact ff
            · exact q j a (by omega)
          · exact ih _ (by omega) _ μ6 (k + 1) h0 h1 h3 rfl n1 n8 (by omega) (by omega) rfl (fun c i a => by rw [e6, ab_mud, if_neg a]; exact hf c i a) (Or.inl ⟨by rw [e6, ab_mud, if_pos ⟨rfl, rfl⟩], fun ok => nf (ok.2.2 k hk w)⟩)
  -- a wrong count
  have s23b : ∀ (l : ab_l) (μ1 : ab_m), l 0 = 109 → f0 μ μ1 → μ1 109 0 = 1 → ¬ fdOk row n → jj_mM_feed X (d + 1) 23 l [] μ1 P := by
    intro l μ1 h0 hf hz nok
    refine bk_mM_feed_23 h0 ⟨fun _ => s69b l μ1 h0 hf hz nok, fun _ => ⟨fun _ => s69b l μ1 h0 hf hz nok, fun w => ?_⟩⟩
    rw [hz] at w; exact absurd w (by decide)
  refine bk_mM_feed_0 l0 ?_
  rw [l3]
  refine ⟨fun w μ1 e => s23b _ μ1 l0 (by rw [e]; exact f0.mu) (by rw [e, ab_mud, if_pos ⟨rfl, rfl⟩]) (fun ok => ?_), fun w => ⟨fun w2 μ1 e => ?_, fun w2 μ1 e => s23b _ μ1 l0 (by rw [e]; exact f0.mu) (by rw [e, ab_mud, if_pos ⟨rfl, rfl⟩]) (fun ok => ?_)⟩⟩
  · have := ok.1; omega
  · exact s23 _ _ μ1 0 l0 l1 l3 rfl w w2 (by omega) (by omega) rfl (by rw [e]; exact f0.mu) (Or.inr ⟨by rw [e, ab_mud, if_pos ⟨rfl, rfl⟩], fun j a b => by omega⟩)
  · have := ok.2.1; omega
end M25

/-! THE REFERENCE, part 26: cutWords -/
section M26
variable {X : jm_X} {d : Nat} {P : Int → ab_m → Prop}
def cSm (b : Int) : Prop := 97 ≤ b ∧ b ≤ 122
def cFi (b : Int) : Prop := 48 ≤ b ∧ b ≤ 57
theorem c_mM_isSmall {μ : ab_m} {b : Int} (h1 : cSm b → P 1 μ) (h0 : ¬ cSm b → P 0 μ) : jj_mM_isSmall X d 0 (ab_la [b]) [] μ P := by
  refine bk_mM_isSmall_0 ?_
  simp only [la0]
  exact ⟨fun h => h0 (fun q => by unfold cSm at q; omega), fun h => ⟨fun w => h0 (fun q => by unfold cSm at q; omega), fun w => h1 ⟨h, w⟩⟩⟩
theorem c_mM_isFigure {μ : ab_m} {b : Int} (h1 : cFi b → P 1 μ) (h0 : ¬ cFi b → P 0 μ) : jj_mM_isFigure X d 0 (ab_la [b]) [] μ P := by
  refine bk_mM_isFigure_0 ?_
  simp only [la0]
  exact ⟨fun h => h0 (fun q => by unfold cFi at q; omega), fun h => ⟨fun w => h0 (fun q => by unfold cFi at q; omega), fun w => h1 ⟨h, w⟩⟩⟩
theorem c_mM_byteAt {μ : ab_m} {i : Int} (ht : μ 109 2 ≤ 3000) (hi : 0 ≤ i) (h0 : μ 109 2 ≤ i → P 0 μ) (h1 : i < μ 109 2 → P (μ 110 i) μ) : jj_mM_byteAt X d 0 (ab_la [109, i]) [] μ P := by
  refine bk_mM_byteAt_0 rfl ?_
  simp only [la1]
  exact ⟨h0, fun w => ⟨by omega, h1 w⟩⟩
theorem c_mM_pairOf {μ : ab_m} {b c : Int} (h : ∀ q, P q μ) : jj_mM_pairOf X d 0 (ab_la [b, c]) [] μ P :=
  bk_mM_pairOf_0 ⟨fun _ => ⟨fun _ => ⟨fun _ => ⟨fun _ => ⟨fun _ => ⟨fun _ => h _, fun _ => h _⟩, fun _ => h _⟩, fun _ => h _⟩, fun _ => h _⟩, fun _ => h _⟩, fun _ => ⟨fun _ => ⟨fun _ => ⟨fun _ => ⟨fun _ => h _, fun _ => h _⟩, fun _ => h _⟩, fun _ => h _⟩, fun _ => h _⟩⟩
theorem c_mM_isSign {μ : ab_m} {b : Int} (h1 : 33 ≤ b → P 1 μ) (h0 : P 0 μ) : jj_mM_isSign X d 0 (ab_la [b]) [] μ P := by
  refine bk_mM_isSign_0 ?_
  simp only [la0]
  refine ⟨?_, fun _ => h0⟩
  repeat' apply And.intro
  all_goals first | exact fun _ => h0 | exact fun w => h1 (by omega) | exact trivial
theorem c_mM_keyOf {μ : ab_m} {w z : Int} (h : ∀ q, 1 ≤ q → P q μ) : jj_mM_keyOf X d 0 (ab_la [w, z]) [] μ P := by
  refine bk_mM_keyOf_0 ?_
  repeat' (first | (intro _; exact h _ (by decide)) | apply And.intro | intro _)
/-- what cutWords writes -/
def fCw (μ μ' : ab_m) : Prop := ∀ c i, (c < 111 ∨ 114 < c) → ¬ (c = 109 ∧ i = 7) → μ' c i = μ c i
theorem fCw.mu {μ μ' : ab_m} {a j v : Int} (h : fCw μ μ') (ha : (111 ≤ a ∧ a ≤ 114) ∨ (a = 109 ∧ j = 7)) : fCw μ (ab_mu μ' a j v) := by
  intro c i g1 g2
  rw [ab_mud, if_neg (by omega)]
  exact h c i g1 g2
/-- the words lie -/
def mWd (μ : ab_m) (W : Int) : Prop := μ 109 7 = W ∧ (∀ k, 0 ≤ k → k < W → 1 ≤ μ 111 k)
theorem c_mM_cutWords {μ : ab_m} (ht : 0 ≤ μ 109 2 ∧ μ 109 2 ≤ 3000) (hP : ∀ μ' W, fCw μ μ' → mWd μ' W → 0 ≤ W → W ≤ 3000 → μ' 111 W = 0 → μ' 111 (W + 1) = 0 → P 0 μ') : jj_mM_cutWords X (d + 1) 0 (ab_la [109]) [] μ P := by
  generalize hT : μ 109 2 = T at ht
  have tt : ∀ μ1, fCw μ μ1 → μ1 109 2 = T := fun μ1 h => by rw [h 109 2 (by omega) (by omega)]; exact hT
  -- one word more
  have s7 : ∀ (m : Nat) (l : ab_l) (μ1 : ab_m) (a W : Int), l 0 = 109 → l 1 = a → 0 ≤ a → a ≤ T + 1 → (T + 1 - a).toNat = m → fCw μ μ1 → mWd μ1 W → 0 ≤ W → W ≤ a → W ≤ T → jj_mM_cutWords X (d + 1) 7 l [] μ1 P := by
    intro m
    induction m using Nat.strongRecOn with
    | ind m ih =>
      intro l μ1 a W h0 h1 ha haT hm hf hw hW0 hWa hWT
      refine bk_mM_cutWords_7 h0 ?_
      have w7 := hw.1
      simp only [h1, tt μ1 hf, w7]
      refine ⟨fun _ => ⟨by omega, fun μ2 e2 => ?_⟩, fun hlt => ⟨by omega, fun _ => ?_, fun _ => ⟨fun _ => ⟨by omega, fun μ2 e2 => ?_⟩, fun _ => ?_⟩⟩⟩
      · have g2 : μ2 109 7 = W := by rw [e2, mu_ne (by decide)]; exact w7
        rw [g2]
        refine ⟨by omega, fun μ3 e3 => ?_⟩
        have g3 : μ3 109 7 = W := by rw [e3, mu_ne (by decide)]; exact g2
        rw [g3, show ab_w (W + 1) = W + 1 from ab_wi (by omega) (by omega)]
        refine ⟨by omega, fun μ4 e4 => ?_⟩
        have g4 : μ4 109 7 = W := by rw [e4, mu_ne (by decide)]; exact g3
        rw [g4, show ab_w (W + 1) = W + 1 from ab_wi (by omega) (by omega)]
        refine ⟨by omega, fun μ5 e5 => hP μ5 W ?_ ⟨?_, fun k x y => ?_⟩ hW0 (by omega) ?_ ?_⟩
        · rw [e5, e4, e3, e2]; exact (((hf.mu (by omega)).mu (by omega)).mu (by omega)).mu (by omega)
        · rw [e5, mu_ne (by decide)]; exact g4
        · rw [e5, mu_ne (by decide), e4, ab_mud, if_neg (by omega), e3, mu_ne (by decide), e2, ab_mud, if_neg (by omega)]; exact hw.2 k x y
        · rw [e5, mu_ne (by decide), e4, ab_mud, if_neg (by omega), e3, mu_ne (by decide), e2, ab_mud, if_pos ⟨rfl, rfl⟩]
        · rw [e5, mu_ne (by decide), e4, ab_mud, if_pos ⟨rfl, rfl⟩]
      · rw [show ab_w (a + 1) = a + 1 from ab_wi (by omega) (by omega)]
        exact ih _ (by omega) _ μ1 (a + 1) W h0 rfl (by omega) (by omega) rfl hf hw hW0 (by omega) hWT
      · -- a word begins
        have f2 : fCw μ μ2 := by rw [e2]; exact hf.mu (by omega)
        have w2 : mWd μ2 W := ⟨by rw [e2, mu_ne (by decide)]; exact w7, fun k x y => by rw [e2, mu_ne (by decide)]; exact hw.2 k x y⟩
        have b2 : ∀ j, μ2 110 j = μ1 110 j := fun j => by rw [e2, mu_ne (by decide)]
        have one : ∀ (μ3 μ4 : ab_m) (v : Int), fCw μ μ3 → (∀ k, 0 ≤ k → k < W → 1 ≤ μ3 111 k) → 1 ≤ v → μ3 111 W = v → μ3 109 7 = W → μ4 = ab_mu μ3 109 7 (ab_w (μ3 109 7 + 1)) → ∀ (l' : ab_l) (a' : Int), l' 0 = 109 → l' 1 = a' → a < a' → a' ≤ T + 1 → jj_mM_cutWords X (d + 1) 7 l' [] μ4 P := by
          intro μ3 μ4 v f3 k3 v1 v3 q3 e4 l' a' c0 c1 c2 c3
          refine ih _ (by omega) l' μ4 a' (W + 1) c0 c1 (by omega) c3 rfl (by rw [e4]; exact f3.mu (by omega)) ⟨?_, fun k x y => ?_⟩ (by omega) (by omega) (by omega)
          · rw [e4, ab_mud, if_pos ⟨rfl, rfl⟩, q3]; exact ab_wi (by omega) (by omega)
          · rw [e4, mu_ne (by decide)]
            by_cases e : k = W
            · rw [e, v3]; exact v1
            · exact k3 k x (by omega)
        have s62 : ∀ (m2 : Nat) (l' : ab_l) (a' : Int), l' 0 = 109 → l' 1 = a' → a ≤ a' → a' ≤ T → (a' = a → cSm (μ2 110 a)) → (T - a').toNat = m2 → jj_mM_cutWords X (d + 1) 62 l' [] μ2 P := by
          intro m2
          induction m2 using Nat.strongRecOn with
          | ind m2 ih2 =>
            intro l' a' c0 c1 c2 c3 c4 hm2
            have s84 : a' < T → jj_mM_cutWords X (d + 1) 84 l' [] μ2 P := fun lt => by
              refine bk_mM_cutWords_84 c0 ?_
              simp only [c1]
              rw [show ab_w (a' + 1) = a' + 1 from ab_wi (by omega) (by omega)]
              exact c_mM_byteAt (by rw [tt μ2 f2]; omega) (by omega) (fun _ => ih2 _ (by omega) _ (a' + 1) c0 rfl (by omega) (by omega) (fun e => by omega) rfl) (fun _ => ih2 _ (by omega) _ (a' + 1) c0 rfl (by omega) (by omega) (fun e => by omega) rfl)
            -- the word ends here
            have en : a < a' → ∀ l'' : ab_l, l'' 0 = 109 → l'' 1 = a' → (0 ≤ W ∧ W < 3002) ∧ ∀ μ13, μ13 = ab_mu μ2 114 W (l' 3) → (l' 5 ≤ 8 → jj_mM_keyOf X d 0 (ab_la [l' 3, 0]) [] μ13 (fun r15 μ14 => ((0 : Int) ≤ μ13 109 7 ∧ (μ13 109 7 : Int) < 3002) ∧ ∀ μ17, μ17 = ab_mu μ14 111 (μ13 109 7) r15 → ∀ μ18, μ18 = ab_mu μ17 109 7 (ab_w ((μ17 109 7) + 1)) → jj_mM_cutWords X (d + 1) 7 l'' [] μ18 P)) ∧ (8 < l' 5 → ((0 : Int) ≤ μ13 109 7 ∧ (μ13 109 7 : Int) < 3002) ∧ ∀ μ21, μ21 = ab_mu μ13 111 (μ13 109 7) 3 → ∀ μ22, μ22 = ab_mu μ21 109 7 (ab_w ((μ21 109 7) + 1)) → jj_mM_cutWords X (d + 1) 7 l'' [] μ22 P) := by
              intro lt l'' x0 x1
              refine ⟨by omega, fun μ13 e13 => ?_⟩
              have g13 : μ13 109 7 = W := by rw [e13, mu_ne (by decide)]; exact w2.1
              have put : ∀ (v : Int) (μ17 : ab_m), 1 ≤ v → μ17 = ab_mu μ13 111 W v → ∀ μ18, μ18 = ab_mu μ17 109 7 (ab_w ((μ17 109 7) + 1)) → jj_mM_cutWords X (d + 1) 7 l'' [] μ18 P := fun v μ17 hv e17 μ18 e18 => one μ17 μ18 v (by rw [e17, e13]; exact (f2.mu (by omega)).mu (by omega)) (fun k x y => by rw [e17, ab_mud, if_neg (by omega), e13, mu_ne (by decide)]; exact w2.2 k x y) hv (by rw [e17, ab_mud, if_pos ⟨rfl, rfl⟩]) (by rw [e17, mu_ne (by decide)]; exact g13) e18 l'' a' x0 x1 lt (by omega)
              rw [g13]
              exact ⟨fun _ => c_mM_keyOf fun q hq => ⟨by omega, fun μ17 e17 => put q μ17 hq e17⟩, fun _ => ⟨by omega, fun μ21 e21 => put 3 μ21 (by decide) e21⟩⟩
            refine bk_mM_cutWords_62 c0 ?_
            simp only [c1]
            have w72 := w2.1
            have z0 : ¬ cSm 0 := fun q => by unfold cSm at q; omega
            have z1 : ¬ cFi 0 := fun q => by unfold cFi at q; omega
            have t2 := tt μ2 f2
            refine c_mM_byteAt (by omega) (by omega) (fun ge => ?_) (fun lt => ?_)
            · refine c_mM_isSmall (fun q => absurd q z0) (fun _ => ⟨fun w => absurd rfl w, fun _ => ?_⟩)
              refine c_mM_byteAt (by omega) (by omega) (fun _ => ?_) (fun lt => by omega)
              refine c_mM_isFigure (fun q => absurd q z1) (fun _ => ⟨fun _ => ?_, fun w => absurd rfl w⟩)
              rw [w72]
              exact en (by omega) l' c0 c1
            · refine c_mM_isSmall (fun q => ⟨fun _ => s84 (by omega), fun w => absurd w (by decide)⟩) (fun ns => ⟨fun w => absurd rfl w, fun _ => ?_⟩)
              refine c_mM_byteAt (by omega) (by omega) (fun _ => by omega) (fun _ => ?_)
              refine c_mM_isFigure (fun q => ⟨fun w => absurd w (by decide), fun _ => s84 (by omega)⟩) (fun _ => ⟨fun _ => ?_, fun w => absurd rfl w⟩)
              rw [w72]
              refine en ?_ l' c0 c1
              by_cases e : a' = a
              · exact absurd (by rw [e]; exact c4 e) ns
              · omega
        have s218 : ∀ (l' : ab_l) (a' v : Int), l' 0 = 109 → l' 1 = a' → a < a' → a' ≤ T → 1 ≤ v → jj_mM_cutWords X (d + 1) 218 l' [(0, v), (0, W), (2, 111)] μ2 P := by
          intro l' a' v c0 c1 c2 c3 hv
          refine bk_mM_cutWords_218 c0 ⟨by omega, fun μ3 e3 => ?_⟩
          have g3 : μ3 109 7 = W := by rw [e3, mu_ne (by decide)]; exact w2.1
          rw [g3]
          refine ⟨by omega, fun μ4 e4 μ5 e5 => ?_⟩
          exact one μ4 μ5 v (by rw [e4, e3]; exact (f2.mu (by omega)).mu (by omega)) (fun k x y => by rw [e4, mu_ne (by decide), e3, ab_mud, if_neg (by omega)]; exact w2.2 k x y) hv (by rw [e4, mu_ne (by decide), e3, ab_mud, if_pos ⟨rfl, rfl⟩]) (by rw [e4, mu_ne (by decide)]; exact g3) e5 l' a' c0 c1 c2 (by omega)
        have s151 : ∀ (m2 : Nat) (l' : ab_l) (a' : Int), l' 0 = 109 → l' 1 = a' → a ≤ a' → a' ≤ T → (a' = a → cFi (μ2 110 a)) → (T - a').toNat = m2 → jj_mM_cutWords X (d + 1) 151 l' [] μ2 P := by
          intro m2
          induction m2 using Nat.strongRecOn with
          | ind m2 ih2 =>
            intro l' a' c0 c1 c2 c3 c4 hm2
            have t2 := tt μ2 f2
            have z1 : ¬ cFi 0 := fun q => by unfold cFi at q; omega
            refine bk_mM_cutWords_151 c0 ?_
            simp only [c1]
            rw [show ab_w (a' + 1) = a' + 1 from ab_wi (by omega) (by omega)]
            have nx : ∀ l'' : ab_l, l'' 0 = 109 → l'' 1 = a' + 1 → a' < T → jj_mM_cutWords X (d + 1) 151 l'' [] μ2 P := fun l'' x0 x1 x2 => ih2 _ (by omega) l'' (a' + 1) x0 x1 (by omega) (by omega) (fun e => by omega) rfl
            have w72 := w2.1
            refine c_mM_byteAt (by omega) (by omega) (fun ge => ?_) (fun lt => ?_)
            · refine c_mM_isFigure (fun q => absurd q z1) (fun _ => ⟨fun _ => ?_, fun w => absurd rfl w⟩)
              rw [w72]
              exact ⟨fun _ => s218 l' a' 2 c0 c1 (by omega) c3 (by decide), fun _ => s218 l' a' 3 c0 c1 (by omega) c3 (by decide)⟩
            · refine c_mM_isFigure (fun q => ⟨fun w => absurd w (by decide), fun _ => ⟨fun _ => ?_, fun _ => nx _ c0 rfl (by omega)⟩⟩) (fun nf => ⟨fun _ => ?_, fun w => absurd rfl w⟩)
              · exact c_mM_byteAt (by omega) (by omega) (fun _ => nx _ c0 rfl (by omega)) (fun _ => nx _ c0 rfl (by omega))
              · rw [w72]
                have lt2 : a < a' := by
                  by_cases e : a' = a
                  · exact absurd (by rw [e]; exact c4 e) nf
                  · omega
                exact ⟨fun _ => s218 l' a' 2 c0 c1 lt2 c3 (by decide), fun _ => s218 l' a' 3 c0 c1 lt2 c3 (by decide)⟩
        have s273 : ∀ (l' : ab_l) (v : Int), l' 0 = 109 → l' 1 = a → 1 ≤ v → jj_mM_cutWords X (d + 1) 273 l' [(0, v), (0, W), (2, 111)] μ2 P := by
          intro l' v c0 c1 hv
          refine bk_mM_cutWords_273 c0 ⟨by omega, fun μ3 e3 => ?_⟩
          simp only [c1]
          rw [show ab_w (a + 1) = a + 1 from ab_wi (by omega) (by omega), show ab_w (a + 2) = a + 2 from ab_wi (by omega) (by omega)]
          have g3 : μ3 109 7 = W := by rw [e3, mu_ne (by decide)]; exact w2.1
          have go : ∀ μ4, μ4 = ab_mu μ3 109 7 (ab_w (μ3 109 7 + 1)) → ∀ (l'' : ab_l) (a' : Int), l'' 0 = 109 → l'' 1 = a' → a < a' → a' ≤ T + 1 → jj_mM_cutWords X (d + 1) 7 l'' [] μ4 P := fun μ4 e4 => one μ3 μ4 v (by rw [e3]; exact f2.mu (by omega)) (fun k x y => by rw [e3, ab_mud, if_neg (by omega)]; exact w2.2 k x y) hv (by rw [e3, ab_mud, if_pos ⟨rfl, rfl⟩]) g3 e4
          exact ⟨fun _ μ4 e4 => go μ4 e4 _ (a + 1) c0 rfl (by omega) (by omega), fun _ μ4 e4 => go μ4 e4 _ (a + 2) c0 rfl (by omega) (by omega)⟩
        rw [show ab_w (a + 1) = a + 1 from ab_wi (by omega) (by omega)]
        have t2 := tt μ2 f2
        have w72 := w2.1
        refine c_mM_isSmall (fun q => ⟨fun w => absurd w (by decide), fun _ => s62 _ _ a h0 h1 (by omega) (by omega) (fun _ => by rw [b2]; exact q) rfl⟩) (fun _ => ⟨fun _ => ?_, fun w => absurd rfl w⟩)
        refine c_mM_isFigure (fun q => ⟨fun w => absurd w (by decide), fun _ => s151 _ _ a h0 h1 (by omega) (by omega) (fun _ => by rw [b2]; exact q) rfl⟩) (fun _ => ⟨fun _ => ?_, fun w => absurd rfl w⟩)
        have pr : ∀ c, jj_mM_pairOf X d 0 (ab_la [μ1 110 a, c]) [] μ2 (fun r20 μ19 => (r20 ≤ 0 → jj_mM_isSign X d 0 (ab_la [μ1 110 a]) [] μ19 (fun r23 μ22 => (r23 = 0 → jj_mM_cutWords X (d + 1) 273 (ab_up (ab_up l 2 (μ1 110 a)) 3 r20) [(0, 3), (0, μ19 109 7), (2, 111)] μ22 P) ∧ (r23 ≠ 0 → jj_mM_cutWords X (d + 1) 273 (ab_up (ab_up l 2 (μ1 110 a)) 3 r20) [(0, μ1 110 a), (0, μ19 109 7), (2, 111)] μ22 P))) ∧ (0 < r20 → jj_mM_cutWords X (d + 1) 273 (ab_up (ab_up l 2 (μ1 110 a)) 3 r20) [(0, r20), (0, μ19 109 7), (2, 111)] μ19 P)) := fun c => by
          refine c_mM_pairOf fun q => ?_
          rw [w72]
          exact ⟨fun _ => c_mM_isSign (fun b33 => ⟨fun w => absurd w (by decide), fun _ => s273 _ _ h0 h1 (by omega)⟩) ⟨fun _ => s273 _ _ h0 h1 (by decide), fun w => absurd rfl w⟩, fun w => s273 _ _ h0 h1 (by omega)⟩
        exact c_mM_byteAt (by omega) (by omega) (fun _ => pr _) (fun _ => pr _)
      · rw [show ab_w (a + 1) = a + 1 from ab_wi (by omega) (by omega)]
        exact ih _ (by omega) _ μ1 (a + 1) W h0 rfl (by omega) (by omega) rfl hf hw hW0 (by omega) hWT
  refine bk_mM_cutWords_0 rfl fun μ1 e1 => ?_
  exact s7 _ _ μ1 0 0 rfl rfl (by omega) (by omega) rfl (fun c i a b => by rw [e1, ab_mud, if_neg (by omega)]) ⟨by rw [e1, ab_mud, if_pos ⟨rfl, rfl⟩], fun k x y => by omega⟩ (by omega) (by omega) (by omega)
end M26

/-! THE REFERENCE, part 27: the reader's small methods -/
section M27
variable {X : jm_X} {d : Nat} {P : Int → ab_m → Prop}
/-- a fault was found: mode, fault and its word alone -/
def mFl (μ μ' : ab_m) : Prop := (∀ c j, ¬ (c = 109 ∧ (j = 39 ∨ j = 43 ∨ j = 44)) → μ' c j = μ c j) ∧ μ' 109 39 = 5 ∧ 1 ≤ μ' 109 43 ∧ μ' 109 43 ≤ 6 ∧ 0 ≤ μ' 109 44 ∧ μ' 109 44 < 3002
/-- one field alone -/
def mF1 (a : Int) (μ μ' : ab_m) : Prop := ∀ c j, ¬ (c = 109 ∧ j = a) → μ' c j = μ c j
theorem mF1.mu {μ : ab_m} {a v : Int} : mF1 a μ (ab_mu μ 109 a v) := fun c j h => by rw [ab_mud, if_neg h]
theorem c_mM_fail {μ : ab_m} {k w : Int} (h0 : μ 109 43 = 0) (hk : 1 ≤ k ∧ k ≤ 6) (hw : 0 ≤ w ∧ w < 3002) (hP : ∀ μ', mFl μ μ' → P 0 μ') : jj_mM_fail X d 0 (ab_la [109, k, w]) [] μ P := by
  refine bk_mM_fail_0 rfl ⟨fun q => absurd h0 q, fun _ μ3 e3 μ4 e4 μ5 e5 => hP μ5 ⟨fun c j a => ?_, ?_, ?_⟩⟩
  · rw [e5, ab_mud, if_neg (by omega), e4, ab_mud, if_neg (by omega), e3, ab_mud, if_neg (by omega)]
  · rw [e5, ab_mud, if_pos ⟨rfl, rfl⟩]
  · have g1 : μ5 109 43 = k := by rw [e5, ab_mud, if_neg (by omega), e4, ab_mud, if_neg (by omega), e3, ab_mud, if_pos ⟨rfl, rfl⟩]; rfl
    have g2 : μ5 109 44 = w := by rw [e5, ab_mud, if_neg (by omega), e4, ab_mud, if_pos ⟨rfl, rfl⟩]; rfl
    rw [g1, g2]
    exact ⟨hk.1, hk.2, hw⟩
theorem c_mM_misfit {μ : ab_m} (h0 : μ 109 43 = 0) (ha : 0 ≤ μ 109 40 ∧ μ 109 40 < 3002) (hP : ∀ μ', mFl μ μ' → P 0 μ') : jj_mM_misfit X (d + 1) 0 (ab_la [109]) [] μ P :=
  bk_mM_misfit_0 rfl ⟨ha, fun _ => c_mM_fail h0 (by decide) ha hP, fun _ => c_mM_fail h0 (by decide) ha hP⟩
theorem c_mM_take {μ : ab_m} {k : Int} (h0 : μ 109 43 = 0) (ha : 0 ≤ μ 109 40 ∧ μ 109 40 < 3002) (h1 : μ 111 (μ 109 40) = k → ∀ μ', mF1 40 μ μ' → μ' 109 40 = μ 109 40 + 1 → P 1 μ') (hF : ∀ μ', mFl μ μ' → P 0 μ') : jj_mM_take X (d + 2) 0 (ab_la [109, k]) [] μ P := by
  refine bk_mM_take_0 rfl ⟨ha, fun q μ1 e => ?_, fun _ => c_mM_misfit h0 ha hF⟩
  exact h1 q μ1 (by rw [e]; exact mF1.mu) (by rw [e, ab_mud, if_pos ⟨rfl, rfl⟩]; exact ab_wi (by omega) (by omega))
theorem c_mM_opens {μ : ab_m} (h0 : μ 109 43 = 0) (ha : 0 ≤ μ 109 40 ∧ μ 109 40 < 3002) (ho : 0 ≤ μ 109 41 ∧ μ 109 41 ≤ 24) (h1 : μ 109 41 < 24 → ∀ μ', mF1 41 μ μ' → μ' 109 41 = μ 109 41 + 1 → P 1 μ') (hF : ∀ μ', mFl μ μ' → P 0 μ') : jj_mM_opens X (d + 1) 0 (ab_la [109]) [] μ P := by
  refine bk_mM_opens_0 rfl ⟨fun q μ1 e => ?_, fun _ => c_mM_fail h0 (by decide) ha hF⟩
  exact h1 (by omega) μ1 (by rw [e]; exact mF1.mu) (by rw [e, ab_mud, if_pos ⟨rfl, rfl⟩]; exact ab_wi (by omega) (by omega))
theorem c_mM_takeOpen {μ : ab_m} {k : Int} (h0 : μ 109 43 = 0) (ha : 0 ≤ μ 109 40 ∧ μ 109 40 < 3002) (ho : 0 ≤ μ 109 41 ∧ μ 109 41 ≤ 24) (h1 : μ 111 (μ 109 40) = k → μ 109 41 < 24 → ∀ μ', (∀ c j, ¬ (c = 109 ∧ (j = 40 ∨ j = 41)) → μ' c j = μ c j) → μ' 109 40 = μ 109 40 + 1 → μ' 109 41 = μ 109 41 + 1 → P 1 μ') (hF : ∀ μ', mFl μ μ' → P 0 μ') : jj_mM_takeOpen X (d + 2) 0 (ab_la [109, k]) [] μ P := by
  refine bk_mM_takeOpen_0 rfl ⟨ha, fun q => c_mM_opens h0 ha ho (fun lt μ1 f1 e1 => ⟨fun _ μ4 e4 => ?_, fun w => absurd w (by decide)⟩) (fun μ1 f1 => ⟨fun w => absurd rfl w, fun _ => hF μ1 f1⟩), fun _ => c_mM_misfit h0 ha hF⟩
  have g : μ1 109 40 = μ 109 40 := f1 109 40 (by omega)
  refine h1 q lt μ4 (fun c j a => ?_) ?_ ?_
  · rw [e4, ab_mud, if_neg (by omega)]; exact f1 c j (by omega)
  · rw [e4, ab_mud, if_pos ⟨rfl, rfl⟩, g]; exact ab_wi (by omega) (by omega)
  · rw [e4, ab_mud, if_neg (by omega)]; exact e1
theorem c_mM_takeClose {μ : ab_m} {k : Int} (h0 : μ 109 43 = 0) (ha : 0 ≤ μ 109 40 ∧ μ 109 40 < 3002) (ho : 0 ≤ μ 109 41 ∧ μ 109 41 ≤ 24) (h1 : μ 111 (μ 109 40) = k → ∀ μ', (∀ c j, ¬ (c = 109 ∧ (j = 40 ∨ j = 41)) → μ' c j = μ c j) → μ' 109 40 = μ 109 40 + 1 → μ' 109 41 = μ 109 41 - 1 → P 1 μ') (hF : ∀ μ', mFl μ μ' → P 0 μ') : jj_mM_takeClose X (d + 3) 0 (ab_la [109, k]) [] μ P := by
  refine bk_mM_takeClose_0 rfl ?_
  refine c_mM_take h0 ha (fun q μ1 f1 e1 => ⟨fun _ μ4 e4 => ?_, fun w => absurd w (by decide)⟩) (fun μ1 f1 => ⟨fun w => absurd rfl w, fun _ => hF μ1 f1⟩)
  have g : μ1 109 41 = μ 109 41 := f1 109 41 (by omega)
  refine h1 q μ4 (fun c j a => ?_) ?_ ?_
  · rw [e4, ab_mud, if_neg (by omega)]; exact f1 c j (by omega)
  · rw [e4, ab_mud, if_neg (by omega)]; exact e1
  · rw [e4, ab_mud, if_pos ⟨rfl, rfl⟩, g]; exact ab_wi (by omega) (by omega)
/-- one more lies on the pile -/
def mPu (μ μ' : ab_m) (k a b : Int) : Prop := (∀ c j, ¬ (129 ≤ c ∧ c ≤ 133 ∧ j = μ 109 38) → ¬ (c = 109 ∧ j = 38) → μ' c j = μ c j) ∧ μ' 109 38 = μ 109 38 + 1 ∧ μ' 129 (μ 109 38) = k ∧ μ' 130 (μ 109 38) = a ∧ μ' 131 (μ 109 38) = b ∧ μ' 132 (μ 109 38) = -1 ∧ μ' 133 (μ 109 38) = -1
theorem c_mM_push {μ : ab_m} {k a b : Int} (hp : 0 ≤ μ 109 38 ∧ μ 109 38 < 3010) (hP : ∀ μ', mPu μ μ' k a b → P 0 μ') : jj_mM_push X d 0 (ab_la [109, k, a, b]) [] μ P := by
  refine bk_mM_push_0 rfl ?_
  generalize hq : μ 109 38 = p at hp
  refine ⟨hp, fun μ1 e1 => ?_⟩
  have g1 : μ1 109 38 = p := by rw [e1, mu_ne (by decide)]; exact hq
  rw [g1]
  refine ⟨hp, fun μ2 e2 => ?_⟩
  have g2 : μ2 109 38 = p := by rw [e2, mu_ne (by decide)]; exact g1
  rw [g2]
  refine ⟨hp, fun μ3 e3 => ?_⟩
  have g3 : μ3 109 38 = p := by rw [e3, mu_ne (by decide)]; exact g2
  rw [g3]
  refine ⟨hp, fun μ4 e4 => ?_⟩
  have g4 : μ4 109 38 = p := by rw [e4, mu_ne (by decide)]; exact g3
  rw [g4]
  refine ⟨hp, fun μ5 e5 μ6 e6 => hP μ6 ?_⟩
  have g5 : μ5 109 38 = p := by rw [e5, mu_ne (by decide)]; exact g4
  unfold mPu
  rw [hq]
  refine ⟨fun c j x y => ?_, ?_, ?_, ?_, ?_, ?_, ?_⟩
  · rw [e6, ab_mud, if_neg y, e5, ab_mud, if_neg (by omega), e4, ab_mud, if_neg (by omega), e3, ab_mud, if_neg (by omega), e2, ab_mud, if_neg (by omega), e1, ab_mud, if_neg (by omega)]
  · rw [e6, ab_mud, if_pos ⟨rfl, rfl⟩, g5]; exact ab_wi (by omega) (by omega)
  · rw [e6, mu_ne (by decide), e5, mu_ne (by decide), e4, mu_ne (by decide), e3, mu_ne (by decide), e2, mu_ne (by decide), e1, ab_mud, if_pos ⟨rfl, rfl⟩]; rfl
  · rw [e6, mu_ne (by decide), e5, mu_ne (by decide), e4, mu_ne (by decide), e3, mu_ne (by decide), e2, ab_mud, if_pos ⟨rfl, rfl⟩]; rfl
  · rw [e6, mu_ne (by decide), e5, mu_ne (by decide), e4, mu_ne (by decide), e3, ab_mud, if_pos ⟨rfl, rfl⟩]; rfl
  · rw [e6, mu_ne (by decide), e5, mu_ne (by decide), e4, ab_mud, if_pos ⟨rfl, rfl⟩]
  · rw [e6, mu_ne (by decide), e5, ab_mud, if_pos ⟨rfl, rfl⟩]
theorem c_mM_top {μ : ab_m} (hp : 1 ≤ μ 109 38 ∧ μ 109 38 ≤ 3010) (hP : P (μ 129 (μ 109 38 - 1)) μ) : jj_mM_top X d 0 (ab_la [109]) [] μ P := by
  refine bk_mM_top_0 rfl ?_
  rw [show ab_w (μ 109 38 - 1) = μ 109 38 - 1 from ab_wi (by omega) (by omega)]
  exact ⟨by omega, hP⟩
/-- one more step of half h at place n -/
def mSp (μ μ' : ab_m) (k t o : Int) : Prop := (∀ c j, ¬ (115 ≤ c ∧ c ≤ 117 ∧ j = 9000 * μ 109 20 + μ 109 21) → ¬ (c = 109 ∧ j = 21) → μ' c j = μ c j) ∧ μ' 109 21 = μ 109 21 + 1 ∧ μ' 115 (9000 * μ 109 20 + μ 109 21) = k ∧ μ' 116 (9000 * μ 109 20 + μ 109 21) = t ∧ μ' 117 (9000 * μ 109 20 + μ 109 21) = o
theorem c_mM_step0 {μ : ab_m} {k t : Int} (h : μ 109 22 = 0) (hP : P 0 μ) : jj_mM_step X d 0 (ab_la [109, k, t]) [] μ P :=
  bk_mM_step_0 rfl ⟨fun w => absurd h w, fun _ => hP⟩
theorem c_mM_step {μ : ab_m} {k t : Int} (h : μ 109 22 = 1) (hh : μ 109 20 = 0 ∨ μ 109 20 = 1) (hn : 0 ≤ μ 109 21 ∧ μ 109 21 < 9000) (hP : ∀ μ', mSp μ μ' k t 0 → P (μ 109 21) μ') : jj_mM_step X d 0 (ab_la [109, k, t]) [] μ P := by
  refine bk_mM_step_0 rfl ⟨fun _ => ?_, fun w => by omega⟩
  generalize hq : μ 109 21 = n at hn
  generalize hg : μ 109 20 = g at hh
  rw [show ab_w (9000 * g) = 9000 * g from ab_wi (by omega) (by omega), show ab_w (9000 * g + n) = 9000 * g + n from ab_wi (by omega) (by omega)]
  refine ⟨by omega, fun μ1 e1 => ⟨by omega, fun μ2 e2 => ⟨by omega, fun μ3 e3 μ4 e4 => ?_⟩⟩⟩
  have g3 : μ3 109 21 = n := by rw [e3, mu_ne (by decide), e2, mu_ne (by decide), e1, mu_ne (by decide)]; exact hq
  have g4 : μ4 109 21 = n + 1 := by rw [e4, ab_mud, if_pos ⟨rfl, rfl⟩, g3]; exact ab_wi (by omega) (by omega)
  rw [g4, show ab_w (n + 1 - 1) = n by rw [ab_wi (by omega) (by omega)]; omega]
  rw [← hq]
  refine hP μ4 ?_
  unfold mSp
  rw [hq, hg]
  refine ⟨fun c j x y => ?_, g4, ?_, ?_, ?_⟩
  · rw [e4, ab_mud, if_neg y, e3, ab_mud, if_neg (by omega), e2, ab_mud, if_neg (by omega), e1, ab_mud, if_neg (by omega)]
  · rw [e4, mu_ne (by decide), e3, mu_ne (by decide), e2, mu_ne (by decide), e1, ab_mud, if_pos ⟨rfl, rfl⟩]; rfl
  · rw [e4, mu_ne (by decide), e3, mu_ne (by decide), e2, ab_mud, if_pos ⟨rfl, rfl⟩]; rfl
  · rw [e4, mu_ne (by decide), e3, ab_mud, if_pos ⟨rfl, rfl⟩]; rfl
theorem c_mM_tell {μ : ab_m} {k t : Int} (hh : μ 109 20 = 0 ∨ μ 109 20 = 1) (hk : μ 109 22 = 1 → 0 ≤ k ∧ k < 9000) (h0 : μ 109 22 ≠ 1 → P 0 μ) (hP : μ 109 22 = 1 → ∀ μ', (∀ c j, ¬ (c = 116 ∧ j = 9000 * μ 109 20 + k) → μ' c j = μ c j) → μ' 116 (9000 * μ 109 20 + k) = t → P 0 μ') : jj_mM_tell X d 0 (ab_la [109, k, t]) [] μ P := by
  refine bk_mM_tell_0 rfl ⟨h0, fun w => ?_⟩
  simp only [la1, la2]
  have k9 := hk w
  rw [show ab_w (9000 * μ 109 20) = 9000 * μ 109 20 from ab_wi (by omega) (by omega), show ab_w (9000 * μ 109 20 + k) = 9000 * μ 109 20 + k from ab_wi (by omega) (by omega)]
  exact ⟨by omega, fun μ1 e1 => hP w μ1 (fun c j a => by rw [e1, ab_mud, if_neg a]) (by rw [e1, ab_mud, if_pos ⟨rfl, rfl⟩])⟩
end M27

