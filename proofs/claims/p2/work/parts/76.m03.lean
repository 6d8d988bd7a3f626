/-! THE REFERENCE, part 28: names, blocks, chains -/
section M28
variable {X : jm_X} {d : Nat} {P : Int → ab_m → Prop}
theorem c_mM_isTold {μ : ab_m} {w z : Int} (hn : 0 ≤ μ 109 27 ∧ μ 109 27 ≤ 3002) (h : ∀ q, (q = 0 ∨ q = 1) → P q μ) : jj_mM_isTold X d 0 (ab_la [109, w, z]) [] μ P := by
  have s5 : ∀ (m : Nat) (l : ab_l) (q k : Int), l 0 = 109 → l 3 = q → l 4 = k → (q = 0 ∨ q = 1) → 0 ≤ k → k ≤ μ 109 27 → (μ 109 27 - k).toNat = m → jj_mM_isTold X d 5 l [] μ P := by
    intro m
    induction m using Nat.strongRecOn with
    | ind m ih =>
      intro l q k h0 h3 h4 hq hk hkn hm
      refine bk_mM_isTold_5 h0 ?_
      simp only [h3, h4]
      by_cases hlt : k < μ 109 27
      · rw [show ab_w (k + 1) = k + 1 from ab_wi (by omega) (by omega)]
        have nx : ∀ q', (q' = 0 ∨ q' = 1) → jj_mM_isTold X d 5 (ab_up (ab_up l 3 q') 4 (k + 1)) [] μ P := fun q' hq' => ih _ (by omega) _ q' (k + 1) h0 rfl rfl hq' (by omega) (by omega) rfl
        exact ⟨fun w => by omega, fun _ => ⟨fun _ => nx 1 (Or.inr rfl), fun _ => ⟨by omega, fun _ => nx 0 (Or.inl rfl), fun _ => ⟨by omega, fun _ => nx 0 (Or.inl rfl), fun _ => nx 1 (Or.inr rfl)⟩⟩⟩⟩
      · exact ⟨fun _ => ⟨by omega, h q hq⟩, fun w => by omega⟩
  refine bk_mM_isTold_0 rfl ?_
  exact s5 _ _ 0 0 rfl rfl rfl (Or.inl rfl) (by omega) (by omega) rfl
/-- one more name -/
def mNm (μ μ' : ab_m) (k o : Int) : Prop := (∀ c j, ¬ (125 ≤ c ∧ c ≤ 128 ∧ j = μ 109 27) → ¬ (c = 109 ∧ j = 27) → μ' c j = μ c j) ∧ μ' 109 27 = μ 109 27 + 1 ∧ μ' 126 (μ 109 27) = k ∧ μ' 127 (μ 109 27) = o
theorem c_mM_addName {μ : ab_m} {w z k o : Int} (hn : 0 ≤ μ 109 27 ∧ μ 109 27 < 3002) (hP : ∀ μ', mNm μ μ' k o → P 0 μ') : jj_mM_addName X d 0 (ab_la [109, w, z, k, o]) [] μ P := by
  refine bk_mM_addName_0 rfl ?_
  generalize hq : μ 109 27 = p at hn
  refine ⟨hn, fun μ1 e1 => ?_⟩
  have g1 : μ1 109 27 = p := by rw [e1, mu_ne (by decide)]; exact hq
  rw [g1]
  refine ⟨hn, fun μ2 e2 => ?_⟩
  have g2 : μ2 109 27 = p := by rw [e2, mu_ne (by decide)]; exact g1
  rw [g2]
  refine ⟨hn, fun μ3 e3 => ?_⟩
  have g3 : μ3 109 27 = p := by rw [e3, mu_ne (by decide)]; exact g2
  rw [g3]
  refine ⟨hn, fun μ4 e4 μ5 e5 => hP μ5 ?_⟩
  have g4 : μ4 109 27 = p := by rw [e4, mu_ne (by decide)]; exact g3
  unfold mNm
  rw [hq]
  refine ⟨fun c j x y => ?_, ?_, ?_, ?_⟩
  · rw [e5, ab_mud, if_neg y, e4, ab_mud, if_neg (by omega), e3, ab_mud, if_neg (by omega), e2, ab_mud, if_neg (by omega), e1, ab_mud, if_neg (by omega)]
  · rw [e5, ab_mud, if_pos ⟨rfl, rfl⟩, g4]; exact ab_wi (by omega) (by omega)
  · rw [e5, mu_ne (by decide), e4, mu_ne (by decide), e3, mu_ne (by decide), e2, ab_mud, if_pos ⟨rfl, rfl⟩]; rfl
  · rw [e5, mu_ne (by decide), e4, mu_ne (by decide), e3, ab_mud, if_pos ⟨rfl, rfl⟩]; rfl
theorem c_mM_meaning0 {μ : ab_m} {w k : Int} (h : μ 109 22 = 0) (hP : P 0 μ) : jj_mM_meaning X (d + 1) 0 (ab_la [109, w, k]) [] μ P :=
  bk_mM_meaning_0 rfl ⟨fun q => absurd h q, fun _ => hP⟩
theorem c_mM_meaning {μ : ab_m} {w k : Int} (h1 : μ 109 22 = 1) (h0 : μ 109 43 = 0) (hw : 0 ≤ w ∧ w < 3002) (hn : 0 ≤ μ 109 27 ∧ μ 109 27 ≤ 3002) (hP : ∀ i, 0 ≤ i → i < μ 109 27 → μ 126 i = k → P (μ 127 i) μ) (hF : ∀ μ', mFl μ μ' → P (-1) μ') : jj_mM_meaning X (d + 1) 0 (ab_la [109, w, k]) [] μ P := by
  have s42 : ∀ (l : ab_l) (i : Int), l 0 = 109 → l 1 = w → l 2 = k → l 3 = i → i < μ 109 27 → jj_mM_meaning X (d + 1) 42 l [] μ P := by
    intro l i g0 g1 g2 g3 hi
    refine bk_mM_meaning_42 g0 ?_
    simp only [g1, g2, g3]
    exact ⟨fun _ => c_mM_fail h0 (by decide) hw hF, fun x => ⟨by omega, fun q => ⟨by omega, hP i x hi q⟩, fun _ => c_mM_fail h0 (by decide) hw hF⟩⟩
  have s16 : ∀ (m : Nat) (l : ab_l) (i : Int), l 0 = 109 → l 1 = w → l 2 = k → l 3 = i → -1 ≤ i → i < μ 109 27 → (i + 1).toNat = m → jj_mM_meaning X (d + 1) 16 l [] μ P := by
    intro m
    induction m using Nat.strongRecOn with
    | ind m ih =>
      intro l i g0 g1 g2 g3 hi1 hi hm
      refine bk_mM_meaning_16 g0 ?_
      simp only [g1, g3]
      refine ⟨fun _ => s42 l i g0 g1 g2 g3 hi, fun x => ⟨by omega, hw, fun _ => s42 l i g0 g1 g2 g3 hi, fun _ => ?_⟩⟩
      rw [show ab_w (i + -1) = i - 1 from ab_wi (by omega) (by omega)]
      exact ih _ (by omega) _ (i - 1) g0 g1 g2 rfl (by omega) (by omega) rfl
  refine bk_mM_meaning_0 rfl ⟨fun _ => ?_, fun q => by omega⟩
  rw [show ab_w (μ 109 27 - 1) = μ 109 27 - 1 from ab_wi (by omega) (by omega)]
  exact s16 _ _ (μ 109 27 - 1) rfl rfl rfl rfl (by omega) (by omega) rfl
theorem c_mM_newInt0 {μ : ab_m} {w : Int} (h : μ 109 22 = 0) (hP : P 0 μ) : jj_mM_newInt X (d + 1) 0 (ab_la [109, w]) [] μ P :=
  bk_mM_newInt_0 rfl ⟨fun q => absurd h q, fun _ => hP⟩
theorem c_mM_newInt {μ : ab_m} {w : Int} (h1 : μ 109 22 = 1) (h0 : μ 109 43 = 0) (hw : 0 ≤ w ∧ w < 3002) (hn : 0 ≤ μ 109 27 ∧ μ 109 27 < 3002) (hi : 0 ≤ μ 109 30 ∧ μ 109 30 < 3002) (hP : ∀ μ1 μ', mNm μ μ1 0 (μ 109 30) → mF1 30 μ1 μ' → μ' 109 30 = μ 109 30 + 1 → P (μ 109 30) μ') (hF : ∀ μ', mFl μ μ' → P 0 μ') : jj_mM_newInt X (d + 1) 0 (ab_la [109, w]) [] μ P := by
  refine bk_mM_newInt_0 rfl ⟨fun _ => ⟨hw, ?_⟩, fun q => by omega⟩
  refine c_mM_isTold ⟨hn.1, by omega⟩ fun q hq => ⟨fun _ => ⟨hw, c_mM_addName hn fun μ4 m4 μ7 e7 => ?_⟩, fun _ => c_mM_fail h0 (by decide) hw hF⟩
  have g4 : μ4 109 30 = μ 109 30 := m4.1 109 30 (by omega) (by omega)
  have g7 : μ7 109 30 = μ 109 30 + 1 := by rw [e7, ab_mud, if_pos ⟨rfl, rfl⟩, g4]; exact ab_wi (by omega) (by omega)
  rw [g7, show ab_w (μ 109 30 + 1 - 1) = μ 109 30 by rw [ab_wi (by omega) (by omega)]; omega]
  exact hP μ4 μ7 m4 (by rw [e7]; exact mF1.mu) g7
theorem c_mM_beginBlock {μ : ab_m} (hp : 1 ≤ μ 109 38 ∧ μ 109 38 ≤ 3010) (hb : 0 ≤ μ 109 28 ∧ μ 109 28 ≤ 6000) (hP : ∀ μ', (∀ c j, ¬ ((c = 130 ∨ c = 131) ∧ j = μ 109 38 - 1) → ¬ (c = 109 ∧ (j = 28 ∨ j = 29)) → μ' c j = μ c j) → μ' 130 (μ 109 38 - 1) = μ 109 27 → μ' 131 (μ 109 38 - 1) = μ 109 29 → μ' 109 28 = μ 109 28 + 1 → P 0 μ') : jj_mM_beginBlock X d 0 (ab_la [109]) [] μ P := by
  refine bk_mM_beginBlock_0 rfl ?_
  rw [show ab_w (μ 109 38 - 1) = μ 109 38 - 1 from ab_wi (by omega) (by omega)]
  refine ⟨by omega, fun μ1 e1 => ?_⟩
  have g1 : ∀ j, μ1 109 j = μ 109 j := fun j => by rw [e1, mu_ne (by decide)]
  rw [g1, g1, show ab_w (μ 109 38 - 1) = μ 109 38 - 1 from ab_wi (by omega) (by omega)]
  refine ⟨by omega, fun μ2 e2 μ3 e3 μ4 e4 => hP μ4 (fun c j x y => ?_) ?_ ?_ ?_⟩
  · rw [e4, ab_mud, if_neg (by omega), e3, ab_mud, if_neg (by omega), e2, ab_mud, if_neg (by omega), e1, ab_mud, if_neg (by omega)]
  · rw [e4, mu_ne (by decide), e3, mu_ne (by decide), e2, mu_ne (by decide), e1, ab_mud, if_pos ⟨rfl, rfl⟩]
  · rw [e4, mu_ne (by decide), e3, mu_ne (by decide), e2, ab_mud, if_pos ⟨rfl, rfl⟩]
  · rw [e4, ab_mud, if_neg (by omega), e3, ab_mud, if_pos ⟨rfl, rfl⟩, e2, mu_ne (by decide), g1]; exact ab_wi (by omega) (by omega)
theorem c_mM_endBlock {μ : ab_m} (hp : 1 ≤ μ 109 38 ∧ μ 109 38 ≤ 3010) (hP : ∀ μ', (∀ c j, ¬ (c = 109 ∧ (j = 27 ∨ j = 29)) → μ' c j = μ c j) → μ' 109 27 = μ 130 (μ 109 38 - 1) → P 0 μ') : jj_mM_endBlock X d 0 (ab_la [109]) [] μ P := by
  refine bk_mM_endBlock_0 rfl ?_
  rw [show ab_w (μ 109 38 - 1) = μ 109 38 - 1 from ab_wi (by omega) (by omega)]
  refine ⟨by omega, fun μ1 e1 => ?_⟩
  have g1 : μ1 109 38 = μ 109 38 := by rw [e1, ab_mud, if_neg (by omega)]
  rw [g1, show ab_w (μ 109 38 - 1) = μ 109 38 - 1 from ab_wi (by omega) (by omega)]
  refine ⟨by omega, fun μ2 e2 => hP μ2 (fun c j x => ?_) ?_⟩
  · rw [e2, ab_mud, if_neg (by omega), e1, ab_mud, if_neg (by omega)]
  · rw [e2, ab_mud, if_neg (by omega), e1, ab_mud, if_pos ⟨rfl, rfl⟩]
/-- the innermost loop of the pile, or -1 -/
theorem c_mM_loop {μ : ab_m} (hp : 0 ≤ μ 109 38 ∧ μ 109 38 ≤ 3010) (hP : ∀ k, -1 ≤ k → k < μ 109 38 → (0 ≤ k → μ 129 k = 6 ∨ μ 129 k = 7) → (∀ j, k < j → j < μ 109 38 → μ 129 j ≠ 6 ∧ μ 129 j ≠ 7) → P k μ) : jj_mM_loop X d 0 (ab_la [109]) [] μ P := by
  have s7 : ∀ (m : Nat) (l : ab_l) (k : Int), l 0 = 109 → l 1 = k → -1 ≤ k → k < μ 109 38 → (k + 1).toNat = m → (∀ j, k < j → j < μ 109 38 → μ 129 j ≠ 6 ∧ μ 129 j ≠ 7) → jj_mM_loop X d 7 l [] μ P := by
    intro m
    induction m using Nat.strongRecOn with
    | ind m ih =>
      intro l k h0 h1 hk hkp hm hj
      refine bk_mM_loop_7 h0 ?_
      simp only [h1]
      refine ⟨fun w => hP k hk hkp (fun x => by omega) hj, fun x => ⟨by omega, fun q => hP k hk hkp (fun _ => Or.inl q) hj, fun q => ⟨by omega, fun q2 => hP k hk hkp (fun _ => Or.inr q2) hj, fun q2 => ?_⟩⟩⟩
      rw [show ab_w (k + -1) = k - 1 from ab_wi (by omega) (by omega)]
      refine ih _ (by omega) _ (k - 1) h0 rfl (by omega) (by omega) rfl fun j a b => ?_
      by_cases e : j = k
      · rw [e]; exact ⟨q, q2⟩
      · exact hj j (by omega) b
  refine bk_mM_loop_0 rfl ?_
  rw [show ab_w (μ 109 38 - 1) = μ 109 38 - 1 from ab_wi (by omega) (by omega)]
  exact s7 _ _ (μ 109 38 - 1) rfl rfl (by omega) (by omega) rfl fun j a b => by omega
theorem c_mM_isInDef {μ : ab_m} (hp : 0 ≤ μ 109 38 ∧ μ 109 38 ≤ 3010) (h1 : ∀ k, 0 ≤ k → k < μ 109 38 → μ 129 k = 3 → P 1 μ) (h0 : (∀ k, 0 ≤ k → k < μ 109 38 → μ 129 k ≠ 3) → P 0 μ) : jj_mM_isInDef X d 0 (ab_la [109]) [] μ P := by
  have s4 : ∀ (m : Nat) (l : ab_l) (q k : Int), l 0 = 109 → l 1 = q → l 2 = k → 0 ≤ k → k ≤ μ 109 38 → (μ 109 38 - k).toNat = m → (q = 1 ∧ (∃ j, 0 ≤ j ∧ j < μ 109 38 ∧ μ 129 j = 3) ∨ q = 0 ∧ ∀ j, 0 ≤ j → j < k → μ 129 j ≠ 3) → jj_mM_isInDef X d 4 l [] μ P := by
    intro m
    induction m using Nat.strongRecOn with
    | ind m ih =>
      intro l q k g0 g1 g2 hk hkp hm hq
      refine bk_mM_isInDef_4 g0 ?_
      simp only [g1, g2]
      by_cases hlt : k < μ 109 38
      · rw [show ab_w (k + 1) = k + 1 from ab_wi (by omega) (by omega)]
        refine ⟨fun w => by omega, fun _ => ⟨fun z => ?_, fun z => ⟨by omega, fun w => ?_, fun w => ?_⟩⟩⟩
        · rcases hq with ⟨-, hq⟩ | ⟨hq, -⟩
          · exact ih _ (by omega) _ 1 (k + 1) g0 rfl rfl (by omega) (by omega) rfl (Or.inl ⟨rfl, hq⟩)
          · exact absurd hq z
        · rcases hq with ⟨hq, -⟩ | ⟨-, hq⟩
          · rw [hq] at z; exact absurd z (by decide)
          · refine ih _ (by omega) _ 0 (k + 1) g0 rfl rfl (by omega) (by omega) rfl (Or.inr ⟨rfl, fun j a b => ?_⟩)
            by_cases e : j = k
            · rw [e]; exact w
            · exact hq j a (by omega)
        · exact ih _ (by omega) _ 1 (k + 1) g0 rfl rfl (by omega) (by omega) rfl (Or.inl ⟨rfl, k, hk, hlt, w⟩)
      · refine ⟨fun _ => ?_, fun w => by omega⟩
        rcases hq with ⟨e, j, a, b, c⟩ | ⟨e, hq⟩
        · rw [e]; exact ⟨by decide, h1 j a b c⟩
        · rw [e]; exact ⟨by decide, h0 fun j a b => hq j a (by omega)⟩
  refine bk_mM_isInDef_0 rfl ?_
  exact s4 _ _ 0 0 rfl rfl rfl (by omega) (by omega) rfl (Or.inr ⟨rfl, fun j a b => by omega⟩)
end M28

/-! THE REFERENCE, part 29: strengths, chains, BEGINs -/
section M29
variable {X : jm_X} {d : Nat} {P : Int → ab_m → Prop}
def stOf (k : Int) : Int := if k = 207 then 1 else if k = 206 then 2 else if k = 124 then 3 else if k = 94 then 4 else if k = 38 then 5 else if k = 202 ∨ k = 203 then 6 else if k = 60 ∨ k = 62 ∨ k = 200 ∨ k = 201 then 7 else if k = 204 ∨ k = 205 then 8 else if k = 43 ∨ k = 45 then 9 else if k = 42 ∨ k = 47 ∨ k = 37 then 10 else 0
theorem c_mM_strength {μ : ab_m} {k : Int} (hP : P (stOf k) μ) : jj_mM_strength X d 0 (ab_la [k]) [] μ P := by
  refine bk_mM_strength_0 ?_
  simp only [la0]
  have key : ∀ v, stOf k = v → P v μ := fun v e => by rw [← e]; exact hP
  refine ⟨?_, fun w => key 0 ?_⟩
  · refine ⟨?_, ?_, ?_, ?_, ?_, ?_, ?_, ?_, ?_, ?_, ?_, ?_, ?_, ?_, ?_, ?_, ?_, ?_, trivial⟩ <;> (intro e; refine key _ ?_; rw [e]; decide)
  · obtain ⟨w1, w2, w3, w4, w5, w6, w7, w8, w9, w10, w11, w12, w13, w14, w15, w16, w17, w18, -⟩ := w
    simp [stOf, w1, w2, w3, w4, w5, w6, w7, w8, w9, w10, w11, w12, w13, w14, w15, w16, w17, w18]
theorem c_mM_operationOf {μ : ab_m} {k : Int} (hP : ∀ q, 2 ≤ q → q ≤ 17 → P q μ) : jj_mM_operationOf X d 0 (ab_la [k]) [] μ P := by
  refine bk_mM_operationOf_0 ⟨?_, fun _ => hP _ (by decide) (by decide)⟩
  refine ⟨?_, ?_, ?_, ?_, ?_, ?_, ?_, ?_, ?_, ?_, ?_, ?_, ?_, ?_, ?_, trivial⟩ <;> exact fun _ => hP _ (by decide) (by decide)
/-- the chain of steps of half h that begins at x: each is told the one before, the first -1 -/
def mCh (μ : ab_m) (h : Int) : List Int → Int → Prop
  | [], x => x = -1
  | y :: r, x => x = y ∧ 0 ≤ y ∧ y < 9000 ∧ (∀ z ∈ r, z < y) ∧ mCh μ h r (μ 116 (9000 * h + y))
theorem mCh.same {μ μ' : ab_m} {h : Int} : ∀ {L : List Int} {x : Int}, mCh μ h L x → (∀ y ∈ L, μ' 116 (9000 * h + y) = μ 116 (9000 * h + y)) → mCh μ' h L x
  | [], _, a, _ => a
  | y :: r, x, a, e => ⟨a.1, a.2.1, a.2.2.1, a.2.2.2.1, by
      rw [e y (List.mem_cons_self ..)]
      exact a.2.2.2.2.same fun z hz => e z (List.mem_cons_of_mem _ hz)⟩
theorem c_mM_tellChain {μ : ab_m} {L : List Int} {x t : Int} (hh : μ 109 20 = 0 ∨ μ 109 20 = 1) (hL : μ 109 22 = 1 → mCh μ (μ 109 20) L x) (h0 : μ 109 22 ≠ 1 → P 0 μ) (hP : μ 109 22 = 1 → ∀ μ', (∀ c j, ¬ (c = 116 ∧ ∃ y ∈ L, j = 9000 * μ 109 20 + y) → μ' c j = μ c j) → (∀ y ∈ L, μ' 116 (9000 * μ 109 20 + y) = t) → P 0 μ') : jj_mM_tellChain X (d + 1) 0 (ab_la [109, x, t]) [] μ P := by
  refine bk_mM_tellChain_0 rfl ?_
  by_cases h1 : μ 109 22 = 1
  · generalize hg : μ 109 20 = g at hh hL hP
    have s2 : ∀ (L2 : List Int) (l : ab_l) (μ1 : ab_m) (x : Int), l 0 = 109 → l 2 = t → l 3 = x → mCh μ1 g L2 x → (∀ y ∈ L2, y ∈ L) → μ1 109 22 = 1 → μ1 109 20 = g → (∀ c j, ¬ (c = 116 ∧ ∃ y ∈ L, j = 9000 * g + y) → μ1 c j = μ c j) → (∀ y ∈ L, ¬ y ∈ L2 → μ1 116 (9000 * g + y) = t) → jj_mM_tellChain X (d + 1) 2 l [] μ1 P := by
      intro L2
      induction L2 with
      | nil =>
        intro l μ1 x g0 g2 g3 hc hs p1 q1 hf ht
        have hc : x = -1 := hc
        refine bk_mM_tellChain_2 g0 ⟨fun w => absurd p1 w, fun _ => ⟨fun _ => hP h1 μ1 hf fun y hy => ht y hy (List.not_mem_nil), fun w => ?_⟩⟩
        rw [g3] at w
        exact absurd hc w
      | cons y r ih =>
        intro l μ1 x g0 g2 g3 hc hs p1 q1 hf ht
        obtain ⟨c1, c2, c3, c4, c5⟩ := hc
        refine bk_mM_tellChain_2 g0 ⟨fun w => absurd p1 w, fun _ => ⟨fun w => ?_, fun _ => ?_⟩⟩
        · rw [g3] at w; omega
        · simp only [g2, g3, q1, c1]
          rw [show ab_w (9000 * g) = 9000 * g from ab_wi (by omega) (by omega), show ab_w (9000 * g + y) = 9000 * g + y from ab_wi (by omega) (by omega)]
          refine ⟨by omega, ?_⟩
          refine c_mM_tell (by rw [q1]; exact hh) (fun _ => ⟨c2, c3⟩) (fun w => absurd p1 w) (fun _ μ2 f2 e2 => ?_)
          rw [q1] at f2 e2
          refine ih _ μ2 _ g0 g2 rfl (c5.same fun z hz => f2 116 _ (by have := c4 z hz; omega)) (fun z hz => hs z (List.mem_cons_of_mem _ hz)) (by rw [f2 109 22 (by omega)]; exact p1) (by rw [f2 109 20 (by omega)]; exact q1) (fun c j a => ?_) (fun z hz hn => ?_)
          · rw [f2 c j (fun w => a ⟨w.1, y, hs y (List.mem_cons_self ..), w.2⟩)]
            exact hf c j a
          · by_cases e : z = y
            · rw [e]; exact e2
            · rw [f2 116 _ (by omega)]
              refine ht z hz fun w => ?_
              rcases List.mem_cons.mp w with w | w
              · exact e w
              · exact hn w
    exact s2 L _ μ x rfl rfl rfl (hL h1) (fun y hy => hy) h1 hg (fun _ _ _ => rfl) (fun y hy hn => absurd hy hn)
  · exact bk_mM_tellChain_2 rfl ⟨fun _ => h0 h1, fun w => absurd w h1⟩
theorem c_mM_begun0 {μ : ab_m} (h : μ 109 22 = 0) (hP : ∀ μ', mF1 42 μ μ' → P 0 μ') : jj_mM_begun X (d + 1) 0 (ab_la [109]) [] μ P :=
  bk_mM_begun_0 rfl fun μ1 e1 => c_mM_step0 (by rw [e1, ab_mud, if_neg (by omega)]; exact h) (hP μ1 (by rw [e1]; exact mF1.mu))
theorem c_mM_begun {μ : ab_m} (h : μ 109 22 = 1) (hh : μ 109 20 = 0 ∨ μ 109 20 = 1) (hn : 0 ≤ μ 109 21 ∧ μ 109 21 < 9000) (hP : ∀ μ1 μ', mF1 42 μ μ1 → mSp μ1 μ' 14 0 0 → P 0 μ') : jj_mM_begun X (d + 1) 0 (ab_la [109]) [] μ P := by
  refine bk_mM_begun_0 rfl fun μ1 e1 => ?_
  have f1 : mF1 42 μ μ1 := by rw [e1]; exact mF1.mu
  exact c_mM_step (by rw [f1 109 22 (by omega)]; exact h) (by rw [f1 109 20 (by omega)]; exact hh) (by rw [f1 109 21 (by omega)]; exact hn) fun μ' m' => hP μ1 μ' f1 m'
/-- what pass 0 laid down for a word: its ANDs and ORs, the newest first -/
def mBl (μ : ab_m) : List Int → Int → Prop
  | [], k => k = -1
  | b :: r, k => 0 ≤ k ∧ k < 3002 ∧ μ 137 k = b ∧ (b = 0 ∨ b = 1) ∧ mBl μ r (μ 136 k)
theorem mBl.same {μ μ' : ab_m} (h : ∀ c j, (c = 136 ∨ c = 137) → μ' c j = μ c j) : ∀ {L : List Int} {k : Int}, mBl μ L k → mBl μ' L k
  | [], _, a => a
  | b :: r, k, a => ⟨a.1, a.2.1, by rw [h 137 k (Or.inr rfl)]; exact a.2.2.1, a.2.2.2.1, by rw [h 136 k (Or.inl rfl)]; exact a.2.2.2.2.same h⟩
/-- BEGINs bs stand from step n on -/
def mBg (μ : ab_m) (h n : Int) (bs : List Int) : Prop := ∀ i : Nat, ∀ b, bs[i]? = some b → μ 115 (9000 * h + n + i) = 6 ∧ μ 117 (9000 * h + n + i) = b
theorem c_mM_beginAll {μ : ab_m} {bs : List Int} (ha : 0 ≤ μ 109 40 ∧ μ 109 40 < 3002) (hh : μ 109 20 = 0 ∨ μ 109 20 = 1) (h0 : μ 109 22 ≠ 1 → P 0 μ) (hb : μ 109 22 = 1 → mBl μ bs (μ 135 (μ 109 40))) (hn : 0 ≤ μ 109 21 ∧ μ 109 21 + bs.length < 9000) (hP : μ 109 22 = 1 → ∀ μ', (∀ c j, ¬ (115 ≤ c ∧ c ≤ 117 ∧ 9000 * μ 109 20 + μ 109 21 ≤ j ∧ j < 9000 * μ 109 20 + μ 109 21 + bs.length) → ¬ (c = 109 ∧ j = 21) → μ' c j = μ c j) → μ' 109 21 = μ 109 21 + bs.length → mBg μ' (μ 109 20) (μ 109 21) bs → P 0 μ') : jj_mM_beginAll X (d + 1) 0 (ab_la [109]) [] μ P := by
  refine bk_mM_beginAll_0 rfl ⟨ha, ?_⟩
  by_cases h1 : μ 109 22 = 1
  · generalize hg : μ 109 20 = g at hh hP
    generalize hN : μ 109 21 = N at hn hP
    have s10 : ∀ (r : List Int) (l : ab_l) (μ1 : ab_m) (k : Int) (p : List Int), l 0 = 109 → l 1 = k → mBl μ1 r k → p ++ r = bs → μ1 109 22 = 1 → μ1 109 20 = g → μ1 109 21 = N + p.length → (∀ c j, ¬ (115 ≤ c ∧ c ≤ 117 ∧ 9000 * g + N ≤ j ∧ j < 9000 * g + N + bs.length) → ¬ (c = 109 ∧ j = 21) → μ1 c j = μ c j) → mBg μ1 g N p → jj_mM_beginAll X (d + 1) 10 l [] μ1 P := by
      intro r
      induction r with
      | nil =>
        intro l μ1 k p g0 g1 hk hpb p1 q1 n1 hf hB
        rw [List.append_nil] at hpb
        subst hpb
        refine bk_mM_beginAll_10 g0 ⟨fun _ => hP h1 μ1 hf n1 hB, fun w => ?_⟩
        rw [g1] at w
        exact absurd (show k = -1 from hk) w
      | cons b r ih =>
        intro l μ1 k p g0 g1 hk hpb p1 q1 n1 hf hB
        obtain ⟨k1, k2, k3, k4, k5⟩ := hk
        have len : (bs.length : Int) = p.length + r.length + 1 := by rw [← hpb]; simp; omega
        refine bk_mM_beginAll_10 g0 ⟨fun w => by rw [g1] at w; omega, fun _ => ⟨fun w => absurd p1 w, fun _ => ?_⟩⟩
        simp only [g1]
        refine c_mM_step p1 (by rw [q1]; exact hh) (by rw [n1]; omega) fun μ2 m2 => ?_
        obtain ⟨m21, m22, m23, m24, m25⟩ := m2
        rw [q1, n1] at m21 m23 m25
        have q2 : μ2 109 20 = g := by rw [m21 109 20 (by omega) (by omega)]; exact q1
        rw [q2, n1, show ab_w (9000 * g) = 9000 * g from ab_wi (by omega) (by omega), show ab_w (9000 * g + (N + p.length)) = 9000 * g + (N + p.length) from ab_wi (by omega) (by omega)]
        refine ⟨⟨k1, k2⟩, by omega, fun μ4 e4 => ⟨⟨k1, k2⟩, ?_⟩⟩
        have b2 : μ2 137 k % 2 = b := by rw [m21 137 k (by omega) (by omega), k3]; omega
        rw [b2] at e4
        have u4 : ∀ c j, c ≠ 117 → μ4 c j = μ2 c j := fun c j a => by rw [e4, mu_ne a]
        refine ih _ μ4 _ (p ++ [b]) g0 rfl ?_ (by rw [← hpb]; simp) ?_ ?_ ?_ ?_ ?_
        · rw [u4 136 k (by decide), m21 136 k (by omega) (by omega)]
          exact k5.same fun c j hc => by rw [u4 c j (by omega)]; exact m21 c j (by omega) (by omega)
        · rw [u4 109 22 (by decide), m21 109 22 (by omega) (by omega)]; exact p1
        · rw [u4 109 20 (by decide)]; exact q2
        · rw [u4 109 21 (by decide), m22, n1]; simp; omega
        · intro c j a b'
          rw [e4, ab_mud, if_neg (by omega), m21 c j (by omega) b']
          exact hf c j a b'
        · intro i v hv
          by_cases hi : i < p.length
          · rw [List.getElem?_append_left hi] at hv
            have := hB i v hv
            rw [u4 115 _ (by decide), m21 115 _ (by omega) (by omega), e4, ab_mud, if_neg (by omega), m21 117 _ (by omega) (by omega)]
            exact this
          · rw [List.getElem?_append_right (by omega)] at hv
            have hi2 : i = p.length := by
              by_cases e : i - p.length = 0
              · omega
              · rw [List.getElem?_eq_none (by simp; omega)] at hv; cases hv
            subst hi2
            simp at hv
            subst hv
            rw [show 9000 * g + N + (p.length : Int) = 9000 * g + (N + p.length) by omega, u4 115 _ (by decide)]
            exact ⟨m23, by rw [e4, ab_mud, if_pos ⟨rfl, rfl⟩]⟩
    exact s10 bs _ μ _ [] rfl rfl (hb h1) rfl h1 hg (by rw [hN]; simp) (fun _ _ _ _ => rfl) (fun i v hv => by simp at hv)
  · exact bk_mM_beginAll_10 rfl ⟨fun _ => h0 h1, fun _ => ⟨fun _ => h0 h1, fun w => absurd w h1⟩⟩
end M29

/-! THE REFERENCE, part 30: the reader as an automaton over the words' kinds (both passes run it) -/
section M30
end M30
/-- an entry of the pile: its kind, the sign of a TWO (or 1 for a call that stands alone), its first word, the arguments of a call so far -/
abbrev aE : Type := (Int) × (Int) × (Int) × (Int)
abbrev aE.k (x : aE) : Int := (x : (Int) × (Int) × (Int) × (Int)).1
abbrev aE.a (x : aE) : Int := (x : (Int) × (Int) × (Int) × (Int)).2.1
abbrev aE.w (x : aE) : Int := (x : (Int) × (Int) × (Int) × (Int)).2.2.1
abbrev aE.c (x : aE) : Int := (x : (Int) × (Int) × (Int) × (Int)).2.2.2
section M30
end M30
abbrev aS : Type := (Int) × (Int) × (Int) × (List aE)
abbrev aS.mode (x : aS) : Int := (x : (Int) × (Int) × (Int) × (List aE)).1
abbrev aS.at' (x : aS) : Int := (x : (Int) × (Int) × (Int) × (List aE)).2.1
abbrev aS.op (x : aS) : Int := (x : (Int) × (Int) × (Int) × (List aE)).2.2.1
abbrev aS.pile (x : aS) : List aE := (x : (Int) × (Int) × (Int) × (List aE)).2.2.2
section M30
/-- a row of names with commas between: the place behind -/
def aNm (K : Int → Int) : Nat → Int → Option Int
  | 0, _ => none
  | f + 1, a => if K a ≠ 1 then none else if K (a + 1) = 44 then aNm K f (a + 2) else some (a + 1)
def aTop (p : List aE) : Int := match p with
  | [] => 0
  | e :: _ => e.1
/-- all ONEs go -/
def aOnes : List aE → Int → List aE × Int
  | [], o => ([], o)
  | e :: r, o => if e.1 = 41 then aOnes r e.2.2.1 else (e :: r, o)
/-- the TWOs go that are as strong -/
def aTwos (s : Int) : List aE → Int → List aE × Int
  | [], o => ([], o)
  | e :: r, o => if e.1 = 40 ∧ (s = 0 ∨ s ≤ stOf e.2.1) then aTwos s r e.2.2.1 else (e :: r, o)
/-- what a turn does: a fault or the end (none), or the next state and what it lays down (word, OR or AND) -/
abbrev aO : Type := Option (aS × Option (Int × Int))
def aDecl (K : Int → Int) (s : aS) : aO :=
  let a := s.2.1
  if K a = 15 then (aNm K 3002 (a + 1)).bind fun b => if K b = 59 then some ((s.1, b + 1, s.2.2.1, s.2.2.2), none) else none
  else if K a = 20 then if K (a + 1) = 1 ∧ K (a + 2) = 91 ∧ K (a + 3) = 2 ∧ K (a + 4) = 93 ∧ K (a + 5) = 59 then some ((s.1, a + 6, s.2.2.1, s.2.2.2), none) else none
  else if K a = 11 then
    if K (a + 1) = 1 ∧ K (a + 2) = 40 then
      (if K (a + 3) = 41 then some (a + 3) else aNm K 3002 (a + 3)).bind fun b => if K b = 41 ∧ K (b + 1) = 123 then some ((1, b + 2, s.2.2.1, ⟨3, 0, a + 1, 0⟩ :: s.2.2.2), none) else none
    else none
  else some ((1, s.2.1, s.2.2.1, ⟨1, 0, 0, 0⟩ :: s.2.2.2), none)
def aStat (K : Int → Int) (s : aS) : aO :=
  let a := s.2.1
  let t := aTop s.2.2.2
  if K a = 125 ∧ t = 3 then some ((0, a + 1, s.2.2.1, s.2.2.2.tail), none)
  else if K a = 125 ∧ t = 2 then some ((4, a + 1, s.2.2.1, s.2.2.2.tail), none)
  else if K a = 123 then some ((s.1, a + 1, s.2.2.1, ⟨2, 0, 0, 0⟩ :: s.2.2.2), none)
  else if K a = 15 then
    if t = 1 ∨ t = 2 ∨ t = 3 then (aNm K 3002 (a + 1)).bind fun b => if K b = 59 then some ((s.1, b + 1, s.2.2.1, s.2.2.2), none) else none else none
  else if K a = 1 then
    if K (a + 1) = 61 then some ((2, a + 2, s.2.2.1, ⟨26, 0, 0, 0⟩ :: s.2.2.2), none)
    else if K (a + 1) = 91 then some ((2, a + 2, s.2.2.1, ⟨25, 0, 0, 0⟩ :: s.2.2.2), none)
    else if K (a + 1) = 40 then
      if K (a + 2) = 41 then if K (a + 3) = 59 then some ((4, a + 4, s.2.2.1, s.2.2.2), some (a, 2)) else none
      else some ((2, a + 2, s.2.2.1, ⟨28, 1, a, 0⟩ :: s.2.2.2), none)
    else none
  else if K a = 14 ∨ K a = 21 then
    if K (a + 1) = 40 then some ((2, a + 2, s.2.2.1, ⟨if K a = 14 then 20 else 21, 0, 0, 0⟩ :: s.2.2.2), none) else none
  else if K a = 12 then some ((s.1, a + 1, s.2.2.1, ⟨7, 0, 0, 0⟩ :: s.2.2.2), none)
  else if K a = 10 ∨ K a = 16 then if K (a + 1) = 59 then some ((4, a + 2, s.2.2.1, s.2.2.2), none) else none
  else if K a = 19 ∨ K a = 17 then some ((2, a + 1, s.2.2.1, ⟨if K a = 19 then 29 else 30, 0, 0, 0⟩ :: s.2.2.2), none)
  else if K a = 18 then if K (a + 1) = 1 ∧ K (a + 2) = 59 then some ((4, a + 3, s.2.2.1, s.2.2.2), none) else none
  else none
def aDone (K : Int → Int) (s : aS) : aO :=
  let a := s.2.1
  let t := aTop s.2.2.2
  if t = 4 then if K a = 13 then some ((1, a + 1, s.2.2.1, ⟨5, 0, 0, 0⟩ :: s.2.2.2.tail), none) else some ((s.1, s.2.1, s.2.2.1, s.2.2.2.tail), none)
  else if t = 5 ∨ t = 6 then some ((s.1, s.2.1, s.2.2.1, s.2.2.2.tail), none)
  else if t = 7 then if K a = 21 ∧ K (a + 1) = 40 then some ((2, a + 2, s.2.2.1, ⟨22, 0, 0, 0⟩ :: s.2.2.2), none) else none
  else some ((1, s.2.1, s.2.2.1, s.2.2.2), none)
def aOper (K : Int → Int) (s : aS) : aO :=
  let a := s.2.1
  if K a = 45 ∨ K a = 33 ∨ K a = 126 then some ((s.1, a + 1, s.2.2.1, ⟨41, 0, a, 0⟩ :: s.2.2.2), none)
  else if K a = 40 then some ((s.1, a + 1, s.2.2.1, ⟨23, 0, a, 0⟩ :: s.2.2.2), none)
  else if K a = 2 then some ((3, a + 1, a, s.2.2.2), none)
  else if K a = 1 then
    if K (a + 1) = 40 then
      if K (a + 2) = 41 then some ((3, a + 3, a, s.2.2.2), some (a, 2))
      else some ((s.1, a + 2, s.2.2.1, ⟨28, 0, a, 0⟩ :: s.2.2.2), none)
    else if K (a + 1) = 91 then some ((s.1, a + 2, s.2.2.1, ⟨24, 0, a, 0⟩ :: s.2.2.2), none)
    else some ((3, a + 1, a, s.2.2.2), none)
  else none
/-- the end of an expression; p is what lies on the pile then -/
def aEnd (K : Int → Int) (s : aS) (p : List aE) : aO := match p with
  | [] => none
  | e :: r =>
    let a := s.2.1
    if e.1 = 23 then if K a = 41 then some ((s.1, a + 1, e.2.2.1, r), none) else none
    else if e.1 = 24 then if K a = 93 then some ((s.1, a + 1, e.2.2.1, r), none) else none
    else if e.1 = 28 then
      if K a = 44 then some ((2, a + 1, s.2.2.1, (e.1, e.2.1, e.2.2.1, e.2.2.2 + 1) :: r), none)
      else if K a = 41 then
        if e.2.1 = 1 then if K (a + 1) = 59 then some ((4, a + 2, s.2.2.1, r), some (e.2.2.1, e.2.2.2 + 3)) else none
        else some ((s.1, a + 1, e.2.2.1, r), some (e.2.2.1, e.2.2.2 + 3))
      else none
    else if e.1 = 20 then if K a = 41 then some ((1, a + 1, s.2.2.1, ⟨4, 0, 0, 0⟩ :: r), none) else none
    else if e.1 = 21 then if K a = 41 then some ((1, a + 1, s.2.2.1, ⟨6, 0, 0, 0⟩ :: r), none) else none
    else if e.1 = 22 then if K a = 41 ∧ K (a + 1) = 59 then some ((4, a + 2, s.2.2.1, r.tail), none) else none
    else if e.1 = 25 then if K a = 93 ∧ K (a + 1) = 61 then some ((2, a + 2, s.2.2.1, ⟨27, 0, 0, 0⟩ :: r), none) else none
    else if K a = 59 then some ((4, a + 1, s.2.2.1, r), none) else none
def aBeh (K : Int → Int) (s : aS) : aO :=
  let p1 := aOnes s.2.2.2 s.2.2.1
  let k := K s.2.1
  let p2 := aTwos (stOf k) p1.1 p1.2
  if stOf k = 0 then aEnd K (s.1, s.2.1, p2.2, s.2.2.2) p2.1
  else some ((2, s.2.1 + 1, p2.2, ⟨40, k, p2.2, 0⟩ :: p2.1), if k = 206 then some (p2.2, 0) else if k = 207 then some (p2.2, 1) else none)
def aNext (K : Int → Int) (s : aS) : aO :=
  if s.1 = 0 then aDecl K s else if s.1 = 1 then aStat K s else if s.1 = 2 then aOper K s else if s.1 = 3 then aBeh K s else aDone K s
/-- the run from s ends well, and lays F w at the word w (in order of time) -/
def aRn (K : Int → Int) : Nat → aS → (Int → List Int) → Prop
  | 0, s, F => s.1 = 1 ∧ K s.2.1 = 0 ∧ aTop s.2.2.2 = 1 ∧ F = fun _ => []
  | n + 1, s, F => (∃ s', aNext K s = some (s', none) ∧ aRn K n s' F) ∨ ∃ s' F' w b, aNext K s = some (s', some (w, b)) ∧ aRn K n s' F' ∧ F = fun x => if x = w then b :: F' x else F' x
def aRest (K : Int → Int) (s : aS) (F : Int → List Int) : Prop := ∃ n, aRn K n s F
theorem aRest.stop {K : Int → Int} {s : aS} (a : s.1 = 1) (b : K s.2.1 = 0) (c : aTop s.2.2.2 = 1) : aRest K s fun _ => [] := ⟨0, a, b, c, rfl⟩
theorem aRest.go {K : Int → Int} {s s' : aS} {F : Int → List Int} (e : aNext K s = some (s', none)) (h : aRest K s' F) : aRest K s F := by
  obtain ⟨n, h⟩ := h
  exact ⟨n + 1, Or.inl ⟨s', e, h⟩⟩
theorem aRest.reg {K : Int → Int} {s s' : aS} {F : Int → List Int} {w b : Int} (e : aNext K s = some (s', some (w, b))) (h : aRest K s' F) : aRest K s fun x => if x = w then b :: F x else F x := by
  obtain ⟨n, h⟩ := h
  exact ⟨n + 1, Or.inr ⟨s', F, w, b, e, h, rfl⟩⟩
theorem aRest.inv {K : Int → Int} {s : aS} {F : Int → List Int} (h : aRest K s F) : (s.1 = 1 ∧ K s.2.1 = 0 ∧ aTop s.2.2.2 = 1 ∧ F = fun _ => []) ∨ (∃ s', aNext K s = some (s', none) ∧ aRest K s' F) ∨ ∃ s' F' w b, aNext K s = some (s', some (w, b)) ∧ aRest K s' F' ∧ F = fun x => if x = w then b :: F' x else F' x := by
  obtain ⟨n, h⟩ := h
  cases n with
  | zero => exact Or.inl h
  | succ n =>
    rcases h with ⟨s', e, h⟩ | ⟨s', F', w, b, e, h, q⟩
    · exact Or.inr (Or.inl ⟨s', e, n, h⟩)
    · exact Or.inr (Or.inr ⟨s', F', w, b, e, ⟨n, h⟩, q⟩)
/-- entry e at place i of the pile -/
def aM (μ : ab_m) (i : Int) (e : aE) : Prop := μ 129 i = e.1 ∧ (e.1 = 40 → μ 130 i = e.2.1 ∧ μ 131 i = e.2.2.1) ∧ (e.1 = 41 → μ 131 i = e.2.2.1) ∧ (e.1 = 23 → μ 130 i = e.2.2.1) ∧ (e.1 = 24 → μ 131 i = e.2.2.1) ∧ (e.1 = 28 → μ 131 i = e.2.2.1 ∧ μ 133 i = e.2.1 ∧ μ 132 i = e.2.2.2) ∧ (e.1 = 3 → μ 133 i = e.2.2.1)
def aP (μ : ab_m) : List aE → Prop
  | [] => True
  | e :: r => aM μ (r.length : Int) e ∧ aP μ r
/-- μ pictures s -/
def aR (μ : ab_m) (s : aS) : Prop := μ 109 39 = s.1 ∧ μ 109 40 = s.2.1 ∧ (s.1 = 3 → μ 109 46 = s.2.2.1) ∧ μ 109 38 = (s.2.2.2.length : Int) ∧ aP μ s.2.2.2
theorem aP.same {μ μ' : ab_m} : ∀ {p : List aE}, aP μ p → (∀ c i, 129 ≤ c → c ≤ 133 → 0 ≤ i → i < (p.length : Int) → μ' c i = μ c i) → aP μ' p
  | [], _, _ => trivial
  | e :: r, h, hs => by
    refine ⟨?_, h.2.same fun c i a b x y => hs c i a b x (by simp; omega)⟩
    have q := h.1
    unfold aM at q ⊢
    have hl : ((e :: r).length : Int) = r.length + 1 := by simp
    rw [hs 129 _ (by decide) (by decide) (by omega) (by omega), hs 130 _ (by decide) (by decide) (by omega) (by omega), hs 131 _ (by decide) (by decide) (by omega) (by omega), hs 132 _ (by decide) (by decide) (by omega) (by omega), hs 133 _ (by decide) (by decide) (by omega) (by omega)]
    exact q
/-- the words that may still be laid at -/
def aAct (s : aS) (w : Int) : Prop := s.2.1 ≤ w ∨ (s.1 = 3 ∧ w = s.2.2.1) ∨ ∃ e ∈ s.2.2.2, w = e.2.2.1 ∧ (e.1 = 40 ∨ e.1 = 41 ∨ e.1 = 23 ∨ e.1 = 24 ∨ e.1 = 28)
end M30

/-! THE REFERENCE, part 31: what the automaton keeps -/
section M31
/-- the words: kinds of 1 and more, then two ENDs -/
def aK (K : Int → Int) (W : Int) : Prop := 0 ≤ W ∧ W ≤ 3000 ∧ (∀ k, 0 ≤ k → k < W → 1 ≤ K k) ∧ K W = 0 ∧ K (W + 1) = 0
def aRl (e : aE) : Prop := e.1 = 40 ∨ e.1 = 41 ∨ e.1 = 23 ∨ e.1 = 24 ∨ e.1 = 28
/-- a pile of statements -/
def aPs : List aE → Prop
  | [] => False
  | e :: r => ((e.1 = 1 ∨ (e.1 = 3 ∧ 0 ≤ e.2.2.1 ∧ e.2.2.1 < 3002)) ∧ r = []) ∨ ((e.1 = 2 ∨ (4 ≤ e.1 ∧ e.1 ≤ 7)) ∧ aPs r)
/-- a pile with an expression on top -/
def aPx : List aE → Prop
  | [] => False
  | e :: r => ((e.1 = 40 ∨ e.1 = 41 ∨ e.1 = 23 ∨ e.1 = 24 ∨ (e.1 = 28 ∧ e.2.1 = 0)) ∧ (e.1 = 40 → aTop r ≠ 41 ∧ 0 < stOf e.2.1) ∧ 0 ≤ e.2.2.2 ∧ aPx r) ∨ ((e.1 = 20 ∨ e.1 = 21 ∨ (e.1 = 22 ∧ aTop r = 7) ∨ e.1 = 25 ∨ e.1 = 26 ∨ e.1 = 27 ∨ e.1 = 29 ∨ e.1 = 30 ∨ (e.1 = 28 ∧ e.2.1 = 1)) ∧ 0 ≤ e.2.2.2 ∧ aPs r)
/-- first words fall -/
def aPd : List aE → Int → Prop
  | [], _ => True
  | e :: r, b => aRl e → 0 ≤ e.2.2.1 ∧ (e.2.2.1 < b ∧ e.2.2.1 + e.2.2.2 < b) ∧ aPd r e.2.2.1
theorem aPd.mono : ∀ {p : List aE} {b c : Int}, aPd p b → b ≤ c → aPd p c
  | [], _, _, _, _ => trivial
  | _ :: _, _, _, h, l => fun q => ⟨(h q).1, by have := (h q).2.1; omega, (h q).2.2⟩
theorem aPs.pd : ∀ {p : List aE} {b : Int}, aPs p → aPd p b
  | [], _, _ => trivial
  | e :: r, b, h => fun q => by
    unfold aRl at q
    rcases h with ⟨h, -⟩ | ⟨h, -⟩ <;> omega
theorem aPd.mem : ∀ {p : List aE} {b : Int}, aPd p b → aPx p → ∀ e ∈ p, aRl e → e.2.2.1 < b
  | [], _, _, _, _, he, _ => by cases he
  | x :: r, b, h, hx, e, he, hr => by
    rcases List.mem_cons.mp he with h1 | h1
    · rw [h1] at hr ⊢; exact (h hr).2.1.1
    · rcases hx with ⟨a, -, -, hx⟩ | ⟨-, -, hx⟩
      · have q : aRl x := by unfold aRl; omega
        have := (h q).2.2.mem hx e h1 hr
        have := (h q).2.1
        omega
      · exfalso
        have key : ∀ {r : List aE}, aPs r → ∀ e ∈ r, ¬ aRl e := by
          intro r
          induction r with
          | nil => intro _ _ he; cases he
          | cons y r ih =>
            intro hp e he
            rcases List.mem_cons.mp he with h2 | h2
            · rw [h2]; unfold aRl; rcases hp with ⟨hp, -⟩ | ⟨hp, -⟩ <;> omega
            · rcases hp with ⟨-, hp⟩ | ⟨-, hp⟩
              · rw [hp] at h2; cases h2
              · exact ih hp e h2
        exact key hx e h1 hr
end M31
def aW (W : Int) (s : aS) : Prop := (0 ≤ s.2.1) ∧ (s.2.1 ≤ W) ∧ ((s.2.2.2.length : Int) ≤ s.2.1 + 1) ∧ (0 ≤ s.1 ∧ s.1 ≤ 4) ∧ (s.1 = 0 → s.2.2.2 = []) ∧ (s.1 = 1 ∨ s.1 = 4 → aPs s.2.2.2) ∧ (s.1 = 2 → aPx s.2.2.2 ∧ aPd s.2.2.2 s.2.1) ∧ (s.1 = 3 → aPx s.2.2.2 ∧ aPd s.2.2.2 s.2.2.1 ∧ 0 ≤ s.2.2.1 ∧ s.2.2.1 < s.2.1)
theorem aW.at0 {W : Int} {s : aS} (h'' : aW W s) : 0 ≤ s.2.1 := h''.1
theorem aW.atW {W : Int} {s : aS} (h'' : aW W s) : s.2.1 ≤ W := h''.2.1
theorem aW.len {W : Int} {s : aS} (h'' : aW W s) : (s.2.2.2.length : Int) ≤ s.2.1 + 1 := h''.2.2.1
theorem aW.md {W : Int} {s : aS} (h'' : aW W s) : 0 ≤ s.1 ∧ s.1 ≤ 4 := h''.2.2.2.1
theorem aW.m0 {W : Int} {s : aS} (h'' : aW W s) : s.1 = 0 → s.2.2.2 = [] := h''.2.2.2.2.1
theorem aW.m1 {W : Int} {s : aS} (h'' : aW W s) : s.1 = 1 ∨ s.1 = 4 → aPs s.2.2.2 := h''.2.2.2.2.2.1
theorem aW.m2 {W : Int} {s : aS} (h'' : aW W s) : s.1 = 2 → aPx s.2.2.2 ∧ aPd s.2.2.2 s.2.1 := h''.2.2.2.2.2.2.1
theorem aW.m3 {W : Int} {s : aS} (h'' : aW W s) : s.1 = 3 → aPx s.2.2.2 ∧ aPd s.2.2.2 s.2.2.1 ∧ 0 ≤ s.2.2.1 ∧ s.2.2.1 < s.2.1 := h''.2.2.2.2.2.2.2
section M31
/-- what falls at each turn -/
def aMs (W : Int) (s : aS) : Int := (W + 1 - s.2.1) * 4000 + (if s.1 = 4 then (s.2.2.2.length : Int) + 1 else if s.1 = 0 then 1 else 0)
theorem aMs_at {W : Int} {s s' : aS} (h : s.2.1 < s'.2.1) (hw : aW W s) (hl : (s'.2.2.2.length : Int) ≤ s'.2.1 + 1) (hW : s'.2.1 ≤ W) (hW3 : W ≤ 3000) : aMs W s' < aMs W s := by
  unfold aMs
  have := hw.at0
  split <;> split <;> (try split) <;> (try split) <;> omega
end M31
def aQ (W : Int) (s s' : aS) (r : Option (Int × Int)) : Prop := (aW W s') ∧ (s.2.1 ≤ s'.2.1) ∧ (aMs W s' < aMs W s) ∧ (∀ w, aAct s' w → aAct s w) ∧ (∀ w b, r = some (w, b) → aAct s w ∧ 0 ≤ w ∧ w < s'.2.1 ∧ 0 ≤ b ∧ (b < 2 → s.1 = 3 ∧ s'.1 = 2 ∧ s'.2.1 = s.2.1 + 1)) ∧ (s'.1 = 3 → s.1 = 3 ∨ s.2.1 < s'.2.1) ∧ (∀ e ∈ s'.2.2.2, e.1 = 28 → s.2.1 ≤ e.2.2.1 ∨ ∃ x ∈ s.2.2.2, x.2.2.1 = e.2.2.1 ∧ x.1 = 28)
theorem aQ.w {W : Int} {s s' : aS} {r : Option (Int × Int)} (h'' : aQ W s s' r) : aW W s' := h''.1
theorem aQ.le {W : Int} {s s' : aS} {r : Option (Int × Int)} (h'' : aQ W s s' r) : s.2.1 ≤ s'.2.1 := h''.2.1
theorem aQ.ms {W : Int} {s s' : aS} {r : Option (Int × Int)} (h'' : aQ W s s' r) : aMs W s' < aMs W s := h''.2.2.1
theorem aQ.cov {W : Int} {s s' : aS} {r : Option (Int × Int)} (h'' : aQ W s s' r) : ∀ w, aAct s' w → aAct s w := h''.2.2.2.1
theorem aQ.lay {W : Int} {s s' : aS} {r : Option (Int × Int)} (h'' : aQ W s s' r) : ∀ w b, r = some (w, b) → aAct s w ∧ 0 ≤ w ∧ w < s'.2.1 ∧ 0 ≤ b ∧ (b < 2 → s.1 = 3 ∧ s'.1 = 2 ∧ s'.2.1 = s.2.1 + 1) := h''.2.2.2.2.1
theorem aQ.m3 {W : Int} {s s' : aS} {r : Option (Int × Int)} (h'' : aQ W s s' r) : s'.1 = 3 → s.1 = 3 ∨ s.2.1 < s'.2.1 := h''.2.2.2.2.2.1
theorem aQ.p28 {W : Int} {s s' : aS} {r : Option (Int × Int)} (h'' : aQ W s s' r) : ∀ e ∈ s'.2.2.2, e.1 = 28 → s.2.1 ≤ e.2.2.1 ∨ ∃ x ∈ s.2.2.2, x.2.2.1 = e.2.2.1 ∧ x.1 = 28 := h''.2.2.2.2.2.2
section M31
def aAl (Q : aS → Option (Int × Int) → Prop) (o : aO) : Prop := ∀ s' r, o = some (s', r) → Q s' r
theorem aAl_n {Q : aS → Option (Int × Int) → Prop} : aAl Q none := fun _ _ h => by cases h
theorem aAl_s {Q : aS → Option (Int × Int) → Prop} {s' : aS} {r : Option (Int × Int)} (h : Q s' r) : aAl Q (some (s', r)) := fun _ _ e => by cases e; exact h
theorem aAl_i {Q : aS → Option (Int × Int) → Prop} {c : Prop} [Decidable c] {a b : aO} (h1 : c → aAl Q a) (h2 : ¬ c → aAl Q b) : aAl Q (if c then a else b) := by
  split
  · next h => exact h1 h
  · next h => exact h2 h
theorem aAct.pile {s : aS} {e : aE} (h : e ∈ s.2.2.2) (hr : aRl e) : aAct s e.2.2.1 := Or.inr (Or.inr ⟨e, h, rfl, hr⟩)
/-- where an entry comes from -/
def aAc (s : aS) (e : aE) : Prop := s.2.1 ≤ e.2.2.1 ∨ (e.1 ≠ 28 ∧ s.1 = 3 ∧ e.2.2.1 = s.2.2.1) ∨ ∃ x ∈ s.2.2.2, x.2.2.1 = e.2.2.1 ∧ aRl x ∧ (e.1 = 28 → x.1 = 28)
theorem aAc.act {s : aS} {e : aE} (h : aAc s e) : aAct s e.2.2.1 := by
  rcases h with h | ⟨-, h⟩ | ⟨x, hx, e1, r, -⟩
  · exact Or.inl h
  · exact Or.inr (Or.inl h)
  · rw [← e1]; exact aAct.pile hx r
theorem aAc.of {s : aS} {e : aE} (hk : e.1 ≠ 28) (h : aAct s e.2.2.1) : aAc s e := by
  rcases h with h | h | ⟨x, hx, e1, r⟩
  · exact Or.inl h
  · exact Or.inr (Or.inl ⟨hk, h⟩)
  · exact Or.inr (Or.inr ⟨x, hx, e1.symm, r, fun q => absurd q hk⟩)
theorem aAc.p28 {s s' : aS} (h : ∀ e ∈ s'.2.2.2, aRl e → aAc s e) : ∀ e ∈ s'.2.2.2, e.1 = 28 → s.2.1 ≤ e.2.2.1 ∨ ∃ x ∈ s.2.2.2, x.2.2.1 = e.2.2.1 ∧ x.1 = 28 := fun e he hk => by
  rcases h e he (Or.inr (Or.inr (Or.inr (Or.inr hk)))) with q | q | ⟨x, hx, e1, r, q⟩
  · exact Or.inl q
  · exact absurd hk q.1
  · exact Or.inr ⟨x, hx, e1, q hk⟩
theorem aAct.mono {s s' : aS} (ha : s.2.1 ≤ s'.2.1) (hm : s'.1 = 3 → aAct s s'.2.2.1) (hp : ∀ e ∈ s'.2.2.2, aRl e → aAc s e) : ∀ w, aAct s' w → aAct s w := by
  intro w h
  rcases h with h | ⟨h1, h2⟩ | ⟨e, h1, h2, h3⟩
  · exact Or.inl (by omega)
  · rw [h2]; exact hm h1
  · rw [h2]; exact (hp e h1 h3).act
theorem aPl {s : aS} : ∀ e ∈ s.2.2.2, aRl e → aAc s e := fun e h hr => Or.inr (Or.inr ⟨e, h, rfl, hr, fun q => q⟩)
theorem aTl {s : aS} : ∀ e ∈ s.2.2.2.tail, aRl e → aAc s e := fun e h hr => aPl e (List.mem_of_mem_tail h) hr
theorem aCs {s : aS} {x : aE} {p : List aE} (hx : aRl x → aAc s x) (hp : ∀ e ∈ p, aRl e → aAc s e) : ∀ e ∈ x :: p, aRl e → aAc s e := fun e h hr => by
  rcases List.mem_cons.mp h with h | h
  · rw [h] at hr ⊢; exact hx hr
  · exact hp e h hr
theorem aNm_ge {K : Int → Int} {W : Int} (hK : aK K W) : ∀ {f : Nat} {a b : Int}, aNm K f a = some b → 0 ≤ a → a ≤ W → a < b ∧ b ≤ W
  | 0, _, _, h, _, _ => by cases h
  | f + 1, a, b, h, h0, h1 => by
    obtain ⟨_, _, k1, k2, k3⟩ := hK
    unfold aNm at h
    split at h
    · cases h
    · next n1 =>
      have h2 : a < W := by
        by_cases e : a = W
        · rw [e, k2] at n1; simp at n1
        · omega
      split at h
      · next c =>
        have h3 : a + 1 < W := by
          by_cases e : a + 1 = W
          · rw [e, k2] at c; cases c
          · omega
        have := aNm_ge ⟨‹_›, ‹_›, k1, k2, k3⟩ h (by omega) (by omega); omega
      · cases h; omega
theorem aK_lt {K : Int → Int} {W a c : Int} (hK : aK K W) (h0 : 0 ≤ a) (h1 : a ≤ W) (h : K a = c) (hc : c ≠ 0) : a + 1 ≤ W := by
  by_cases e : a = W
  · rw [e, hK.2.2.2.1] at h; exact absurd h.symm hc
  · omega
theorem aOnes_mem : ∀ {p : List aE} {o : Int}, (∀ e ∈ (aOnes p o).1, e ∈ p) ∧ ((aOnes p o).2 = o ∨ ∃ e ∈ p, e.1 = 41 ∧ (aOnes p o).2 = e.2.2.1)
  | [], _ => ⟨fun _ h => h, Or.inl rfl⟩
  | e :: r, o => by
    unfold aOnes
    split
    · next h =>
      have q := aOnes_mem (p := r) (o := e.2.2.1)
      refine ⟨fun x hx => List.mem_cons_of_mem _ (q.1 x hx), Or.inr ?_⟩
      rcases q.2 with q | ⟨x, hx, h1, h2⟩
      · exact ⟨e, List.mem_cons_self .., h, q⟩
      · exact ⟨x, List.mem_cons_of_mem _ hx, h1, h2⟩
    · exact ⟨fun _ h => h, Or.inl rfl⟩
theorem aTwos_mem {s : Int} : ∀ {p : List aE} {o : Int}, (∀ e ∈ (aTwos s p o).1, e ∈ p) ∧ ((aTwos s p o).2 = o ∨ ∃ e ∈ p, e.1 = 40 ∧ (aTwos s p o).2 = e.2.2.1)
  | [], _ => ⟨fun _ h => h, Or.inl rfl⟩
  | e :: r, o => by
    unfold aTwos
    split
    · next h =>
      have q := aTwos_mem (s := s) (p := r) (o := e.2.2.1)
      refine ⟨fun x hx => List.mem_cons_of_mem _ (q.1 x hx), Or.inr ?_⟩
      rcases q.2 with q | ⟨x, hx, h1, h2⟩
      · exact ⟨e, List.mem_cons_self .., h.1, q⟩
      · exact ⟨x, List.mem_cons_of_mem _ hx, h1, h2⟩
    · exact ⟨fun _ h => h, Or.inl rfl⟩
/-- what stays when ONEs and TWOs go -/
def aKp (p : List aE) (o b : Int) : Prop := aPx p ∧ aPd p o ∧ 0 ≤ o ∧ o < b
theorem aOnes_kp {b : Int} : ∀ {p : List aE} {o : Int}, aKp p o b → aKp (aOnes p o).1 (aOnes p o).2 b ∧ (aOnes p o).1.length ≤ p.length ∧ aTop (aOnes p o).1 ≠ 41
  | [], o, h => h.1.elim
  | e :: r, o, h => by
    unfold aOnes
    split
    · next e1 =>
      obtain ⟨h1, h2, h3, h4⟩ := h
      have q := h2 (Or.inr (Or.inl e1))
      have hx : aPx r := by
        rcases h1 with ⟨-, -, -, h1⟩ | ⟨h1, -, -⟩
        · exact h1
        · omega
      have := aOnes_kp (b := b) (p := r) (o := e.2.2.1) ⟨hx, q.2.2, q.1, by omega⟩
      exact ⟨this.1, by simp; omega, this.2.2⟩
    · next e1 => exact ⟨h, Nat.le_refl _, e1⟩
theorem aTwos_kp {b s : Int} : ∀ {p : List aE} {o : Int}, aKp p o b → aTop p ≠ 41 → aKp (aTwos s p o).1 (aTwos s p o).2 b ∧ (aTwos s p o).1.length ≤ p.length ∧ aTop (aTwos s p o).1 ≠ 41 ∧ (s = 0 → aTop (aTwos s p o).1 ≠ 40)
  | [], o, h, _ => h.1.elim
  | e :: r, o, h, ht => by
    unfold aTwos
    split
    · next e1 =>
      obtain ⟨h1, h2, h3, h4⟩ := h
      have q := h2 (Or.inl e1.1)
      have hx : aPx r ∧ aTop r ≠ 41 := by
        rcases h1 with ⟨-, h5, -, h1⟩ | ⟨h1, -, -⟩
        · exact ⟨h1, (h5 e1.1).1⟩
        · omega
      have := aTwos_kp (b := b) (s := s) (p := r) (o := e.2.2.1) ⟨hx.1, q.2.2, q.1, by omega⟩ hx.2
      exact ⟨this.1, by simp; omega, this.2.2⟩
    · next e1 => exact ⟨h, Nat.le_refl _, ht, fun w q => e1 ⟨q, Or.inl w⟩⟩
theorem aPs.tail {e : aE} {r : List aE} (h : aPs (e :: r)) (hk : e.1 ≠ 1 ∧ e.1 ≠ 3) : aPs r := by
  rcases h with ⟨h, -⟩ | ⟨-, h⟩
  · omega
  · exact h
variable {K : Int → Int} {W : Int} {s : aS}
/-- to a statement -/
theorem aQ_S {s' : aS} {r : Option (Int × Int)} (W3 : W ≤ 3000) (hw : aW W s) (lt : s.2.1 < s'.2.1) (lW : s'.2.1 ≤ W) (hl : (s'.2.2.2.length : Int) ≤ s'.2.1 + 1) (hm : s'.1 = 1 ∨ s'.1 = 4) (hp : aPs s'.2.2.2) (ha : ∀ e ∈ s'.2.2.2, aRl e → aAc s e) (hr : ∀ w b, r = some (w, b) → aAct s w ∧ 0 ≤ w ∧ w < s'.2.1 ∧ 2 ≤ b) : aQ W s s' r := by
  have a0 := hw.at0
  exact ⟨⟨by omega, lW, hl, by omega, by omega, fun _ => hp, by omega, by omega⟩, by omega, aMs_at lt hw hl lW W3, aAct.mono (by omega) (by omega) ha, fun w b e => by have := hr w b e; exact ⟨this.1, this.2.1, this.2.2.1, by omega, by omega⟩, by omega, aAc.p28 ha⟩
/-- to an operand -/
theorem aQ_X {s' : aS} {r : Option (Int × Int)} (W3 : W ≤ 3000) (hw : aW W s) (lt : s.2.1 < s'.2.1) (lW : s'.2.1 ≤ W) (hl : (s'.2.2.2.length : Int) ≤ s'.2.1 + 1) (hm : s'.1 = 2) (hp : aPx s'.2.2.2) (hd : aPd s'.2.2.2 s'.2.1) (ha : ∀ e ∈ s'.2.2.2, aRl e → aAc s e) (hr : ∀ w b, r = some (w, b) → aAct s w ∧ 0 ≤ w ∧ w < s'.2.1 ∧ 0 ≤ b ∧ (b < 2 → s.1 = 3 ∧ s'.1 = 2 ∧ s'.2.1 = s.2.1 + 1)) : aQ W s s' r := by
  have a0 := hw.at0
  exact ⟨⟨by omega, lW, hl, by omega, by omega, by omega, fun _ => ⟨hp, hd⟩, by omega⟩, by omega, aMs_at lt hw hl lW W3, aAct.mono (by omega) (by omega) ha, hr, by omega, aAc.p28 ha⟩
/-- behind an operand -/
theorem aQ_B {s' : aS} {r : Option (Int × Int)} (W3 : W ≤ 3000) (hw : aW W s) (lt : s.2.1 < s'.2.1) (lW : s'.2.1 ≤ W) (hl : (s'.2.2.2.length : Int) ≤ s'.2.1 + 1) (hm : s'.1 = 3) (hp : aKp s'.2.2.2 s'.2.2.1 s'.2.1) (ho : aAct s s'.2.2.1) (ha : ∀ e ∈ s'.2.2.2, aRl e → aAc s e) (hr : ∀ w b, r = some (w, b) → aAct s w ∧ 0 ≤ w ∧ w < s'.2.1 ∧ 2 ≤ b) : aQ W s s' r := by
  have a0 := hw.at0
  exact ⟨⟨by omega, lW, hl, by omega, by omega, by omega, by omega, fun _ => hp⟩, by omega, aMs_at lt hw hl lW W3, aAct.mono (by omega) (fun _ => ho) ha, fun w b e => by have := hr w b e; exact ⟨this.1, this.2.1, this.2.2.1, by omega, by omega⟩, by omega, aAc.p28 ha⟩
theorem aNr {Q : Int → Int → Prop} : ∀ w b, (none : Option (Int × Int)) = some (w, b) → Q w b := fun _ _ q => by cases q
theorem aNo {k a b c : Int} (h : k ≠ 40 ∧ k ≠ 41 ∧ k ≠ 23 ∧ k ≠ 24 ∧ k ≠ 28) : aRl ⟨k, a, b, c⟩ → aAc s ⟨k, a, b, c⟩ := fun q => by
  have q : k = 40 ∨ k = 41 ∨ k = 23 ∨ k = 24 ∨ k = 28 := q
  omega
theorem aPdno {k a b c x : Int} {r : List aE} (h : k ≠ 40 ∧ k ≠ 41 ∧ k ≠ 23 ∧ k ≠ 24 ∧ k ≠ 28) : aPd (⟨k, a, b, c⟩ :: r) x := fun q => by
  have q : k = 40 ∨ k = 41 ∨ k = 23 ∨ k = 24 ∨ k = 28 := q
  omega
theorem aPxs {k a b c : Int} {r : List aE} (h : k = 20 ∨ k = 21 ∨ k = 25 ∨ k = 26 ∨ k = 27 ∨ k = 29 ∨ k = 30 ∨ (k = 28 ∧ a = 1)) (hc : 0 ≤ c) (hp : aPs r) : aPx (⟨k, a, b, c⟩ :: r) := Or.inr ⟨by show k = 20 ∨ k = 21 ∨ (k = 22 ∧ _) ∨ k = 25 ∨ k = 26 ∨ k = 27 ∨ k = 29 ∨ k = 30 ∨ (k = 28 ∧ a = 1); omega, hc, hp⟩
theorem aPss {k a b c : Int} {r : List aE} (h : k = 2 ∨ (4 ≤ k ∧ k ≤ 7)) (hp : aPs r) : aPs (⟨k, a, b, c⟩ :: r) := Or.inr ⟨h, hp⟩
theorem aLn {x : aE} {p : List aE} {a b : Int} (h : (p.length : Int) ≤ a + 1) (l : a < b) : ((x :: p).length : Int) ≤ b + 1 := by simp; omega
theorem aDecl_q (hK : aK K W) (hw : aW W s) (h3 : s.1 = 0) : aAl (aQ W s) (aDecl K s) := by
  unfold aDecl
  have a0 := hw.at0
  have aw := hw.atW
  have W3 := hK.2.1
  have hp := hw.m0 h3
  have len := hw.len
  have fin : ∀ b, s.2.1 < b → b ≤ W → aQ W s (s.1, b, s.2.2.1, s.2.2.2) none := fun b b1 b2 => by
    refine ⟨⟨by show 0 ≤ b; omega, b2, by show (s.2.2.2.length : Int) ≤ b + 1; omega, hw.md, hw.m0, hw.m1, fun q => ?_, fun q => ?_⟩, Int.le_of_lt b1, aMs_at b1 hw (by show (s.2.2.2.length : Int) ≤ b + 1; omega) b2 W3, aAct.mono (Int.le_of_lt b1) (fun q => absurd (h3.symm.trans q) (by decide)) (@aPl s), fun _ _ q => by (cases q), fun q => Or.inr b1, aAc.p28 (s' := (s.1, b, s.2.2.1, s.2.2.2)) (@aPl s)⟩
    · exact absurd (h3.symm.trans q) (by decide)
    · exact absurd (h3.symm.trans q) (by decide)
  refine aAl_i (fun k => ?_) fun _ => aAl_i (fun k => aAl_i (fun q => aAl_s (fin _ (by omega) ?_)) fun _ => aAl_n) fun _ => aAl_i (fun k => aAl_i (fun q => ?_) fun _ => aAl_n) fun _ => aAl_s ?_
  · have := aK_lt hK a0 aw k (by decide)
    cases e : aNm K 3002 (s.2.1 + 1) with
    | none => exact aAl_n
    | some b =>
      have := aNm_ge hK e (by omega) (by omega)
      exact aAl_i (fun q => aAl_s (fin _ (by omega) (aK_lt hK (by omega) this.2 q (by decide)))) fun _ => aAl_n
  · have l1 := aK_lt hK a0 aw k (by decide)
    have l2 := aK_lt hK (by omega) l1 q.1 (by decide)
    have l3 := aK_lt hK (by omega) (by omega) q.2.1 (by decide)
    have l4 := aK_lt hK (by omega) (by omega) q.2.2.1 (by decide)
    have l5 := aK_lt hK (by omega) (by omega) q.2.2.2.1 (by decide)
    have l6 := aK_lt hK (by omega) (by omega) q.2.2.2.2 (by decide)
    omega
  · have l1 := aK_lt hK a0 aw k (by decide)
    have l2 := aK_lt hK (by omega) l1 q.1 (by decide)
    have l3 := aK_lt hK (by omega) (by omega) q.2 (by decide)
    have key : ∀ o : Option Int, (∀ b, o = some b → s.2.1 + 3 ≤ b ∧ b ≤ W) → aAl (aQ W s) (o.bind fun b => if K b = 41 ∧ K (b + 1) = 123 then some ((1, b + 2, s.2.2.1, ⟨3, 0, s.2.1 + 1, 0⟩ :: s.2.2.2), none) else none) := by
      intro o ho
      cases o with
      | none => exact aAl_n
      | some b =>
        have := ho b rfl
        refine aAl_i (fun c => aAl_s ?_) fun _ => aAl_n
        have l4 := aK_lt hK (by omega) this.2 c.1 (by decide)
        have l5 := aK_lt hK (by omega) l4 c.2 (by decide)
        have lb : s.2.1 < b + 2 := by omega
        have ll : (((⟨3, 0, s.2.1 + 1, 0⟩ : aE) :: s.2.2.2).length : Int) ≤ b + 2 + 1 := by simp; omega
        exact ⟨⟨by show 0 ≤ b + 2; omega, by show b + 2 ≤ W; omega, ll, ⟨by show (0 : Int) ≤ 1; decide, by show (1 : Int) ≤ 4; decide⟩, fun q => absurd (show (1 : Int) = 0 from q) (by decide), fun _ => Or.inl ⟨Or.inr ⟨rfl, by show 0 ≤ s.2.1 + 1; omega, by show s.2.1 + 1 < 3002; omega⟩, hp⟩, fun q => absurd (show (1 : Int) = 2 from q) (by decide), fun q => absurd (show (1 : Int) = 3 from q) (by decide)⟩, Int.le_of_lt lb, aMs_at lb hw ll (show b + 2 ≤ W by omega) W3, aAct.mono (Int.le_of_lt lb) (fun q => absurd (show (1 : Int) = 3 from q) (by decide)) (aCs (fun q => absurd q (by show ¬ ((3 : Int) = 40 ∨ (3 : Int) = 41 ∨ (3 : Int) = 23 ∨ (3 : Int) = 24 ∨ (3 : Int) = 28); decide)) aPl), fun _ _ q => by (cases q), fun q => absurd (show (1 : Int) = 3 from q) (by decide), aAc.p28 (aCs (fun q => absurd q (by show ¬ ((3 : Int) = 40 ∨ (3 : Int) = 41 ∨ (3 : Int) = 23 ∨ (3 : Int) = 24 ∨ (3 : Int) = 28); decide)) aPl)⟩
    refine key _ fun b hb => ?_
    split at hb
    · cases hb; omega
    · have := aNm_ge hK hb (by omega) (by omega); omega
  · have ll : (((⟨1, 0, 0, 0⟩ : aE) :: s.2.2.2).length : Int) ≤ s.2.1 + 1 := by rw [hp]; simp; omega
    refine ⟨⟨a0, aw, ll, ⟨by show (0 : Int) ≤ 1; decide, by show (1 : Int) ≤ 4; decide⟩, fun q => absurd (show (1 : Int) = 0 from q) (by decide), fun _ => Or.inl ⟨Or.inl rfl, hp⟩, fun q => absurd (show (1 : Int) = 2 from q) (by decide), fun q => absurd (show (1 : Int) = 3 from q) (by decide)⟩, Int.le_refl _, ?_, aAct.mono (Int.le_refl _) (fun q => absurd (show (1 : Int) = 3 from q) (by decide)) (aCs (fun q => absurd q (by unfold aRl; decide)) aPl), fun _ _ q => by (cases q), fun q => absurd (show (1 : Int) = 3 from q) (by decide), aAc.p28 (aCs (fun q => absurd q (by unfold aRl; decide)) aPl)⟩
    unfold aMs
    rw [h3]
    simp
    omega
theorem aStat_q (hK : aK K W) (hw : aW W s) (h3 : s.1 = 1) : aAl (aQ W s) (aStat K s) := by
  unfold aStat
  have a0 := hw.at0
  have aw := hw.atW
  have W3 := hK.2.1
  have hp := hw.m1 (Or.inl h3)
  have len := hw.len
  have pl := @aPl s
  have tl := @aTl s
  have L1 : ∀ {c : Int}, K s.2.1 = c → c ≠ 0 → s.2.1 + 1 ≤ W := fun k q => aK_lt hK a0 aw k q
  have L2 : ∀ {c : Int}, K (s.2.1 + 1) = c → c ≠ 0 → s.2.1 + 1 ≤ W → s.2.1 + 2 ≤ W := fun k q l => by have := aK_lt hK (by omega) l k q; omega
  have L3 : ∀ {c : Int}, K (s.2.1 + 2) = c → c ≠ 0 → s.2.1 + 2 ≤ W → s.2.1 + 3 ≤ W := fun k q l => by have := aK_lt hK (by omega) l k q; omega
  have L4 : ∀ {c : Int}, K (s.2.1 + 3) = c → c ≠ 0 → s.2.1 + 3 ≤ W → s.2.1 + 4 ≤ W := fun k q l => by have := aK_lt hK (by omega) l k q; omega
  have g1 : s.2.1 < s.2.1 + 1 := by omega
  have g2 : s.2.1 < s.2.1 + 2 := by omega
  have g3 : s.2.1 < s.2.1 + 3 := by omega
  have g4 : s.2.1 < s.2.1 + 4 := by omega
  have tll : (s.2.2.2.tail.length : Int) ≤ s.2.1 + 1 := by simp; omega
  have ma : aAct s s.2.1 := Or.inl (Int.le_refl _)
  refine aAl_i (fun k => aAl_s ?_) fun _ => aAl_i (fun k => aAl_s ?_) fun _ => aAl_i (fun k => aAl_s ?_) fun _ => aAl_i (fun k => aAl_i (fun _ => ?_) fun _ => aAl_n) fun _ => aAl_i (fun k => aAl_i (fun k2 => aAl_s ?_) fun _ => aAl_i (fun k2 => aAl_s ?_) fun _ => aAl_i (fun k2 => aAl_i (fun k3 => aAl_i (fun k4 => aAl_s ?_) fun _ => aAl_n) fun k3 => aAl_s ?_) fun _ => aAl_n) fun _ => aAl_i (fun k => aAl_i (fun k2 => aAl_s ?_) fun _ => aAl_n) fun _ => aAl_i (fun k => aAl_s ?_) fun _ => aAl_i (fun k => aAl_i (fun k2 => aAl_s ?_) fun _ => aAl_n) fun _ => aAl_i (fun k => aAl_s ?_) fun _ => aAl_i (fun k => aAl_i (fun k2 => aAl_s ?_) fun _ => aAl_n) fun _ => aAl_n
  · -- } of a def
    have l := L1 k.1 (by decide)
    have hp0 : s.2.2.2.tail = [] := by
      cases e : s.2.2.2 with
      | nil => rfl
      | cons x r =>
        rw [e] at hp k
        have kx : x.1 = 3 := k.2
        rcases hp with ⟨-, hp⟩ | ⟨hp, -⟩
        · exact hp
        · omega
    exact ⟨⟨by show 0 ≤ s.2.1 + 1; omega, l, by show (s.2.2.2.tail.length : Int) ≤ s.2.1 + 1 + 1; omega, ⟨by show (0 : Int) ≤ 0; decide, by show (0 : Int) ≤ 4; decide⟩, fun _ => hp0, fun q => by have q : (0 : Int) = 1 ∨ (0 : Int) = 4 := q; omega, fun q => absurd (show (0 : Int) = 2 from q) (by decide), fun q => absurd (show (0 : Int) = 3 from q) (by decide)⟩, Int.le_of_lt g1, aMs_at g1 hw (by show (s.2.2.2.tail.length : Int) ≤ s.2.1 + 1 + 1; omega) l W3, aAct.mono (Int.le_of_lt g1) (fun q => absurd (show (0 : Int) = 3 from q) (by decide)) tl, aNr, fun q => absurd (show (0 : Int) = 3 from q) (by decide), aAc.p28 tl⟩
  · have l := L1 k.1 (by decide)
    have hp0 : aPs s.2.2.2.tail := by
      cases e : s.2.2.2 with
      | nil => rw [e] at hp; exact hp.elim
      | cons x r =>
        rw [e] at hp k
        have kx : x.1 = 2 := k.2
        exact hp.tail (by omega)
    exact aQ_S W3 hw g1 l (by show (s.2.2.2.tail.length : Int) ≤ s.2.1 + 1 + 1; omega) (Or.inr rfl) hp0 tl aNr
  · have l := L1 k (by decide)
    exact aQ_S W3 hw g1 l (aLn len g1) (Or.inl h3) (aPss (Or.inl rfl) hp) (aCs (aNo (by decide)) pl) aNr
  · have l := L1 k (by decide)
    cases e : aNm K 3002 (s.2.1 + 1) with
    | none => exact aAl_n
    | some b =>
      have := aNm_ge hK e (by omega) (by omega)
      refine aAl_i (fun q => aAl_s ?_) fun _ => aAl_n
      have l2 := aK_lt hK (by omega) this.2 q (by decide)
      exact aQ_S W3 hw (show s.2.1 < b + 1 by omega) l2 (by show (s.2.2.2.length : Int) ≤ b + 1 + 1; omega) (Or.inl h3) hp pl aNr
  · have l := L2 k2 (by decide) (L1 k (by decide))
    exact aQ_X W3 hw g2 l (aLn len g2) rfl (aPxs (by decide) (by decide) hp) (aPdno (by decide)) (aCs (aNo (by decide)) pl) aNr
  · have l := L2 k2 (by decide) (L1 k (by decide))
    exact aQ_X W3 hw g2 l (aLn len g2) rfl (aPxs (by decide) (by decide) hp) (aPdno (by decide)) (aCs (aNo (by decide)) pl) aNr
  · have l := L4 k4 (by decide) (L3 k3 (by decide) (L2 k2 (by decide) (L1 k (by decide))))
    exact aQ_S W3 hw g4 l (by show (s.2.2.2.length : Int) ≤ s.2.1 + 4 + 1; omega) (Or.inr rfl) hp pl fun w b q => by cases q; exact ⟨ma, a0, g4, by decide⟩
  · have l := L2 k2 (by decide) (L1 k (by decide))
    exact aQ_X W3 hw g2 l (aLn len g2) rfl (aPxs (by decide) (by decide) hp) (fun _ => ⟨a0, ⟨g2, by show s.2.1 + 0 < s.2.1 + 2; omega⟩, hp.pd⟩) (aCs (fun _ => Or.inl (Int.le_refl _)) pl) aNr
  · have l := L2 k2 (by decide) (by rcases k with k | k <;> exact L1 k (by decide))
    have hk : (if K s.2.1 = 14 then (20 : Int) else 21) = 20 ∨ (if K s.2.1 = 14 then (20 : Int) else 21) = 21 := by split <;> simp
    exact aQ_X W3 hw g2 l (aLn len g2) rfl (aPxs (by omega) (by decide) hp) (aPdno (by omega)) (aCs (aNo (by omega)) pl) aNr
  · have l := L1 k (by decide)
    exact aQ_S W3 hw g1 l (aLn len g1) (Or.inl h3) (aPss (by decide) hp) (aCs (aNo (by decide)) pl) aNr
  · have l := L2 k2 (by decide) (by rcases k with k | k <;> exact L1 k (by decide))
    exact aQ_S W3 hw g2 l (by show (s.2.2.2.length : Int) ≤ s.2.1 + 2 + 1; omega) (Or.inr rfl) hp pl aNr
  · have l : s.2.1 + 1 ≤ W := by rcases k with k | k <;> exact L1 k (by decide)
    have hk : (if K s.2.1 = 19 then (29 : Int) else 30) = 29 ∨ (if K s.2.1 = 19 then (29 : Int) else 30) = 30 := by split <;> simp
    exact aQ_X W3 hw g1 l (aLn len g1) rfl (aPxs (by omega) (by decide) hp) (aPdno (by omega)) (aCs (aNo (by omega)) pl) aNr
  · have l := L3 k2.2 (by decide) (L2 k2.1 (by decide) (L1 k (by decide)))
    exact aQ_S W3 hw g3 l (by show (s.2.2.2.length : Int) ≤ s.2.1 + 3 + 1; omega) (Or.inr rfl) hp pl aNr
theorem aDone_q (hK : aK K W) (hw : aW W s) (h3 : s.1 = 4) : aAl (aQ W s) (aDone K s) := by
  unfold aDone
  have a0 := hw.at0
  have aw := hw.atW
  have W3 := hK.2.1
  have hp := hw.m1 (Or.inr h3)
  have len := hw.len
  have pl := @aPl s
  have tl := @aTl s
  have g1 : s.2.1 < s.2.1 + 1 := by omega
  have g2 : s.2.1 < s.2.1 + 2 := by omega
  cases e : s.2.2.2 with
  | nil => rw [e] at hp; exact hp.elim
  | cons x r =>
    have ex : ((s.1, s.2.1, s.2.2.1, x :: r) : aS) = s := by rw [← e]
    have htop : aTop (x :: r) = x.1 := rfl
    rw [e] at hp len
    have lr : (r.length : Int) + 1 = ((x :: r).length : Int) := by simp
    have pr : ∀ e ∈ r, aRl e → aAc s e := fun y hy => pl y (by rw [e]; exact List.mem_cons_of_mem _ hy)
    have px : ∀ e ∈ x :: r, aRl e → aAc s e := fun y hy => pl y (by rw [e]; exact hy)
    have stay : aPs r → aQ W s (s.1, s.2.1, s.2.2.1, r) none := fun hr => by
      refine ⟨⟨a0, aw, by show (r.length : Int) ≤ s.2.1 + 1; omega, hw.md, fun q => by have q : s.1 = 0 := q; omega, fun _ => hr, fun q => by have q : s.1 = 2 := q; omega, fun q => by have q : s.1 = 3 := q; omega⟩, Int.le_refl _, ?_, aAct.mono (Int.le_refl _) (fun q => by have q : s.1 = 3 := q; omega) pr, aNr, fun q => by have q : s.1 = 3 := q; omega, aAc.p28 pr⟩
      unfold aMs
      simp [h3, e]
      omega
    refine aAl_i (fun t => ?_) fun _ => aAl_i (fun t => aAl_s (stay (hp.tail (by rw [htop] at t; omega)))) fun _ => aAl_i (fun t => aAl_i (fun k => aAl_s ?_) fun _ => aAl_n) fun t => aAl_s ?_
    · have t : x.1 = 4 := t
      have hr := hp.tail (by omega)
      refine aAl_i (fun k => aAl_s ?_) fun _ => aAl_s (stay hr)
      have l := aK_lt hK a0 aw k (by decide)
      exact aQ_S W3 hw g1 l (aLn (a := s.2.1) (by show (r.length : Int) ≤ _; omega) g1) (Or.inl rfl) (aPss (by decide) hr) (aCs (aNo (by decide)) pr) aNr
    · have t : x.1 = 7 := t
      have l1 := aK_lt hK a0 aw k.1 (by decide)
      have l := aK_lt hK (by omega) l1 k.2 (by decide)
      exact aQ_X W3 hw g2 (by show s.2.1 + 2 ≤ W; omega) (aLn (a := s.2.1) len g2) rfl (Or.inr ⟨Or.inr (Or.inr (Or.inl ⟨rfl, t⟩)), (by show (0 : Int) ≤ 0; decide), hp⟩) (aPdno (by decide)) (aCs (aNo (by decide)) px) aNr
    · refine ⟨⟨a0, aw, len, ⟨by show (0 : Int) ≤ 1; decide, by show (1 : Int) ≤ 4; decide⟩, fun q => absurd (show (1 : Int) = 0 from q) (by decide), fun _ => hp, fun q => absurd (show (1 : Int) = 2 from q) (by decide), fun q => absurd (show (1 : Int) = 3 from q) (by decide)⟩, Int.le_refl _, ?_, aAct.mono (Int.le_refl _) (fun q => absurd (show (1 : Int) = 3 from q) (by decide)) px, aNr, fun q => absurd (show (1 : Int) = 3 from q) (by decide), aAc.p28 px⟩
      unfold aMs
      simp [h3, e]
      omega
theorem aOper_q (hK : aK K W) (hw : aW W s) (h3 : s.1 = 2) : aAl (aQ W s) (aOper K s) := by
  unfold aOper
  have a0 := hw.at0
  have aw := hw.atW
  have W3 := hK.2.1
  obtain ⟨hp, hd⟩ := hw.m2 h3
  have len := hw.len
  have pl := @aPl s
  have ma : aAct s s.2.1 := Or.inl (Int.le_refl _)
  have g1 : s.2.1 < s.2.1 + 1 := by omega
  have g2 : s.2.1 < s.2.1 + 2 := by omega
  have g3 : s.2.1 < s.2.1 + 3 := by omega
  have kp : ∀ b, s.2.1 < b → aKp s.2.2.2 s.2.1 b := fun b l => ⟨hp, hd, a0, l⟩
  refine aAl_i (fun k => aAl_s ?_) fun _ => aAl_i (fun k => aAl_s ?_) fun _ => aAl_i (fun k => aAl_s ?_) fun _ => aAl_i (fun k => aAl_i (fun k2 => aAl_i (fun k3 => aAl_s ?_) fun _ => aAl_s ?_) fun _ => aAl_i (fun k2 => aAl_s ?_) fun _ => aAl_s ?_) fun _ => aAl_n
  · have l : s.2.1 + 1 ≤ W := by rcases k with k | k | k <;> exact aK_lt hK a0 aw k (by decide)
    exact aQ_X W3 hw g1 l (aLn len g1) h3 (Or.inl ⟨Or.inr (Or.inl rfl), fun q => absurd (show (41 : Int) = 40 from q) (by decide), by show (0 : Int) ≤ 0; decide, hp⟩) (fun _ => ⟨a0, ⟨g1, by show s.2.1 + 0 < s.2.1 + 1; omega⟩, hd⟩) (aCs (fun _ => Or.inl (Int.le_refl _)) pl) aNr
  · have l := aK_lt hK a0 aw k (by decide)
    exact aQ_X W3 hw g1 l (aLn len g1) h3 (Or.inl ⟨Or.inr (Or.inr (Or.inl rfl)), fun q => absurd (show (23 : Int) = 40 from q) (by decide), by show (0 : Int) ≤ 0; decide, hp⟩) (fun _ => ⟨a0, ⟨g1, by show s.2.1 + 0 < s.2.1 + 1; omega⟩, hd⟩) (aCs (fun _ => Or.inl (Int.le_refl _)) pl) aNr
  · have l := aK_lt hK a0 aw k (by decide)
    exact aQ_B W3 hw g1 l (by show (s.2.2.2.length : Int) ≤ s.2.1 + 1 + 1; omega) rfl (kp _ g1) ma pl aNr
  · have l := aK_lt hK a0 aw k (by decide)
    have l2 := aK_lt hK (by omega) l k2 (by decide)
    have l3 := aK_lt hK (by omega) (by omega) k3 (by decide)
    exact aQ_B W3 hw g3 (by show s.2.1 + 3 ≤ W; omega) (by show (s.2.2.2.length : Int) ≤ s.2.1 + 3 + 1; omega) rfl (kp _ g3) ma pl fun w b q => by cases q; exact ⟨ma, a0, g3, by decide⟩
  · have l := aK_lt hK a0 aw k (by decide)
    have l2 := aK_lt hK (by omega) l k2 (by decide)
    exact aQ_X W3 hw g2 (by show s.2.1 + 2 ≤ W; omega) (aLn len g2) h3 (Or.inl ⟨Or.inr (Or.inr (Or.inr (Or.inr ⟨rfl, rfl⟩))), fun q => absurd (show (28 : Int) = 40 from q) (by decide), by show (0 : Int) ≤ 0; decide, hp⟩) (fun _ => ⟨a0, ⟨g2, by show s.2.1 + 0 < s.2.1 + 2; omega⟩, hd⟩) (aCs (fun _ => Or.inl (Int.le_refl _)) pl) aNr
  · have l := aK_lt hK a0 aw k (by decide)
    have l2 := aK_lt hK (by omega) l k2 (by decide)
    exact aQ_X W3 hw g2 (by show s.2.1 + 2 ≤ W; omega) (aLn len g2) h3 (Or.inl ⟨Or.inr (Or.inr (Or.inr (Or.inl rfl))), fun q => absurd (show (24 : Int) = 40 from q) (by decide), by show (0 : Int) ≤ 0; decide, hp⟩) (fun _ => ⟨a0, ⟨g2, by show s.2.1 + 0 < s.2.1 + 2; omega⟩, hd⟩) (aCs (fun _ => Or.inl (Int.le_refl _)) pl) aNr
  · have l := aK_lt hK a0 aw k (by decide)
    exact aQ_B W3 hw g1 l (by show (s.2.2.2.length : Int) ≤ s.2.1 + 1 + 1; omega) rfl (kp _ g1) ma pl aNr
theorem aPx.low {e : aE} {r : List aE} (h : aPx (e :: r)) (hk : e.1 = 40 ∨ e.1 = 41 ∨ e.1 = 23 ∨ e.1 = 24 ∨ (e.1 = 28 ∧ e.2.1 ≠ 1)) : aPx r := by
  rcases h with ⟨-, -, -, h⟩ | ⟨h, -, -⟩
  · exact h
  · omega
theorem aPx.st {e : aE} {r : List aE} (h : aPx (e :: r)) (hk : e.1 ≠ 40 ∧ e.1 ≠ 41 ∧ e.1 ≠ 23 ∧ e.1 ≠ 24 ∧ (e.1 = 28 → e.2.1 = 1)) : aPs r := by
  rcases h with ⟨h, -, -, -⟩ | ⟨-, -, h⟩
  · omega
  · exact h
theorem aPx.c0 {e : aE} {r : List aE} (h : aPx (e :: r)) : 0 ≤ e.2.2.2 := by
  rcases h with ⟨-, -, h, -⟩ | ⟨-, h, -⟩ <;> exact h
/-- the end of an expression, whatever went before -/
theorem aEnd_q {o : Int} {p : List aE} (hK : aK K W) (hw : aW W s) (h3 : s.1 = 3) (hp : aKp p o s.2.1) (hl : (p.length : Int) ≤ s.2.1 + 1) (h40 : aTop p ≠ 40) (h41 : aTop p ≠ 41) (ho : aAct s o) (ha : ∀ e ∈ p, aRl e → aAc s e) : aAl (aQ W s) (aEnd K (s.1, s.2.1, o, s.2.2.2) p) := by
  unfold aEnd
  have a0 := hw.at0
  have aw := hw.atW
  have W3 := hK.2.1
  obtain ⟨hx, hd, ho0, hoa⟩ := hp
  have g1 : s.2.1 < s.2.1 + 1 := by omega
  have g2 : s.2.1 < s.2.1 + 2 := by omega
  have L1 : ∀ {c : Int}, K s.2.1 = c → c ≠ 0 → s.2.1 + 1 ≤ W := fun k q => aK_lt hK a0 aw k q
  have L2 : ∀ {c : Int}, K (s.2.1 + 1) = c → c ≠ 0 → s.2.1 + 1 ≤ W → s.2.1 + 2 ≤ W := fun k q l => by have := aK_lt hK (by omega) l k q; omega
  cases p with
  | nil => exact aAl_n
  | cons e r =>
    have h40 : e.1 ≠ 40 := h40
    have h41 : e.1 ≠ 41 := h41
    have lr : (r.length : Int) + 1 = ((e :: r).length : Int) := by simp
    have ar : ∀ e ∈ r, aRl e → aAc s e := fun y hy => ha y (List.mem_cons_of_mem _ hy)
    have art : ∀ e ∈ r.tail, aRl e → aAc s e := fun y hy => ar y (List.mem_of_mem_tail hy)
    have lB : (r.length : Int) ≤ s.2.1 + 1 + 1 := by omega
    have lC : (r.length : Int) ≤ s.2.1 + 2 + 1 := by omega
    have kp : aRl e → (e.1 = 28 → e.2.1 ≠ 1) → aKp r e.2.2.1 (s.2.1 + 1) := fun q q1 => by
      have := hd q
      refine ⟨hx.low (by unfold aRl at q; omega), this.2.2, this.1, by omega⟩
    have c0 := hx.c0
    refine aAl_i (fun k => aAl_i (fun q => aAl_s ?_) fun _ => aAl_n) fun n23 => aAl_i (fun k => aAl_i (fun q => aAl_s ?_) fun _ => aAl_n) fun n24 => aAl_i (fun k => aAl_i (fun q => aAl_s ?_) fun _ => aAl_i (fun q => aAl_i (fun q2 => aAl_i (fun q3 => aAl_s ?_) fun _ => aAl_n) fun q2 => aAl_s ?_) fun _ => aAl_n) fun n28 => ?_
    · have rl : aRl e := Or.inr (Or.inr (Or.inl k))
      exact aQ_B W3 hw g1 (L1 q (by decide)) lB h3 (kp rl (by omega)) (ha e (List.mem_cons_self ..) rl).act ar aNr
    · have rl : aRl e := Or.inr (Or.inr (Or.inr (Or.inl k)))
      exact aQ_B W3 hw g1 (L1 q (by decide)) lB h3 (kp rl (by omega)) (ha e (List.mem_cons_self ..) rl).act ar aNr
    · have rl : aRl e := Or.inr (Or.inr (Or.inr (Or.inr k)))
      refine aQ_X W3 hw g1 (L1 q (by decide)) (by show (((_ :: r : List aE)).length : Int) ≤ s.2.1 + 1 + 1; simp; omega) rfl ?_ (fun _ => ⟨(hd rl).1, by have := (hd rl).2.1; show e.2.2.1 < s.2.1 + 1 ∧ e.2.2.1 + (e.2.2.2 + 1) < s.2.1 + 1; omega, (hd rl).2.2⟩) (aCs (fun _ => ha e (List.mem_cons_self ..) rl) ar) aNr
      rcases hx with ⟨x1, x2, x3, x4⟩ | ⟨x1, x2, x3⟩
      · exact Or.inl ⟨x1, x2, by show 0 ≤ e.2.2.2 + 1; omega, x4⟩
      · exact Or.inr ⟨x1, by show 0 ≤ e.2.2.2 + 1; omega, x3⟩
    · have rl : aRl e := Or.inr (Or.inr (Or.inr (Or.inr k)))
      refine aQ_S W3 hw g2 (L2 q3 (by decide) (L1 q (by decide))) lC (Or.inr rfl) (hx.st (by omega)) ar fun w b z => ?_
      cases z
      exact ⟨(ha e (List.mem_cons_self ..) rl).act, (hd rl).1, by have := (hd rl).2.1; show e.2.2.1 < s.2.1 + 2; omega, by omega⟩
    · have rl : aRl e := Or.inr (Or.inr (Or.inr (Or.inr k)))
      refine aQ_B W3 hw g1 (L1 q (by decide)) lB h3 (kp rl (by omega)) (ha e (List.mem_cons_self ..) rl).act ar fun w b z => ?_
      cases z
      exact ⟨(ha e (List.mem_cons_self ..) rl).act, (hd rl).1, by have := (hd rl).2.1; show e.2.2.1 < s.2.1 + 1; omega, by omega⟩
    · have hs : aPs r := hx.st (by omega)
      refine aAl_i (fun k => aAl_i (fun q => aAl_s ?_) fun _ => aAl_n) fun n20 => aAl_i (fun k => aAl_i (fun q => aAl_s ?_) fun _ => aAl_n) fun n21 => aAl_i (fun k => aAl_i (fun q => aAl_s ?_) fun _ => aAl_n) fun n22 => aAl_i (fun k => aAl_i (fun q => aAl_s ?_) fun _ => aAl_n) fun n25 => aAl_i (fun q => aAl_s ?_) fun _ => aAl_n
      · exact aQ_S W3 hw g1 (L1 q (by decide)) (aLn (a := s.2.1) (by omega) g1) (Or.inl rfl) (aPss (by decide) hs) (aCs (aNo (by decide)) ar) aNr
      · exact aQ_S W3 hw g1 (L1 q (by decide)) (aLn (a := s.2.1) (by omega) g1) (Or.inl rfl) (aPss (by decide) hs) (aCs (aNo (by decide)) ar) aNr
      · have ht : aTop r = 7 := by
          rcases hx with ⟨x1, -⟩ | ⟨x1, -, -⟩ <;> omega
        have hs2 : aPs r.tail := by
          cases r with
          | nil => exact hs.elim
          | cons y r2 => have : y.1 = 7 := ht; exact hs.tail (by omega)
        exact aQ_S W3 hw g2 (L2 q.2 (by decide) (L1 q.1 (by decide))) (by show (r.tail.length : Int) ≤ s.2.1 + 2 + 1; simp; omega) (Or.inr rfl) hs2 art aNr
      · exact aQ_X W3 hw g2 (L2 q.2 (by decide) (L1 q.1 (by decide))) (aLn (a := s.2.1) (by omega) g2) rfl (aPxs (by decide) (by decide) hs) (aPdno (by decide)) (aCs (aNo (by decide)) ar) aNr
      · exact aQ_S W3 hw g1 (L1 q (by decide)) lB (Or.inr rfl) hs ar aNr
set_option maxHeartbeats 2000000 in
theorem aBeh_q (hK : aK K W) (hw : aW W s) (h3 : s.1 = 3) : aAl (aQ W s) (aBeh K s) := by
  unfold aBeh
  have a0 := hw.at0
  have aw := hw.atW
  have W3 := hK.2.1
  have len := hw.len
  have m3 := hw.m3 h3
  have kp : aKp s.2.2.2 s.2.2.1 s.2.1 := m3
  have q1 := aOnes_mem (p := s.2.2.2) (o := s.2.2.1)
  have r1 := aOnes_kp kp
  have q2 := aTwos_mem (s := stOf (K s.2.1)) (p := (aOnes s.2.2.2 s.2.2.1).1) (o := (aOnes s.2.2.2 s.2.2.1).2)
  have r2 := aTwos_kp (s := stOf (K s.2.1)) r1.1 r1.2.2
  have o0 : aAct s s.2.2.1 := Or.inr (Or.inl ⟨h3, rfl⟩)
  have o1 : aAct s (aOnes s.2.2.2 s.2.2.1).2 := by
    rcases q1.2 with h | ⟨e, he, h1, h2⟩
    · rw [h]; exact o0
    · rw [h2]; exact aAct.pile he (Or.inr (Or.inl h1))
  have o2 : aAct s (aTwos (stOf (K s.2.1)) (aOnes s.2.2.2 s.2.2.1).1 (aOnes s.2.2.2 s.2.2.1).2).2 := by
    rcases q2.2 with h | ⟨e, he, h1, h2⟩
    · rw [h]; exact o1
    · rw [h2]; exact aAct.pile (q1.1 e he) (Or.inl h1)
  have pp : ∀ e ∈ (aTwos (stOf (K s.2.1)) (aOnes s.2.2.2 s.2.2.1).1 (aOnes s.2.2.2 s.2.2.1).2).1, aRl e → aAc s e := fun e he hr => aPl e (q1.1 e (q2.1 e he)) hr
  dsimp only
  generalize aTwos (stOf (K s.2.1)) (aOnes s.2.2.2 s.2.2.1).1 (aOnes s.2.2.2 s.2.2.1).2 = p2 at *
  have l2 : (p2.1.length : Int) ≤ s.2.1 + 1 := by omega
  refine aAl_i (fun z => aEnd_q hK hw h3 r2.1 l2 (r2.2.2.2 z) r2.2.2.1 o2 pp) fun z => aAl_s ?_
  have hk : K s.2.1 ≠ 0 := fun q => z (by rw [q]; decide)
  have l := aK_lt hK a0 aw rfl hk
  have g1 : s.2.1 < s.2.1 + 1 := by omega
  obtain ⟨k1, k2, k3, k4⟩ := r2.1
  have st : 0 < stOf (K s.2.1) := by
    have : 0 ≤ stOf (K s.2.1) := by unfold stOf; repeat' (split <;> try decide)
    omega
  refine aQ_X W3 hw g1 l (aLn l2 g1) rfl (Or.inl ⟨Or.inl rfl, fun _ => ⟨r2.2.2.1, st⟩, (by show (0 : Int) ≤ 0; decide), k1⟩) (fun _ => ⟨k3, by show p2.2 < s.2.1 + 1 ∧ p2.2 + 0 < s.2.1 + 1; omega, k2⟩) (aCs (fun _ => aAc.of (show (40 : Int) ≠ 28 by decide) o2) pp) fun w b hwb => ?_
  have fin : aAct s p2.2 ∧ 0 ≤ p2.2 ∧ p2.2 < s.2.1 + 1 := ⟨o2, k3, by omega⟩
  split at hwb
  · cases hwb; exact ⟨fin.1, fin.2.1, fin.2.2, by decide, fun _ => ⟨h3, rfl, rfl⟩⟩
  · split at hwb
    · cases hwb; exact ⟨fin.1, fin.2.1, fin.2.2, by decide, fun _ => ⟨h3, rfl, rfl⟩⟩
    · cases hwb
theorem aNext_q (hK : aK K W) (hw : aW W s) : aAl (aQ W s) (aNext K s) := by
  unfold aNext
  have md := hw.md
  exact aAl_i (fun h => aDecl_q hK hw h) fun _ => aAl_i (fun h => aStat_q hK hw h) fun _ => aAl_i (fun h => aOper_q hK hw h) fun _ => aAl_i (fun h => aBeh_q hK hw h) fun _ => aDone_q hK hw (by omega)
/-- what is still to come comes at active words -/
theorem aRest.act (hK : aK K W) {F : Int → List Int} (h : aRest K s F) : aW W s → ∀ w, F w ≠ [] → aAct s w := by
  obtain ⟨n, h⟩ := h
  revert s F h
  induction n with
  | zero =>
    intro s F h _ w hw
    obtain ⟨-, -, -, e⟩ := h
    rw [e] at hw
    exact absurd rfl hw
  | succ n ih =>
    intro s F h hs w hw
    rcases h with ⟨s', e, h⟩ | ⟨s', F', x, b, e, h, q⟩
    · have q := aNext_q hK hs _ _ e; exact q.cov w (ih h q.w w hw)
    · have k := aNext_q hK hs _ _ e
      rw [q] at hw
      dsimp only at hw
      split at hw
      · next z => rw [z]; exact (k.lay _ _ rfl).1
      · exact k.cov w (ih h k.w w hw)
/-- the next turn -/
theorem aRest.next {F : Int → List Int} {s' : aS} {r : Option (Int × Int)} (h : aRest K s F) (e : aNext K s = some (s', r)) : ∃ F', aRest K s' F' ∧ match r with
    | none => F = F'
    | some (w, b) => F = fun x => if x = w then b :: F' x else F' x := by
  rcases h.inv with ⟨a, b, c, -⟩ | ⟨s2, e2, h2⟩ | ⟨s2, F', w, b, e2, h2, q⟩
  · exfalso
    unfold aNext at e
    rw [a] at e
    simp [aStat, b, c] at e
  · rw [e] at e2; cases e2; exact ⟨_, h2, rfl⟩
  · rw [e] at e2; cases e2; exact ⟨_, h2, q⟩
/-- a turn of the same outcome -/
theorem aRest.alike {F : Int → List Int} {s' : aS} (h : aRest K s F) (e : aNext K s' = aNext K s) (hm : s.1 ≠ 1) : aRest K s' F := by
  rcases h.inv with ⟨a, b, c, -⟩ | ⟨s2, e2, h2⟩ | ⟨s2, F', w, b, e2, h2, q⟩
  · exact absurd a hm
  · exact aRest.go (e.trans e2) h2
  · rw [q]; exact aRest.reg (e.trans e2) h2
theorem aNext_3 {t : aS} (h : t.1 = 3) : aNext K t = aBeh K t := by simp [aNext, h]
theorem aEnd_pile {o : Int} {x p : List aE} : aEnd K (s.1, s.2.1, o, x) p = aEnd K (s.1, s.2.1, o, s.2.2.2) p := by
  cases p <;> rfl
/-- a ONE goes -/
theorem aNext_one {e : aE} {r : List aE} (hm : s.1 = 3) (hp : s.2.2.2 = e :: r) (he : e.1 = 41) : aNext K (s.1, s.2.1, e.2.2.1, r) = aNext K s := by
  rw [aNext_3 hm, aNext_3 (t := (s.1, s.2.1, e.2.2.1, r)) hm]
  simp only [aBeh, hp]
  rw [show aOnes (e :: r) s.2.2.1 = aOnes r e.2.2.1 by rw [aOnes, if_pos he], aEnd_pile, ← hp]
/-- a TWO goes -/
theorem aNext_two {e : aE} {r : List aE} (hm : s.1 = 3) (hp : s.2.2.2 = e :: r) (he : e.1 = 40) (ht : aTop r ≠ 41) (hs : stOf (K s.2.1) = 0 ∨ stOf (K s.2.1) ≤ stOf e.2.1) : aNext K (s.1, s.2.1, e.2.2.1, r) = aNext K s := by
  have o1 : ∀ (p : List aE) (o : Int), aTop p ≠ 41 → aOnes p o = (p, o) := fun p o h => by
    cases p with
    | nil => rfl
    | cons x r => rw [aOnes, if_neg (show ¬ x.1 = 41 from h)]
  rw [aNext_3 hm, aNext_3 (t := (s.1, s.2.1, e.2.2.1, r)) hm]
  simp only [aBeh, hp]
  rw [o1 r e.2.2.1 ht, o1 (e :: r) s.2.2.1 (by show e.1 ≠ 41; omega)]
  simp only
  rw [show aTwos (stOf (K s.2.1)) (e :: r) s.2.2.1 = aTwos (stOf (K s.2.1)) r e.2.2.1 by rw [aTwos, if_pos ⟨he, hs⟩], aEnd_pile, ← hp]
end M31

/-! THE REFERENCE, part 32: well-made text, step by step -/
section M32
end M32
/-- ghosts of each step: the values that lie, what is open, how much was opened so far, its def (or the program), where that begins -/
abbrev tQ : Type := (Int → Int) × (Int → List Int) × (Int → Int) × (Int → Int) × (Int → Int)
abbrev tQ.h (x : tQ) : Int → Int := (x : (Int → Int) × (Int → List Int) × (Int → Int) × (Int → Int) × (Int → Int)).1
abbrev tQ.s (x : tQ) : Int → List Int := (x : (Int → Int) × (Int → List Int) × (Int → Int) × (Int → Int) × (Int → Int)).2.1
abbrev tQ.w (x : tQ) : Int → Int := (x : (Int → Int) × (Int → List Int) × (Int → Int) × (Int → Int) × (Int → Int)).2.2.1
abbrev tQ.r (x : tQ) : Int → Int := (x : (Int → Int) × (Int → List Int) × (Int → Int) × (Int → Int) × (Int → Int)).2.2.2.1
abbrev tQ.z (x : tQ) : Int → Int := (x : (Int → Int) × (Int → List Int) × (Int → Int) × (Int → Int) × (Int → Int)).2.2.2.2
section M32
end M32
/-- the text: steps, what they are told, the defs' lists, the declared ints, how many defs begin -/
abbrev tE : Type := (Int → Int) × (Int → Int) × (Int → Int) × (Int → Int) × (Int → Prop) × (Int)
abbrev tE.S (x : tE) : Int → Int := (x : (Int → Int) × (Int → Int) × (Int → Int) × (Int → Int) × (Int → Prop) × (Int)).1
abbrev tE.T (x : tE) : Int → Int := (x : (Int → Int) × (Int → Int) × (Int → Int) × (Int → Int) × (Int → Prop) × (Int)).2.1
abbrev tE.lm (x : tE) : Int → Int := (x : (Int → Int) × (Int → Int) × (Int → Int) × (Int → Int) × (Int → Prop) × (Int)).2.2.1
abbrev tE.lf (x : tE) : Int → Int := (x : (Int → Int) × (Int → Int) × (Int → Int) × (Int → Int) × (Int → Prop) × (Int)).2.2.2.1
abbrev tE.D (x : tE) : Int → Prop := (x : (Int → Int) × (Int → Int) × (Int → Int) × (Int → Int) × (Int → Prop) × (Int)).2.2.2.2.1
abbrev tE.dd (x : tE) : Int := (x : (Int → Int) × (Int → Int) × (Int → Int) × (Int → Int) × (Int → Prop) × (Int)).2.2.2.2.2
section M32
def tPu (k : Int) : Int := if k = 6 ∨ k = 15 ∨ k = 18 ∨ k = 21 then 1 else 0
/-- what a step of kind k makes of the height h and the open ones s; m: the arguments of a call -/
def tMv (k m h : Int) (s : List Int) : Option (Int × List Int) :=
  if k = 1 ∨ k = 2 then some (h + 1, s)
  else if k = 3 ∨ k = 4 then if 1 ≤ h then some (h, s) else none
  else if k = 5 then if 2 ≤ h then some (h - 1, s) else none
  else if k = 6 then some (h, 1 :: s)
  else if k = 7 then if 1 ≤ h ∧ s.head? = some 1 then some (h - 1, 2 :: s.tail) else none
  else if k = 8 then if 1 ≤ h ∧ s.head? = some 2 then some (h, s.tail) else none
  else if k = 9 then if 0 ≤ m ∧ m ≤ h then some (h - m + 1, s) else none
  else if k = 10 ∨ k = 12 ∨ k = 26 ∨ k = 27 then if 1 ≤ h then some (h - 1, s) else none
  else if k = 13 then if 2 ≤ h then some (h - 2, s) else none
  else if k = 11 ∨ k = 14 ∨ k = 28 then some (h, s)
  else if k = 15 then if 1 ≤ h then some (h - 1, 7 :: s) else none
  else if k = 16 then if s.head? = some 7 then some (h, s) else none
  else if k = 17 then if s.head? = some 7 then some (h, s.tail) else none
  else if k = 18 then some (h, 3 :: s)
  else if k = 19 then if 1 ≤ h ∧ s.head? = some 3 then some (h - 1, 4 :: s.tail) else none
  else if k = 20 then if s.head? = some 4 then some (h, s.tail) else none
  else if k = 21 then some (h, 5 :: s)
  else if k = 22 then if s.head? = some 5 then some (h, 6 :: s.tail) else none
  else if k = 23 then if 1 ≤ h ∧ s.head? = some 6 then some (h - 1, s.tail) else none
  else if k = 24 ∨ k = 25 then if (4 ∈ s ∨ 5 ∈ s) ∧ ¬ 6 ∈ s then some (h, s) else none
  else none
/-- the int x may be named at step k -/
def tOk (E : tE) (Γ : tQ) (k x : Int) : Prop := E.2.2.2.2.1 x ∨ (Γ.2.2.2.1 k < E.2.2.2.2.2 ∧ E.2.2.2.1 (Γ.2.2.2.1 k) ≤ x ∧ x < E.2.2.2.1 (Γ.2.2.2.1 k) + E.2.2.1 (Γ.2.2.2.1 k)) ∨ ∃ j, 0 ≤ j ∧ j < k ∧ E.1 j = 11 ∧ Γ.2.2.2.1 j = Γ.2.2.2.1 k ∧ E.2.1 j = x
/-- what a step of kind k is told, t -/
def tVk (E : tE) (Γ : tQ) (n k t : Int) : Prop := ((k = 3 ∨ k = 13) → 0 ≤ t ∧ t < 8) ∧ (k = 4 → 18 ≤ t ∧ t ≤ 20) ∧ (k = 5 → 2 ≤ t ∧ t ≤ 17) ∧ (k = 9 → 0 ≤ t ∧ t < Γ.2.2.2.1 n ∧ t < E.2.2.2.2.2) ∧ ((k = 2 ∨ k = 11 ∨ k = 12 ∨ k = 28) → 0 ≤ t ∧ t < 3002) ∧ ((k = 2 ∨ k = 12 ∨ k = 28) → tOk E Γ n t) ∧ (k = 26 → Γ.2.2.2.1 n < E.2.2.2.2.2)
def tAr (E : tE) (k t : Int) : Int := if k = 9 then E.2.2.1 t else 0
/-- step k is well made, but for where it goes -/
def tK (E : tE) (Γ : tQ) (k : Int) : Prop := ((E.1 k = 29 ∧ Γ.1 k = 0 ∧ Γ.2.1 k = [] ∧ Γ.1 (k + 1) = 0 ∧ Γ.2.1 (k + 1) = [] ∧ Γ.2.2.1 (k + 1) = Γ.2.2.1 k ∧ Γ.2.2.2.1 (k + 1) = Γ.2.2.2.1 k + 1 ∧ Γ.2.2.2.2 (k + 1) = k + 1) ∨ (E.1 k = 30 ∧ Γ.1 k = 0 ∧ Γ.2.1 k = []) ∨ (tMv (E.1 k) (tAr E (E.1 k) (E.2.1 k)) (Γ.1 k) (Γ.2.1 k) = some (Γ.1 (k + 1), Γ.2.1 (k + 1)) ∧ Γ.2.2.1 (k + 1) = Γ.2.2.1 k + tPu (E.1 k) ∧ Γ.2.2.2.1 (k + 1) = Γ.2.2.2.1 k ∧ Γ.2.2.2.2 (k + 1) = Γ.2.2.2.2 k)) ∧ tVk E Γ k (E.1 k) (E.2.1 k)
def tGo (k : Int) : Prop := k = 7 ∨ k = 15 ∨ k = 16 ∨ k = 19 ∨ k = 20 ∨ k = 23 ∨ k = 24 ∨ k = 25 ∨ k = 26
def tHj (k h : Int) : Int := if k = 15 ∨ k = 19 ∨ k = 23 ∨ k = 26 then h - 1 else h
/-- where a step of kind kd at k goes: t -/
def tJt (E : tE) (Γ : tQ) (n k kd t : Int) : Prop := 0 ≤ t ∧ t ≤ n ∧ Γ.2.2.2.1 t = Γ.2.2.2.1 k ∧ Γ.1 t = tHj kd (Γ.1 k) ∧ ((t < n ∧ E.1 t = 18) ∨ (k < t ∧ (6 ∈ Γ.2.1 t → 6 ∈ Γ.2.1 k)) ∨ (kd = 23 ∧ 6 ∈ Γ.2.1 k ∧ ¬ 6 ∈ Γ.2.1 t ∧ t < n))
def tJ (E : tE) (Γ : tQ) (n k : Int) : Prop := tJt E Γ n k (E.1 k) (E.2.1 k)
/-- the first n steps are well made; those of pd aren't told yet -/
def tF (E : tE) (Γ : tQ) (n : Int) (pd : Int → Prop) : Prop := ∀ k, 0 ≤ k → k < n → tK E Γ k ∧ (tGo (E.1 k) → pd k ∨ tJ E Γ n k)
def tQe (Γ Γ' : tQ) (j : Int) : Prop := Γ'.1 j = Γ.1 j ∧ Γ'.2.1 j = Γ.2.1 j ∧ Γ'.2.2.1 j = Γ.2.2.1 j ∧ Γ'.2.2.2.1 j = Γ.2.2.2.1 j ∧ Γ'.2.2.2.2 j = Γ.2.2.2.2 j
end M32
/-- E' has all of E's first n steps, and Γ' its ghosts; jumps may be told anew -/
def tX (E E' : tE) (Γ Γ' : tQ) (n : Int) : Prop := (∀ j, 0 ≤ j → j < n → E'.1 j = E.1 j) ∧ (∀ j, 0 ≤ j → j < n → ¬ tGo (E.1 j) → E'.2.1 j = E.2.1 j) ∧ (∀ j, 0 ≤ j → j ≤ n → tQe Γ Γ' j) ∧ (E.2.2.2.2.2 ≤ E'.2.2.2.2.2) ∧ (∀ x, 0 ≤ x → x < E.2.2.2.2.2 → E'.2.2.1 x = E.2.2.1 x ∧ E'.2.2.2.1 x = E.2.2.2.1 x) ∧ (∀ x, E.2.2.2.2.1 x → E'.2.2.2.2.1 x)
theorem tX.S {E E' : tE} {Γ Γ' : tQ} {n : Int} (h'' : tX E E' Γ Γ' n) : ∀ j, 0 ≤ j → j < n → E'.1 j = E.1 j := h''.1
theorem tX.T {E E' : tE} {Γ Γ' : tQ} {n : Int} (h'' : tX E E' Γ Γ' n) : ∀ j, 0 ≤ j → j < n → ¬ tGo (E.1 j) → E'.2.1 j = E.2.1 j := h''.2.1
theorem tX.G {E E' : tE} {Γ Γ' : tQ} {n : Int} (h'' : tX E E' Γ Γ' n) : ∀ j, 0 ≤ j → j ≤ n → tQe Γ Γ' j := h''.2.2.1
theorem tX.d {E E' : tE} {Γ Γ' : tQ} {n : Int} (h'' : tX E E' Γ Γ' n) : E.2.2.2.2.2 ≤ E'.2.2.2.2.2 := h''.2.2.2.1
theorem tX.lm {E E' : tE} {Γ Γ' : tQ} {n : Int} (h'' : tX E E' Γ Γ' n) : ∀ x, 0 ≤ x → x < E.2.2.2.2.2 → E'.2.2.1 x = E.2.2.1 x ∧ E'.2.2.2.1 x = E.2.2.2.1 x := h''.2.2.2.2.1
theorem tX.D {E E' : tE} {Γ Γ' : tQ} {n : Int} (h'' : tX E E' Γ Γ' n) : ∀ x, E.2.2.2.2.1 x → E'.2.2.2.2.1 x := h''.2.2.2.2.2
section M32
theorem tX.ok {E E' : tE} {Γ Γ' : tQ} {n k x : Int} (h : tX E E' Γ Γ' n) (hk : 0 ≤ k ∧ k ≤ n) (r0 : 0 ≤ Γ.2.2.2.1 k) (a : tOk E Γ k x) : tOk E' Γ' k x := by
  have gk := (h.G k hk.1 hk.2).2.2.2.1
  rcases a with a | ⟨a1, a2, a3⟩ | ⟨j, j0, jk, j1, j2, j3⟩
  · exact Or.inl (h.D x a)
  · have := h.lm _ r0 a1
    have := h.d
    exact Or.inr (Or.inl ⟨by rw [gk]; omega, by rw [gk]; omega, by rw [gk]; omega⟩)
  · refine Or.inr (Or.inr ⟨j, j0, jk, by rw [h.S j j0 (by omega)]; exact j1, by rw [gk, (h.G j j0 (by omega)).2.2.2.1]; exact j2, ?_⟩)
    rw [h.T j j0 (by omega) (by rw [j1]; unfold tGo; decide)]
    exact j3
theorem tX.vk {E E' : tE} {Γ Γ' : tQ} {n k kd t : Int} (h : tX E E' Γ Γ' n) (hk : 0 ≤ k ∧ k ≤ n) (r0 : 0 ≤ Γ.2.2.2.1 k) (a : tVk E Γ k kd t) : tVk E' Γ' k kd t := by
  obtain ⟨a1, a2, a3, a4, a5, a6, a7⟩ := a
  refine ⟨a1, a2, a3, fun q => ?_, a5, fun q => h.ok hk r0 (a6 q), fun q => ?_⟩
  · have := a4 q
    have := h.d
    rw [(h.G k hk.1 hk.2).2.2.2.1]
    omega
  · have := a7 q
    have := h.d
    rw [(h.G k hk.1 hk.2).2.2.2.1]
    omega
theorem tX.k {E E' : tE} {Γ Γ' : tQ} {n k : Int} (h : tX E E' Γ Γ' n) (hk : 0 ≤ k ∧ k < n) (r0 : 0 ≤ Γ.2.2.2.1 k) (a : tK E Γ k) : tK E' Γ' k := by
  have S := h.S k hk.1 hk.2
  obtain ⟨g1, g2, g3, g4, g5⟩ := h.G k hk.1 (by omega)
  obtain ⟨f1, f2, f3, f4, f5⟩ := h.G (k + 1) (by omega) (by omega)
  obtain ⟨a, v⟩ := a
  have v' := h.vk ⟨hk.1, by omega⟩ r0 v
  unfold tK
  rw [S, g1, g2, g3, g4, g5, f1, f2, f3, f4, f5]
  by_cases hg : tGo (E.1 k)
  · have e : ∀ t, tAr E' (E.1 k) t = tAr E (E.1 k) (E.2.1 k) := fun t => by
      unfold tAr
      rw [if_neg (by unfold tGo at hg; omega), if_neg (by unfold tGo at hg; omega)]
    rw [e]
    refine ⟨a, ?_⟩
    unfold tGo at hg
    exact ⟨fun q => by omega, fun q => by omega, fun q => by omega, fun q => by omega, fun q => by omega, fun q => by omega, v'.2.2.2.2.2.2⟩
  · rw [h.T k hk.1 hk.2 hg]
    have e : tAr E' (E.1 k) (E.2.1 k) = tAr E (E.1 k) (E.2.1 k) := by
      unfold tAr
      split
      · next q => have := v.2.2.2.1 q; exact (h.lm _ this.1 this.2.2).1
      · rfl
    rw [e]
    exact ⟨a, v'⟩
theorem tX.jt {E E' : tE} {Γ Γ' : tQ} {n n' k kd t : Int} (h : tX E E' Γ Γ' n) (hn : n ≤ n') (hk : 0 ≤ k ∧ k < n) (a : tJt E Γ n k kd t) : tJt E' Γ' n' k kd t := by
  obtain ⟨a1, a2, a3, a4, a5⟩ := a
  obtain ⟨g1, g2, g3, g4, g5⟩ := h.G k hk.1 (by omega)
  obtain ⟨f1, f2, f3, f4, f5⟩ := h.G t a1 a2
  refine ⟨a1, by omega, by rw [f4, g4]; exact a3, by rw [f1, g1]; exact a4, ?_⟩
  rw [f2, g2]
  rcases a5 with ⟨a5, a6⟩ | a5 | ⟨a5, a6, a7, a8⟩
  · exact Or.inl ⟨by omega, by rw [h.S t a1 a5]; exact a6⟩
  · exact Or.inr (Or.inl a5)
  · exact Or.inr (Or.inr ⟨a5, a6, a7, by omega⟩)
/-- what a text says at its beginning -/
def tB (Γ : tQ) : Prop := Γ.1 0 = 0 ∧ Γ.2.1 0 = [] ∧ Γ.2.2.1 0 = 0 ∧ Γ.2.2.2.1 0 = 0 ∧ Γ.2.2.2.2 0 = 0
end M32
/-- what follows for each step -/
def tR (Γ : tQ) (k : Int) : Prop := (0 ≤ Γ.1 k) ∧ (Γ.1 k ≤ k - Γ.2.2.2.2 k) ∧ (0 ≤ Γ.2.2.2.2 k) ∧ (((Γ.2.1 k).length : Int) ≤ Γ.2.2.1 k - Γ.2.2.1 (Γ.2.2.2.2 k)) ∧ (Γ.2.2.2.1 (Γ.2.2.2.2 k) = Γ.2.2.2.1 k) ∧ (0 ≤ Γ.2.2.2.1 k) ∧ (0 ≤ Γ.2.2.1 k)
theorem tR.h0 {Γ : tQ} {k : Int} (h'' : tR Γ k) : 0 ≤ Γ.1 k := h''.1
theorem tR.hz {Γ : tQ} {k : Int} (h'' : tR Γ k) : Γ.1 k ≤ k - Γ.2.2.2.2 k := h''.2.1
theorem tR.z0 {Γ : tQ} {k : Int} (h'' : tR Γ k) : 0 ≤ Γ.2.2.2.2 k := h''.2.2.1
theorem tR.sw {Γ : tQ} {k : Int} (h'' : tR Γ k) : ((Γ.2.1 k).length : Int) ≤ Γ.2.2.1 k - Γ.2.2.1 (Γ.2.2.2.2 k) := h''.2.2.2.1
theorem tR.rz {Γ : tQ} {k : Int} (h'' : tR Γ k) : Γ.2.2.2.1 (Γ.2.2.2.2 k) = Γ.2.2.2.1 k := h''.2.2.2.2.1
theorem tR.r0 {Γ : tQ} {k : Int} (h'' : tR Γ k) : 0 ≤ Γ.2.2.2.1 k := h''.2.2.2.2.2.1
theorem tR.w0 {Γ : tQ} {k : Int} (h'' : tR Γ k) : 0 ≤ Γ.2.2.1 k := h''.2.2.2.2.2.2
section M32
def oAl {α : Type} (Q : α → Prop) (o : Option α) : Prop := ∀ x, o = some x → Q x
theorem oAl_n {α : Type} {Q : α → Prop} : oAl Q none := fun _ h => by cases h
theorem oAl_s {α : Type} {Q : α → Prop} {x : α} (h : Q x) : oAl Q (some x) := fun _ e => by cases e; exact h
theorem oAl_i {α : Type} {Q : α → Prop} {c : Prop} [Decidable c] {a b : Option α} (h1 : c → oAl Q a) (h2 : ¬ c → oAl Q b) : oAl Q (if c then a else b) := by
  by_cases q : c
  · rw [if_pos q]; exact h1 q
  · rw [if_neg q]; exact h2 q
theorem tPu0 (k : Int) : 0 ≤ tPu k := by unfold tPu; split <;> decide
theorem tMv_q {k m h : Int} {s : List Int} (h0 : 0 ≤ h) : oAl (fun x => 0 ≤ x.1 ∧ x.1 ≤ h + 1 ∧ (x.2.length : Int) ≤ s.length + tPu k) (tMv k m h s) := by
  unfold tMv
  have p0 := tPu0 k
  have S : ∀ a : Int, 0 ≤ a → a ≤ h + 1 → oAl (fun x : Int × List Int => 0 ≤ x.1 ∧ x.1 ≤ h + 1 ∧ (x.2.length : Int) ≤ s.length + tPu k) (some (a, s)) := fun a a0 a1 => oAl_s ⟨a0, a1, by show (s.length : Int) ≤ _; omega⟩
  have St : ∀ a : Int, 0 ≤ a → a ≤ h + 1 → oAl (fun x : Int × List Int => 0 ≤ x.1 ∧ x.1 ≤ h + 1 ∧ (x.2.length : Int) ≤ s.length + tPu k) (some (a, s.tail)) := fun a a0 a1 => oAl_s ⟨a0, a1, by show (s.tail.length : Int) ≤ _; rw [List.length_tail]; omega⟩
  have Sc : ∀ a v : Int, 0 ≤ a → a ≤ h + 1 → tPu k = 1 → oAl (fun x : Int × List Int => 0 ≤ x.1 ∧ x.1 ≤ h + 1 ∧ (x.2.length : Int) ≤ s.length + tPu k) (some (a, v :: s)) := fun a v a0 a1 p => oAl_s ⟨a0, a1, by show ((v :: s).length : Int) ≤ _; rw [List.length_cons]; omega⟩
  have Sr : ∀ a v w : Int, 0 ≤ a → a ≤ h + 1 → s.head? = some w → oAl (fun x : Int × List Int => 0 ≤ x.1 ∧ x.1 ≤ h + 1 ∧ (x.2.length : Int) ≤ s.length + tPu k) (some (a, v :: s.tail)) := fun a v w a0 a1 p => oAl_s ⟨a0, a1, by
    show ((v :: s.tail).length : Int) ≤ _
    cases s with
    | nil => cases p
    | cons x r => simp; omega⟩
  have pu : ∀ {x : Int}, k = x → tPu x = 1 → tPu k = 1 := fun e q => by rw [e]; exact q
  refine oAl_i (fun _ => S _ (by omega) (by omega)) fun _ => oAl_i (fun _ => oAl_i (fun _ => S _ (by omega) (by omega)) fun _ => oAl_n) fun _ => oAl_i (fun _ => oAl_i (fun _ => S _ (by omega) (by omega)) fun _ => oAl_n) fun _ => oAl_i (fun q => Sc _ _ (by omega) (by omega) (pu q rfl)) fun _ => oAl_i (fun _ => oAl_i (fun q => Sr _ _ _ (by omega) (by omega) q.2) fun _ => oAl_n) fun _ => oAl_i (fun _ => oAl_i (fun q => St _ (by omega) (by omega)) fun _ => oAl_n) fun _ => oAl_i (fun _ => oAl_i (fun q => S _ (by omega) (by omega)) fun _ => oAl_n) fun _ => oAl_i (fun _ => oAl_i (fun q => S _ (by omega) (by omega)) fun _ => oAl_n) fun _ => oAl_i (fun _ => oAl_i (fun q => S _ (by omega) (by omega)) fun _ => oAl_n) fun _ => oAl_i (fun _ => S _ (by omega) (by omega)) fun _ => oAl_i (fun q => oAl_i (fun _ => Sc _ _ (by omega) (by omega) (pu q rfl)) fun _ => oAl_n) fun _ => oAl_i (fun _ => oAl_i (fun _ => S _ (by omega) (by omega)) fun _ => oAl_n) fun _ => oAl_i (fun _ => oAl_i (fun _ => St _ (by omega) (by omega)) fun _ => oAl_n) fun _ => oAl_i (fun q => Sc _ _ (by omega) (by omega) (pu q rfl)) fun _ => oAl_i (fun _ => oAl_i (fun q => Sr _ _ _ (by omega) (by omega) q.2) fun _ => oAl_n) fun _ => oAl_i (fun _ => oAl_i (fun _ => St _ (by omega) (by omega)) fun _ => oAl_n) fun _ => oAl_i (fun q => Sc _ _ (by omega) (by omega) (pu q rfl)) fun _ => oAl_i (fun _ => oAl_i (fun q => Sr _ _ _ (by omega) (by omega) q) fun _ => oAl_n) fun _ => oAl_i (fun _ => oAl_i (fun _ => St _ (by omega) (by omega)) fun _ => oAl_n) fun _ => oAl_i (fun _ => oAl_i (fun _ => S _ (by omega) (by omega)) fun _ => oAl_n) fun _ => oAl_n
theorem tMv_h {k m h h' : Int} {s s' : List Int} (e : tMv k m h s = some (h', s')) (h0 : 0 ≤ h) : 0 ≤ h' ∧ h' ≤ h + 1 ∧ (s'.length : Int) ≤ s.length + tPu k := tMv_q h0 _ e
theorem tF.nr {E : tE} {Γ : tQ} {n : Int} {pd : Int → Prop} (h : tF E Γ n pd) (hb : tB Γ) (hs : ∀ k, 0 ≤ k → k < n → E.1 k ≠ 30) : ∀ m : Nat, (m : Int) ≤ n → tR Γ m := by
  intro m
  induction m with
  | zero => intro _; obtain ⟨b1, b2, b3, b4, b5⟩ := hb; exact ⟨by simp [b1], by simp [b1, b5], by simp [b5], by simp [b2, b5], by simp [b5], by simp [b4], by simp [b3]⟩
  | succ m ih =>
    intro hm
    have q := ih (by omega)
    obtain ⟨q1, q2, q3, q4, q5, q6, q7⟩ := q
    have hk := (h m (by omega) (by omega)).1.1
    have n30 := hs m (by omega) (by omega)
    rw [show ((m + 1 : Nat) : Int) = (m : Int) + 1 by omega]
    rcases hk with ⟨k1, k2, k3, k4, k5, k6, k7, k8⟩ | ⟨k1, -⟩ | ⟨k1, k2, k3, k4⟩
    · exact ⟨by omega, by omega, by omega, by rw [k5, k8, k6]; simp, by rw [k8], by omega, by omega⟩
    · exact absurd k1 n30
    · have p := tPu0 (E.1 m)
      have t := tMv_h k1 q1
      exact ⟨t.1, by rw [k4]; omega, by rw [k4]; exact q3, by rw [k4, k2]; omega, by rw [k4, k3]; exact q5, by rw [k3]; exact q6, by omega⟩
end M32

