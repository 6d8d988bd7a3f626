/-! THE CLASS, part 1: the small calls, where they answer -/
section P1
variable {X : jm_X} {d : Nat} {P : Int → ab_m → Prop}
theorem c_mP_place {μ : ab_m} (hP : ∀ r, P r μ) : jj_mP_place X d 0 (ab_la [0]) [] μ P := bk_mP_place_0 rfl (hP _)
theorem c_mP_clear {μ : ab_m} (hP : ∀ μ', (∀ c i, ¬ (c = 100 ∧ i = 1) → μ' c i = μ c i) → μ' 100 1 = 0 → P (μ 100 1) μ') : jj_mP_clear X d 0 (ab_la [0]) [] μ P :=
  bk_mP_clear_0 rfl fun μ1 e => hP μ1 (fun c i h => by rw [e, ab_mud, if_neg h]) (by rw [e, ab_mud, if_pos ⟨rfl, rfl⟩])
theorem c_mP_input {μ : ab_m} {v : Int} (hi : 0 ≤ μ 100 1) (h2 : μ 100 1 < 200) (hP : ∀ μ', (∀ c i, c ≠ 101 → ¬ (c = 100 ∧ i = 1) → μ' c i = μ c i) → μ' 100 1 = μ 100 1 + 1 → P (μ 100 1 + 1) μ') : jj_mP_input X d 0 (ab_la [0, v]) [] μ P := by
  refine bk_mP_input_0 rfl ⟨fun _ => ⟨by omega, fun μ1 e1 μ2 e2 => ?_⟩, fun w => by omega⟩
  have g : μ2 100 1 = μ 100 1 + 1 := by rw [e2, ab_mud, if_pos ⟨rfl, rfl⟩, e1, mu_ne (by decide)]; exact ab_wi (by omega) (by omega)
  rw [g]
  exact hP μ2 (fun c i a b => by rw [e2, ab_mud, if_neg b, e1, mu_ne a]) g
theorem c_mP_told {μ : ab_m} {i : Int} (h : 0 ≤ i ∧ i ≤ 7) (hP : ∀ r, P r μ) : jj_mP_told X d 0 (ab_la [0, i]) [] μ P := by
  refine bk_mP_told_0 rfl ?_
  simp only [la1]
  exact ⟨⟨fun _ => hP _, fun _ => hP _, fun _ => hP _, fun _ => ⟨fun _ => hP _, fun _ => hP _⟩, fun _ => ⟨fun _ => hP _, fun _ => hP _⟩, fun _ => ⟨fun _ => hP _, fun _ => hP _⟩, fun _ => ⟨fun _ => hP _, fun _ => hP _⟩, fun _ => ⟨fun _ => hP _, fun _ => hP _⟩, trivial⟩, fun w => by omega⟩
noncomputable def pdB (row k : Int) : Int := ab_and (ab_w (ab_ushrL row (8 * k))) 255
/-- feed, where nothing is wrong -/
theorem c_mP_feed {μ : ab_m} {l : ab_l} {row n t : Int} (l0 : l 0 = 0) (l1 : l 1 = row) (l3 : l 3 = n) (ht : μ 0 1 = t) (ht0 : 0 ≤ t) (h1 : 1 ≤ n ∧ n ≤ 8) (hB : ∀ k, 0 ≤ k → k < n → fdF (pdB row k)) (hr : t + n ≤ 3000) (hP : ∀ μ', (∀ c i, c ≠ 1 → ¬ (c = 0 ∧ i = 1) → μ' c i = μ c i) → μ' 0 1 = t + n → P (t + n) μ') : jj_mP_feed X d 0 l [] μ P := by
  have s106 : ∀ (m : Nat) (l : ab_l) (μ1 : ab_m) (k : Int), l 0 = 0 → l 1 = row → l 3 = n → l 4 = k → 0 ≤ k → k ≤ n → (n - k).toNat = m → (∀ c i, c ≠ 1 → ¬ (c = 0 ∧ i = 1) → μ1 c i = μ c i) → μ1 0 1 = t + k → jj_mP_feed X d 106 l [] μ1 P := by
    intro m
    induction m using Nat.strongRecOn with
    | ind m ih =>
      intro l μ1 k h0 h1' h3 h4 hk hkn hm hf hq
      refine bk_mP_feed_106 h0 ?_
      simp only [h1', h3, h4, hq]
      rw [show ab_w (k + 1) = k + 1 from ab_wi (by omega) (by omega)]
      refine ⟨fun w => ?_, fun w => ⟨by omega, fun μ2 e2 μ3 e3 => ?_⟩⟩
      · have e : k = n := by omega
        subst e
        exact hP μ1 hf hq
      · refine ih _ (by omega) _ μ3 (k + 1) h0 h1' h3 rfl (by omega) (by omega) rfl (fun c i a b => ?_) ?_
        · rw [e3, ab_mud, if_neg b, e2, mu_ne a]; exact hf c i a b
        · rw [e3, ab_mud, if_pos ⟨rfl, rfl⟩, e2, mu_ne (by decide), hq, ab_wi (by omega) (by omega)]; omega
  have s24 : ∀ (m : Nat) (l : ab_l) (k : Int), l 0 = 0 → l 1 = row → l 3 = n → l 4 = k → 0 ≤ k → k ≤ n → (n - k).toNat = m → jj_mP_feed X d 24 l [] μ P := by
    intro m
    induction m using Nat.strongRecOn with
    | ind m ih =>
      intro l k h0 h1' h3 h4 hk hkn hm
      refine bk_mP_feed_24 h0 ?_
      simp only [h1', h3, h4, ht]
      rw [show ab_w (k + 1) = k + 1 from ab_wi (by omega) (by omega), show ab_w (8 * k) = 8 * k from ab_wi (by omega) (by omega), show ab_w (t + n) = t + n from ab_wi (by omega) (by omega)]
      refine ⟨fun w => ⟨fun _ => s106 _ _ μ 0 h0 h1' h3 rfl (by omega) (by omega) rfl (fun _ _ _ _ => rfl) (by rw [ht]; omega), fun w2 => by omega⟩, fun w => ?_⟩
      have b := hB k hk w
      unfold fdF pdB at b
      have nx : ∀ v, jj_mP_feed X d 24 (ab_up (ab_up l 5 v) 4 (k + 1)) [] μ P := fun v => ih _ (by omega) _ (k + 1) h0 h1' h3 rfl (by omega) (by omega) rfl
      exact ⟨fun _ => nx _, fun w2 => ⟨fun w3 => by omega, fun w3 => ⟨fun _ => nx _, fun w4 => by omega⟩⟩⟩
  refine bk_mP_feed_0 l0 ?_
  rw [l3]
  exact ⟨fun w => by omega, fun _ => ⟨fun _ => s24 _ _ 0 l0 l1 l3 rfl (by omega) (by omega) rfl, fun w => by omega⟩⟩
theorem c_mP_printed {μ : ab_m} {i : Int} (h0 : 0 ≤ i) (h1 : i < μ 100 3) (hp : μ 100 3 ≤ 300) (hP : ∀ r, P r μ) : jj_mP_printed X d 0 (ab_la [0, i]) [] μ P := by
  refine bk_mP_printed_0 rfl ?_
  simp only [la1]
  exact ⟨fun w => by omega, fun _ => ⟨fun _ => ⟨by omega, hP _⟩, fun w => by omega⟩⟩
theorem c_mP_colour {μ : ab_m} {r : Int} (hi : μ 0 15 ≠ 0) (h0 : 0 ≤ r) (h1 : r < μ 88 6) (hr : μ 88 6 ≤ 300) (hP : ∀ r, P r μ) : jj_mP_colour X d 0 (ab_la [0, r]) [] μ P := by
  refine bk_mP_colour_0 rfl ?_
  simp only [la1]
  exact ⟨fun _ => ⟨fun w => by omega, fun _ => ⟨fun _ => ⟨by omega, hP _⟩, fun w => by omega⟩⟩, fun w => absurd w hi⟩
theorem c_mP_code {μ : ab_m} {bt i p : Int} (ha : bt = 0 → μ 0 9 ≠ 0 ∧ 0 ≤ i ∧ i < μ 45 5 ∧ μ 45 5 ≤ 400) (hb : bt ≠ 0 → μ 0 15 ≠ 0 ∧ 0 ≤ i ∧ i < μ 88 5 ∧ μ 88 5 ≤ 400) (hp : 0 ≤ p ∧ p ≤ 4) (hP : ∀ r, P r μ) : jj_mP_code X d 0 (ab_la [0, bt, i, p]) [] μ P := by
  have s46 : ∀ c : Int, 0 ≤ c → ab_is 1 c → 0 ≤ i → i < μ c 5 → μ c 5 ≤ 400 → jj_mP_code X d 46 (ab_la [0, bt, i, p]) [(2, c)] μ P := fun c hc his i0 i1 i4 => by
    refine bk_mP_code_46 rfl ?_
    simp only [la2, la3]
    have ii : (0 : Int) ≤ i ∧ i < 400 := by omega
    exact ⟨hc, fun w => by omega, fun _ => ⟨hc, his, fun w => by omega, fun _ => ⟨fun w => by omega, fun _ => ⟨fun _ => ⟨⟨fun _ => ⟨hc, ii, hP _⟩, fun _ => ⟨hc, ii, hP _⟩, fun _ => ⟨hc, ii, hP _⟩, fun _ => ⟨hc, ii, hP _⟩, trivial⟩, fun _ => ⟨hc, ii, hP _⟩⟩, fun w => by omega⟩⟩⟩⟩
  refine bk_mP_code_0 rfl ?_
  simp only [la1]
  refine ⟨fun q => ⟨fun _ => ⟨fun _ => ?_, fun w => absurd q w⟩, fun w => absurd w (ha q).1⟩, fun q => ⟨fun _ => ⟨fun w => absurd w q, fun _ => ?_⟩, fun w => absurd w (hb q).1⟩⟩
  · have := ha q
    exact s46 45 (by decide) (by show _ ∨ _; decide) this.2.1 this.2.2.1 this.2.2.2
  · have := hb q
    exact s46 88 (by decide) (by show _ ∨ _; decide) this.2.1 this.2.2.1 this.2.2.2
end P1

