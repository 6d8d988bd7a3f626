/-! THE CLASS, part k7: Holdings -/
section K7
variable {X : jm_X} {d : Nat} {P : Int → ab_m → Prop} {μ μ' : ab_m} {o i : Int}
theorem c_mHo_begin {k : Int} (hk : 0 ≤ k ∧ k < 400) (hP : ∀ μ', (∀ c j, c ≠ 80 → μ' c j = μ c j) → P 0 μ') : jj_mHo_begin X (d + 1) 0 (ab_la [71, k]) [] μ P := by
  refine bk_mHo_begin_0 rfl ?_
  simp only [la1]
  rw [show ab_w (k * 7) = k * 7 from ab_wi (by omega) (by omega)]
  exact ⟨by omega, fun μ1 e1 => hP μ1 fun c j y => by rw [e1]; unfold ab_cp; rw [if_neg (fun q => y q.1)]⟩
theorem c_mHo_flow {t : Int} (ht : 0 ≤ t ∧ t < 400) (hP : ∀ r μ', (r = 0 ∨ r = 1) → (∀ c j, c ≠ 79 → μ' c j = μ c j) → P r μ') : jj_mHo_flow X d 0 (ab_la [71, t]) [] μ P := by
  have s4 : ∀ (m : Nat) (l : ab_l) (μ1 : ab_m) (ch k : Int), l 0 = 71 → l 1 = t → l 2 = ch → l 3 = k → (ch = 0 ∨ ch = 1) → 0 ≤ k → k ≤ 7 → (7 - k).toNat = m → (∀ c j, c ≠ 79 → μ1 c j = μ c j) → jj_mHo_flow X d 4 l [] μ1 P := by
    intro m
    induction m using Nat.strongRecOn with
    | ind m ih =>
      intro l μ1 ch k l0 l1 l2 l3 c01 k0 k1 em f
      refine bk_mHo_flow_4 l0 ?_
      rw [l1, l2, l3, show ab_w (t * 7) = t * 7 from ab_wi (by omega) (by omega), show ab_w (t * 7 + k) = t * 7 + k from ab_wi (by omega) (by omega), show ab_w (k + 1) = k + 1 from ab_wi (by omega) (by omega)]
      exact ⟨fun _ => ⟨by omega, hP ch μ1 c01 f⟩, fun z => ⟨by omega, by omega, by omega, fun _ => ih _ (by omega) _ μ1 ch (k + 1) l0 l1 l2 rfl c01 (by omega) (by omega) rfl f, fun _ => ⟨by omega, fun μ2 e2 => ih _ (by omega) _ μ2 1 (k + 1) l0 l1 rfl rfl (Or.inr rfl) (by omega) (by omega) rfl fun c j y => by rw [e2, mu_ne y]; exact f c j y⟩⟩⟩
  exact bk_mHo_flow_0 rfl (s4 _ _ μ 0 0 rfl rfl rfl rfl (Or.inl rfl) (by omega) (by omega) rfl fun _ _ _ => rfl)
theorem c_mHo_pass (ho : ab_is 1 o) (hi : 0 ≤ i ∧ i < 400) (hk : kI μ o i) (hf : -1 ≤ μ 72 i ∧ μ 72 i < 400) (hP : ∀ μ', (∀ c j, c ≠ 80 → μ' c j = μ c j) → P 0 μ') : jj_mHo_pass X (d + 1) 0 (ab_la [71, o, i]) [] μ P := by
  have ho' : o = 45 ∨ o = 88 := ho
  refine bk_mHo_pass_0 rfl ho ?_
  simp only [la1, la2]
  refine c_mCo_defines ho hi (fun y => ⟨fun _ => ⟨hi, ?_⟩, fun y => absurd y (by decide)⟩) fun _ => ⟨fun y => absurd rfl y, fun _ => hP μ fun _ _ _ => rfl⟩
  have dd := hk.d y
  generalize hD : μ (o + 2) i = D at *
  rw [show ab_w (D * 7) = D * 7 from ab_wi (by omega) (by omega)]
  have s22 : ∀ (m : Nat) (l : ab_l) (μ1 : ab_m) (k : Int), l 0 = 71 → l 1 = o → l 2 = i → l 3 = D * 7 → l 4 = k → 0 ≤ k → k ≤ 7 → (7 - k).toNat = m → (∀ c j, c ≠ 80 → μ1 c j = μ c j) → jj_mHo_pass X (d + 1) 22 l [] μ1 P := by
    intro m
    induction m using Nat.strongRecOn with
    | ind m ih =>
      intro l μ1 k l0 l1 l2 l3 l4 k0 k1 em f
      refine bk_mHo_pass_22 l0 (by rw [l1]; exact ho) ?_
      rw [l2, l3, l4, f 72 i (by decide), show ab_w (D * 7 + k) = D * 7 + k from ab_wi (by omega) (by omega), show ab_w (k + 1) = k + 1 from ab_wi (by omega) (by omega)]
      refine ⟨fun _ => ⟨hi, fun _ => hP μ1 f, fun z => ?_⟩, fun z => ⟨by omega, by omega, by omega, fun μ2 e2 => ih _ (by omega) _ μ2 (k + 1) l0 l1 l2 l3 rfl (by omega) (by omega) rfl fun c j y => by rw [e2, mu_ne y]; exact f c j y⟩⟩
      rw [shr6 (x := μ 72 i) (by omega)]
      exact ⟨by omega, by omega, fun μ2 e2 => hP μ2 fun c j y => by rw [e2, mu_ne y]; exact f c j y⟩
  exact s22 _ _ μ 0 rfl rfl rfl rfl rfl (by omega) (by omega) rfl fun _ _ _ => rfl
theorem c_mHo_follow {k : Int} (ho : ab_is 1 o) (hW : kW μ o) (hk : 0 ≤ k ∧ k < μ o 5) (hH : kH μ (μ o 5)) (hP : ∀ r μ', (r = 0 ∨ r = 1) → (∀ c j, c ≠ 79 → c ≠ 80 → μ' c j = μ c j) → P r μ') : jj_mHo_follow X (d + 2) 0 (ab_la [71, o, k]) [] μ P := by
  have ho' : o = 45 ∨ o = 88 := ho
  have hn := hW.n
  have gw : ∀ {μ1 : ab_m}, (∀ c j, c ≠ 79 → c ≠ 80 → μ1 c j = μ c j) → kW μ1 o ∧ kH μ1 (μ o 5) ∧ μ1 o 5 = μ o 5 := fun {μ1} f => by
    have g : kG μ μ1 := fun c j y => f c j (by omega) (by omega)
    exact ⟨g.w ho hW, hH.same (f 71 6 (by decide) (by decide)) fun c j a b => f c j (by omega) (by omega), g.c ho (Int.le_refl _) (by omega)⟩
  have s59 : ∀ (l : ab_l) (μ1 : ab_m) (s0 ls : Int), l 0 = 71 → l 1 = o → l 3 = ls → 0 ≤ ls → ls < μ o 5 → (∀ c j, c ≠ 79 → c ≠ 80 → μ1 c j = μ c j) → jj_mHo_follow X (d + 2) 59 l [(0, s0)] μ1 P := by
    intro l μ1 s0 ls l0 l1 l3 a b f
    refine bk_mHo_follow_59 l0 (by rw [l1]; exact ho) ?_
    obtain ⟨w1, h1, e5⟩ := gw f
    rw [l1, l3, show ab_w (ls + 1) = ls + 1 from ab_wi (by omega) (by omega)]
    exact c_mCo_goesOn ho (by omega) (fun y => ⟨fun y => absurd y (by decide), fun _ => c_mHo_flow (by omega) fun r μ2 _ f2 => ⟨fun _ => hP 1 μ2 (Or.inr rfl) fun c j y1 y2 => by rw [f2 c j y1]; exact f c j y1 y2, fun _ => ⟨fun _ => hP 0 μ2 (Or.inl rfl) fun c j y1 y2 => by rw [f2 c j y1]; exact f c j y1 y2, fun _ => hP 1 μ2 (Or.inr rfl) fun c j y1 y2 => by rw [f2 c j y1]; exact f c j y1 y2⟩⟩⟩) ⟨fun _ => ⟨fun _ => hP 0 μ1 (Or.inl rfl) f, fun _ => hP 1 μ1 (Or.inr rfl) f⟩, fun y => absurd rfl y⟩
  have s14 : ∀ (m : Nat) (l : ab_l) (μ1 : ab_m) (ls i : Int), l 0 = 71 → l 1 = o → l 3 = ls → l 4 = i → 0 ≤ ls → ls < μ o 5 → 0 ≤ i → i ≤ 400 → (ls + 1 - i).toNat = m → (∀ c j, c ≠ 79 → c ≠ 80 → μ1 c j = μ c j) → jj_mHo_follow X (d + 2) 14 l [] μ1 P := by
    intro m
    induction m using Nat.strongRecOn with
    | ind m ih =>
      intro l μ1 ls i l0 l1 l3 l4 a b i0 i1 em f
      obtain ⟨w1, h1, e5⟩ := gw f
      refine bk_mHo_follow_14 l0 (by rw [l1]; exact ho) ?_
      rw [l1, l3, l4, show ab_w (i + 1) = i + 1 from ab_wi (by omega) (by omega)]
      refine ⟨fun _ => c_mCo_leapsInside ho (by omega) (fun _ y1 y2 => ⟨fun y => absurd y (by decide), fun _ => ⟨by omega, c_mHo_flow (by omega) fun r μ2 _ f2 => ⟨fun _ => s59 _ μ2 0 ls l0 l1 l3 a b fun c j y1 y2 => by rw [f2 c j y1]; exact f c j y1 y2, fun _ => s59 _ μ2 1 ls l0 l1 l3 a b fun c j y1 y2 => by rw [f2 c j y1]; exact f c j y1 y2⟩⟩⟩) ⟨fun _ => s59 _ μ1 0 ls l0 l1 l3 a b f, fun y => absurd rfl y⟩, fun z => ?_⟩
      have c := h1.c
      have ff := h1.f i i0 (by omega)
      exact c_mHo_pass ho (by omega) (w1.i i i0 (by omega)) (by omega) fun μ2 f2 => ih _ (by omega) _ μ2 ls (i + 1) l0 l1 l3 rfl a b (by omega) (by omega) rfl fun c j y1 y2 => by rw [f2 c j y2]; exact f c j y1 y2
  refine bk_mHo_follow_0 rfl ho ?_
  simp only [la1, la2]
  refine c_mHo_begin (by omega) fun μ1 f1 => ?_
  have f1' : ∀ c j, c ≠ 79 → c ≠ 80 → μ1 c j = μ c j := fun c j _ y => f1 c j y
  obtain ⟨w1, h1, e5⟩ := gw f1'
  exact c_mCo_lastOf ho (by omega) (by omega) fun r r0 r1 => s14 _ _ μ1 r k rfl rfl rfl rfl (by omega) (by omega) (by omega) (by omega) rfl f1'
theorem c_mHo_find (ho : ab_is 1 o) (hW : kW μ o) (hP : ∀ μ', (∀ c j, ¬ (71 ≤ c ∧ c ≤ 80) → ¬ (o + 7 ≤ c ∧ c ≤ o + 11) → μ' c j = μ c j) → kH μ' (μ o 5) → P 0 μ') : jj_mHo_find X (d + 3) 0 (ab_la [71, o]) [] μ P := by
  have ho' : o = 45 ∨ o = 88 := ho
  refine bk_mHo_find_0 rfl ho (c_mCo_findReached (o := o) ho hW.n fun μa fa => c_mCo_findLeaders (o := o) ho (hW.x fa).n fun μb fb μ0 e0 => ?_)
  have fx := fa.trans fb
  have hWb := hW.x fx
  have gb : ∀ c j, ¬ (71 ≤ c ∧ c ≤ 80) → μ0 c j = μb c j := fun c j y => by rw [e0, ab_mud, if_neg (by omega)]
  have g0 : kG μb μ0 := gb
  have hW0 := g0.w ho hWb
  have hn := hW0.n
  have hr := hW0.r
  have en : μ0 o 5 = μ o 5 := by rw [g0.c ho (Int.le_refl _) (by omega)]; exact fx o 5 (by omega)
  have v0 : μ0 71 6 = 0 := by rw [e0, ab_mud, if_pos ⟨rfl, rfl⟩]
  have hP' : ∀ μ', kG μ0 μ' → kH μ' (μ0 o 5) → P 0 μ' := fun μ' f h => hP μ' (fun c j y1 y2 => by rw [f c j y1, g0 c j y1]; exact fx c j y2) (by rw [← en]; exact h)
  show jj_mArr_fill3 X (d + 2) 0 (ab_la [78, 0, ab_w (μ0 o 6 * 7), 0, 0]) [] μ0 _
  rw [show ab_w (μ0 o 6 * 7) = μ0 o 6 * 7 from ab_wi (by omega) (by omega)]
  have s132 : ∀ (m : Nat) (l : ab_l) (μ1 : ab_m) (lf : Int), l 0 = 71 → l 1 = o → l 3 = lf → lf ≤ 1000000 → lf.toNat = m → kG μ0 μ1 → kH μ1 (μ0 o 5) → jj_mHo_find X (d + 3) 132 l [] μ1 P := by
    intro m
    induction m using Nat.strongRecOn with
    | ind m ih =>
      intro l μ1 lf l0 l1 l3 lf1 em g h
      refine bk_mHo_find_132 l0 (by rw [l1]; exact ho) ?_
      rw [l3]
      refine ⟨fun _ => hP' μ1 g h, fun z => ⟨fun _ => hP' μ1 g h, fun _ => ?_⟩⟩
      have s145 : ∀ (m2 : Nat) (l : ab_l) (μ2 : ab_m) (i : Int), l 0 = 71 → l 1 = o → l 3 = lf → l 4 = i → 0 ≤ i → i ≤ 400 → (μ0 o 5 - i).toNat = m2 → kG μ0 μ2 → kH μ2 (μ0 o 5) → jj_mHo_find X (d + 3) 145 l [] μ2 P := by
        intro m2
        induction m2 using Nat.strongRecOn with
        | ind m2 ih2 =>
          intro l μ2 i l0 l1 l3 l4 i0 i1 em2 g h
          have e5 : μ2 o 5 = μ0 o 5 := g.c ho (Int.le_refl _) (by omega)
          refine bk_mHo_find_145 l0 (by rw [l1]; exact ho) ?_
          rw [l1, l3, l4, e5, show ab_w (lf + -1) = lf - 1 from ab_wi (by omega) (by omega), show ab_w (i + 1) = i + 1 from ab_wi (by omega) (by omega)]
          refine ⟨fun _ => ih _ (by omega) _ μ2 (lf - 1) l0 l1 rfl (by omega) rfl g h, fun z => ⟨by omega, fun _ => ih2 _ (by omega) _ μ2 (i + 1) l0 l1 l3 rfl (by omega) (by omega) rfl g h, fun _ => ⟨by omega, fun _ => ih2 _ (by omega) _ μ2 (i + 1) l0 l1 l3 rfl (by omega) (by omega) rfl g h, fun _ => ?_⟩⟩⟩
          refine c_mHo_follow ho (g.w ho hW0) (by omega) (by rw [e5]; exact h) fun r μ3 _ f3 => ?_
          have g3 : kG μ0 μ3 := g.trans fun c j y => f3 c j (by omega) (by omega)
          have h3 : kH μ3 (μ0 o 5) := h.same (f3 71 6 (by decide) (by decide)) fun c j a b => f3 c j (by omega) (by omega)
          exact ⟨fun _ => ih2 _ (by omega) _ μ3 (i + 1) l0 l1 l3 rfl (by omega) (by omega) rfl g3 h3, fun _ => ih2 _ (by omega) _ μ3 (i + 1) l0 l1 l3 rfl (by omega) (by omega) rfl g3 h3⟩
      exact s145 _ _ μ1 0 l0 l1 l3 rfl (by omega) (by omega) rfl g h
  have s31 : ∀ (m : Nat) (l : ab_l) (μ1 : ab_m) (i : Int), l 0 = 71 → l 1 = o → l 2 = i → 0 ≤ i → i ≤ μ0 o 5 → (μ0 o 5 - i).toNat = m → kG μ0 μ1 → kH μ1 i → jj_mHo_find X (d + 3) 31 l [] μ1 P := by
    intro m
    induction m using Nat.strongRecOn with
    | ind m ih =>
      intro l μ1 i l0 l1 l2 i0 i1 em g h
      have e5 : μ1 o 5 = μ0 o 5 := g.c ho (Int.le_refl _) (by omega)
      refine bk_mHo_find_31 l0 (by rw [l1]; exact ho) ?_
      rw [l1, l2, e5, show ab_w (μ0 o 5 * 7) = μ0 o 5 * 7 from ab_wi (by omega) (by omega)]
      refine ⟨fun z => ?_, fun z => ?_⟩
      · have ei : i = μ0 o 5 := by omega
        rw [ei] at h
        refine c_mArr_fill3 (n := 2800) ⟨79, rfl, by decide, by decide⟩ (by decide) (by omega) fun μ2 f2 => c_mArr_fill3 (n := 2800) ⟨79, rfl, by decide, by decide⟩ (by decide) (by omega) fun μ3 f3 => ?_
        exact s132 _ _ μ3 1000000 l0 l1 rfl (by omega) rfl (g.trans fun c j y => by rw [f3 c j (by omega)]; exact f2 c j (by omega)) (h.same (by rw [f3 71 6 (by decide), f2 71 6 (by decide)]) fun c j a b => by rw [f3 c j (by omega)]; exact f2 c j (by omega))
      · have i4 : 0 ≤ i ∧ i < 400 := by omega
        have c := h.c
        have wi := (g.w ho hW0).i i i0 (by omega)
        have go : ∀ s0 : Int, (s0 ≠ 0 → kD μ1 o i) → jj_mHo_find X (d + 3) 71 l [(0, s0)] μ1 P := by
          intro s0 hd
          refine bk_mHo_find_71 l0 (by rw [l1]; exact ho) ?_
          rw [l1, l2, show ab_w (i + 1) = i + 1 from ab_wi (by omega) (by omega)]
          refine ⟨fun _ => ⟨i4, fun μ2 e2 => ih _ (by omega) _ μ2 (i + 1) l0 l1 rfl (by omega) (by omega) rfl (g.mu e2 (by decide)) ?_⟩, fun y => c_mHo_factFor ho i4 wi (hd y) h fun r μ2 g2 f72 c1 c2 hf r0 r1 => ⟨i4, fun μ3 e3 => ih _ (by omega) _ μ3 (i + 1) l0 l1 rfl (by omega) (by omega) rfl ((g.trans g2).mu e3 (by decide)) ?_⟩⟩
          · have e6 : μ2 71 6 = μ1 71 6 := by rw [e2, mu_ne (by decide)]
            refine ⟨by omega, fun f f0 f1 => ?_, fun k k0 k1 => ?_⟩
            · rw [e6] at f1
              rw [e2, mu_ne (by decide), mu_ne (by decide), mu_ne (by decide)]
              exact h.h f f0 f1
            · rw [e6]
              by_cases e : k = i
              · rw [e2, ab_mud, if_pos ⟨rfl, e⟩]; omega
              · rw [e2, ab_mud, if_neg (fun q => e q.2)]; exact h.f k k0 (by omega)
          · have e6 : μ3 71 6 = μ2 71 6 := by rw [e3, mu_ne (by decide)]
            refine ⟨by omega, fun f f0 f1 => ?_, fun k k0 k1 => ?_⟩
            · rw [e6] at f1
              rw [e3, mu_ne (by decide), mu_ne (by decide), mu_ne (by decide)]
              exact hf f f0 f1
            · rw [e6]
              by_cases e : k = i
              · rw [e3, ab_mud, if_pos ⟨rfl, e⟩]; omega
              · rw [e3, ab_mud, if_neg (fun q => e q.2), f72]
                have := h.f k k0 (by omega)
                omega
        refine ⟨i4, fun _ => go 0 fun y => absurd rfl y, fun _ => ⟨i4, fun y => go 1 fun _ => Or.inl (by omega), fun _ => c_mCo_isWorkedOut ho i4 (fun y1 y2 => ⟨fun y => absurd y (by decide), fun _ => go 1 fun _ => Or.inl (by omega)⟩) ⟨fun _ => go 0 fun y => absurd rfl y, fun y => absurd rfl y⟩⟩⟩
  refine c_mArr_fill3 (n := 2100) ⟨78, rfl, by decide, by decide⟩ (by decide) (by omega) fun μ1 f1 => s31 _ _ μ1 0 rfl rfl rfl (by omega) (by omega) rfl (fun c j y => f1 c j (by omega)) ⟨by rw [f1 71 6 (by decide), v0]; omega, fun f f0 f1' => by rw [f1 71 6 (by decide), v0] at f1'; omega, fun k k0 k1 => by omega⟩
theorem c_mHo_original {r n : Int} (hr : 0 ≤ r ∧ r < 300) (hH : kH μ n) (hn : n ≤ 400) (hP : ∀ q, 0 ≤ q → q < 300 → P q μ) : jj_mHo_original X (d + 2) 0 (ab_la [71, r]) [] μ P := by
  have c := hH.c
  have s2 : ∀ (m : Nat) (l : ab_l) (k : Int), l 0 = 71 → l 1 = r → l 2 = k → 0 ≤ k → k ≤ 7 → (7 - k).toNat = m → jj_mHo_original X (d + 2) 2 l [] μ P := by
    intro m
    induction m using Nat.strongRecOn with
    | ind m ih =>
      intro l k l0 l1 l2 k0 k1 em
      refine bk_mHo_original_2 l0 ?_
      rw [l1, l2, show ab_w (r * 7) = r * 7 from ab_wi (by omega) (by omega), show ab_w (r * 7 + k) = r * 7 + k from ab_wi (by omega) (by omega)]
      refine ⟨fun _ => hP r hr.1 hr.2, fun z => ⟨by omega, by omega, ?_⟩⟩
      have s31 : ∀ (m2 : Nat) (l : ab_l) (lf : Int), l 0 = 71 → l 1 = r → l 2 = k → l 5 = lf → lf ≤ 64 → lf.toNat = m2 → jj_mHo_original X (d + 2) 31 l [] μ P := by
        intro m2
        induction m2 using Nat.strongRecOn with
        | ind m2 ih2 =>
          intro l lf l0 l1 l2 l5 lf1 em2
          refine bk_mHo_original_31 l0 ?_
          rw [l1, l2, l5, show ab_w (k + 1) = k + 1 from ab_wi (by omega) (by omega), show ab_w (k * 64) = k * 64 from ab_wi (by omega) (by omega)]
          refine ⟨fun _ => ih _ (by omega) _ (k + 1) l0 l1 rfl (by omega) (by omega) rfl, fun z2 => ⟨fun _ => ih _ (by omega) _ (k + 1) l0 l1 rfl (by omega) (by omega) rfl, fun _ => c_mLong_ntz fun q q0 q1 => ?_⟩⟩
          rw [show ab_w (k * 64 + q) = k * 64 + q from ab_wi (by omega) (by omega), show ab_w (lf + -1) = lf - 1 from ab_wi (by omega) (by omega)]
          refine ⟨fun _ => ih2 _ (by omega) _ (lf - 1) l0 l1 l2 rfl (by omega) rfl, fun y => ⟨by omega, fun _ => ih2 _ (by omega) _ (lf - 1) l0 l1 l2 rfl (by omega) rfl, fun y1 => ⟨by omega, fun _ => ih2 _ (by omega) _ (lf - 1) l0 l1 l2 rfl (by omega) rfl, fun _ => ⟨by omega, ?_⟩⟩⟩⟩
          have := (hH.h (k * 64 + q) (by omega) y).2 y1
          exact hP _ this.1 this.2
      exact s31 _ _ 64 l0 l1 l2 rfl (by omega) rfl
  exact bk_mHo_original_0 rfl (s2 _ _ 0 rfl rfl rfl (by omega) (by omega) rfl)
theorem c_mHo_holder {n : Int} (ho : ab_is 1 o) (hi : 0 ≤ i ∧ i < 400) (hH : kH μ n) (hn : n ≤ 400) (hP : ∀ q, -1 ≤ q → q < 300 → P q μ) : jj_mHo_holder X (d + 2) 0 (ab_la [71, o, i]) [] μ P := by
  have c := hH.c
  have s5 : ∀ (m : Nat) (l : ab_l) (k b : Int), l 0 = 71 → l 1 = o → l 2 = i → l 3 = b → l 4 = k → -1 ≤ b → b < 300 → 0 ≤ k → k ≤ 7 → (7 - k).toNat = m → jj_mHo_holder X (d + 2) 5 l [] μ P := by
    intro m
    induction m using Nat.strongRecOn with
    | ind m ih =>
      intro l k b l0 l1 l2 l3 l4 b0 b1 k0 k1 em
      refine bk_mHo_holder_5 l0 (by rw [l1]; exact ho) ?_
      rw [l3, l4]
      refine ⟨fun _ => hP b b0 b1, fun z => ⟨by omega, ?_⟩⟩
      have s25 : ∀ (m2 : Nat) (l : ab_l) (b lf : Int), l 0 = 71 → l 1 = o → l 2 = i → l 3 = b → l 4 = k → l 7 = lf → -1 ≤ b → b < 300 → lf ≤ 64 → lf.toNat = m2 → jj_mHo_holder X (d + 2) 25 l [] μ P := by
        intro m2
        induction m2 using Nat.strongRecOn with
        | ind m2 ih2 =>
          intro l b lf l0 l1 l2 l3 l4 l7 b0 b1 lf1 em2
          refine bk_mHo_holder_25 l0 (by rw [l1]; exact ho) ?_
          rw [l1, l2, l3, l4, l7, show ab_w (k + 1) = k + 1 from ab_wi (by omega) (by omega), show ab_w (k * 64) = k * 64 from ab_wi (by omega) (by omega)]
          refine ⟨fun _ => ih _ (by omega) _ (k + 1) b l0 l1 l2 l3 rfl b0 b1 (by omega) (by omega) rfl, fun z2 => ⟨fun _ => ih _ (by omega) _ (k + 1) b l0 l1 l2 l3 rfl b0 b1 (by omega) (by omega) rfl, fun _ => c_mLong_ntz fun q q0 q1 => ?_⟩⟩
          rw [show ab_w (k * 64 + q) = k * 64 + q from ab_wi (by omega) (by omega), show ab_w (lf + -1) = lf - 1 from ab_wi (by omega) (by omega)]
          refine ⟨fun _ => ih2 _ (by omega) _ b (lf - 1) l0 l1 l2 l3 l4 rfl b0 b1 (by omega) rfl, fun y => c_mHo_isOf ho (by omega) hi fun r _ => ⟨fun _ => ih2 _ (by omega) _ b (lf - 1) l0 l1 l2 l3 l4 rfl b0 b1 (by omega) rfl, fun _ => ?_⟩⟩
          have hh := (hH.h (k * 64 + q) (by omega) y).1
          exact ⟨fun _ => ⟨by omega, ih2 _ (by omega) _ (μ 73 (k * 64 + q)) (lf - 1) l0 l1 l2 rfl l4 rfl (by omega) hh.2 (by omega) rfl⟩, fun _ => ⟨by omega, fun _ => ih2 _ (by omega) _ b (lf - 1) l0 l1 l2 l3 l4 rfl b0 b1 (by omega) rfl, fun _ => ⟨by omega, ih2 _ (by omega) _ (μ 73 (k * 64 + q)) (lf - 1) l0 l1 l2 rfl l4 rfl (by omega) hh.2 (by omega) rfl⟩⟩⟩
      exact s25 _ _ b 64 l0 l1 l2 l3 l4 rfl b0 b1 (by omega) rfl
  exact bk_mHo_holder_0 rfl ho (s5 _ _ 0 (-1) rfl rfl rfl rfl rfl (by omega) (by omega) (by omega) (by omega) rfl)
end K7

/-! THE CLASS, part k8: Improver -/
section K8
variable {X : jm_X} {d : Nat} {P : Int → ab_m → Prop} {μ μ' μ0 : ab_m} {o i : Int}
end K8
/-- an instruction, but that a COPY may have a number -/
def kI0 (μ : ab_m) (o i : Int) : Prop := (0 ≤ μ (o + 1) i ∧ μ (o + 1) i ≤ 28) ∧ (0 ≤ μ (o + 5) i ∧ μ (o + 5) i ≤ 3) ∧ (kA μ o i → 0 ≤ μ (o + 3) i ∧ μ (o + 3) i < 300) ∧ (kB μ o i → 0 ≤ μ (o + 4) i ∧ μ (o + 4) i < 300) ∧ (kD μ o i → 0 ≤ μ (o + 2) i ∧ μ (o + 2) i < 300) ∧ (kL μ o i → 0 ≤ μ (o + 2) i) ∧ (μ (o + 1) i = 21 → kR μ o (μ (o + 4) i)) ∧ (μ (o + 1) i = 22 → kR μ o (μ (o + 2) i))
theorem kI0.k {μ : ab_m} {o i : Int} (h'' : kI0 μ o i) : 0 ≤ μ (o + 1) i ∧ μ (o + 1) i ≤ 28 := h''.1
theorem kI0.f {μ : ab_m} {o i : Int} (h'' : kI0 μ o i) : 0 ≤ μ (o + 5) i ∧ μ (o + 5) i ≤ 3 := h''.2.1
theorem kI0.a {μ : ab_m} {o i : Int} (h'' : kI0 μ o i) : kA μ o i → 0 ≤ μ (o + 3) i ∧ μ (o + 3) i < 300 := h''.2.2.1
theorem kI0.b {μ : ab_m} {o i : Int} (h'' : kI0 μ o i) : kB μ o i → 0 ≤ μ (o + 4) i ∧ μ (o + 4) i < 300 := h''.2.2.2.1
theorem kI0.d {μ : ab_m} {o i : Int} (h'' : kI0 μ o i) : kD μ o i → 0 ≤ μ (o + 2) i ∧ μ (o + 2) i < 300 := h''.2.2.2.2.1
theorem kI0.l {μ : ab_m} {o i : Int} (h'' : kI0 μ o i) : kL μ o i → 0 ≤ μ (o + 2) i := h''.2.2.2.2.2.1
theorem kI0.r1 {μ : ab_m} {o i : Int} (h'' : kI0 μ o i) : μ (o + 1) i = 21 → kR μ o (μ (o + 4) i) := h''.2.2.2.2.2.2.1
theorem kI0.r2 {μ : ab_m} {o i : Int} (h'' : kI0 μ o i) : μ (o + 1) i = 22 → kR μ o (μ (o + 2) i) := h''.2.2.2.2.2.2.2
section K8
variable {X : jm_X} {d : Nat} {P : Int → ab_m → Prop} {μ μ' μ0 : ab_m} {o i : Int}
theorem kI.z (h : kI μ o i) : kI0 μ o i := ⟨h.k, h.f, h.a, h.b, h.d, h.l, h.r1, h.r2⟩
theorem kI0.to (h : kI0 μ o i) (c : μ (o + 1) i = 1 → ab_and (μ (o + 5) i) 1 = 0) : kI μ o i := ⟨h.k, h.f, h.a, h.b, h.d, h.l, h.r1, h.r2, c⟩
theorem or1 {f : Int} (h : 0 ≤ f ∧ f ≤ 3) : (0 ≤ ab_or f 1 ∧ ab_or f 1 ≤ 3) ∧ ab_and (ab_or f 1) 1 ≠ 0 ∧ ab_and (ab_or f 1) 2 = ab_and f 2 := by
  have c : f = 0 ∨ f = 1 ∨ f = 2 ∨ f = 3 := by omega
  rcases c with c | c | c | c <;> subst c <;> decide +kernel
theorem or2 {f : Int} (h : 0 ≤ f ∧ f ≤ 3) : (0 ≤ ab_or f 2 ∧ ab_or f 2 ≤ 3) ∧ ab_and (ab_or f 2) 2 ≠ 0 ∧ ab_and (ab_or f 2) 1 = ab_and f 1 := by
  have c : f = 0 ∨ f = 1 ∨ f = 2 ∨ f = 3 := by omega
  rcases c with c | c | c | c <;> subst c <;> decide +kernel
theorem and11 : ab_and 1 1 ≠ 0 := by decide +kernel
theorem and01 : ab_and 0 1 = 0 := by decide +kernel
/-- nothing but instruction i -/
def kT (o i : Int) (μ μ' : ab_m) : Prop := ∀ c j, ¬ (o + 1 ≤ c ∧ c ≤ o + 5 ∧ j = i) → μ' c j = μ c j
theorem kT.rf : kT o i μ μ := fun _ _ _ => rfl
theorem kT.trans {μ2 : ab_m} (h : kT o i μ μ') (h2 : kT o i μ' μ2) : kT o i μ μ2 := fun c j z => (h2 c j z).trans (h c j z)
theorem kT.mu {c v : Int} {μ2 : ab_m} (h : kT o i μ μ') (e : μ2 = ab_mu μ' c i v) (hc : o + 1 ≤ c ∧ c ≤ o + 5) : kT o i μ μ2 := fun b j z => by rw [e, ab_mud, if_neg (by omega)]; exact h b j z
theorem kT.f (h : kT o i μ μ') : kF o μ μ' := ⟨fun c j z => h c j (by omega), h o 6 (by omega), fun j => h (o + 6) j (by omega)⟩
theorem kT.w (h : kT o i μ μ') (hW : kW μ o) (hi : 0 ≤ i ∧ i < μ o 5 → kI μ' o i) : kW μ' o := by
  have e5 : μ' o 5 = μ o 5 := h o 5 (by omega)
  refine ⟨by rw [e5]; exact hW.n, by rw [h o 6 (by omega)]; exact hW.r, fun k a b => ?_⟩
  rw [e5] at b
  by_cases e : k = i
  · subst e; exact hi ⟨a, b⟩
  · exact (hW.i k a b).at (fun c z1 z2 => h _ _ (by omega)) fun j => h _ j (by omega)
set_option maxHeartbeats 1000000 in
theorem c_mIm_putConstant (ho : ab_is 1 o) (hi : 0 ≤ i ∧ i < 400) (hk : kI μ o i) (hP : ∀ r μ', (r = 0 ∨ r = 1) → kT o i μ μ' → kI μ' o i → P r μ') : jj_mIm_putConstant X (d + 2) 0 (ab_la [70, o, i]) [] μ P := by
  have ho' : o = 45 ∨ o = 88 := ho
  have s178 : ∀ (l : ab_l) (μ1 : ab_m), l 0 = 70 → l 1 = o → l 2 = i → kT o i μ μ1 → kI μ1 o i → 2 ≤ μ1 (o + 1) i → μ1 (o + 1) i ≤ 20 → jj_mIm_putConstant X (d + 2) 178 l [] μ1 P := by
    intro l μ1 l0 l1 l2 f hk1 a b
    refine bk_mIm_putConstant_178 l0 (by rw [l1]; exact ho) ?_
    rw [l1, l2]
    refine ⟨hi, hi, hi, hi, c_mP_work fun q => c_mCo_put ho hi fun μ2 f2 v1 v2 v3 v4 v5 => hP 1 μ2 (Or.inr rfl) (f.trans f2) ?_⟩
    have dd := hk1.d (Or.inl (by omega))
    refine ⟨by rw [v1]; omega, by rw [v5]; omega, fun y => ?_, fun y => ?_, fun y => by rw [v2]; exact dd, fun y => by rw [v2]; exact dd.1, fun y => by omega, fun y => by omega, fun y => by omega⟩
    · exact absurd y.2 (by rw [v5]; exact and11)
    · have := y.1; rw [v1] at this; omega
  have s144 : ∀ (l : ab_l) (μ1 : ab_m) (ch : Int), l 0 = 70 → l 1 = o → l 2 = i → l 3 = ch → (ch = 0 ∨ ch = 1) → kT o i μ μ1 → kI μ1 o i → jj_mIm_putConstant X (d + 2) 144 l [] μ1 P := by
    intro l μ1 ch l0 l1 l2 l3 c01 f hk1
    refine bk_mIm_putConstant_144 l0 (by rw [l1]; exact ho) ?_
    rw [l1, l2, l3]
    have ok : (0 ≤ ch ∧ ch ≤ 1) ∧ P ch μ1 := ⟨by omega, hP ch μ1 c01 f hk1⟩
    exact c_mCo_isWorkedOut ho hi (fun a b => ⟨fun y => absurd y (by decide), fun _ => ⟨fun _ => ok, fun _ => ⟨hi, c_mP_isDivision fun r _ => ⟨fun _ => s178 _ μ1 l0 l1 l2 f hk1 a b, fun _ => ⟨hi, fun _ => ok, fun _ => s178 _ μ1 l0 l1 l2 f hk1 a b⟩⟩⟩⟩⟩) ⟨fun _ => ok, fun y => absurd rfl y⟩
  -- a COPY that has a number is a SET
  have setc : ∀ {μ1 μ2 : ab_m}, kI0 μ1 o i → μ1 (o + 1) i = 1 → μ2 = ab_mu μ1 (o + 1) i 0 → kI μ2 o i := fun {μ1 μ2} h e1 e2 => by
    have v1 : μ2 (o + 1) i = 0 := by rw [e2, ab_mud, if_pos ⟨rfl, rfl⟩]
    have g : ∀ c j, c ≠ o + 1 → μ2 c j = μ1 c j := fun c j y => by rw [e2, mu_ne y]
    refine ⟨by rw [v1]; omega, by rw [g _ _ (by omega)]; exact h.f, fun y => ?_, fun y => ?_, fun y => ?_, fun y => ?_, fun y => by omega, fun y => by omega, fun y => by omega⟩
    · rw [g _ _ (by omega)]
      have y2 := y.2
      rw [g _ _ (by omega)] at y2
      exact h.a ⟨Or.inl (by omega), y2⟩
    · have := y.1; rw [v1] at this; omega
    · rw [g _ _ (by omega)]; exact h.d (Or.inl (by omega))
    · unfold kL at y; rw [v1] at y; omega
  have s120 : ∀ (l : ab_l) (μ1 : ab_m) (ch : Int), l 0 = 70 → l 1 = o → l 2 = i → l 3 = ch → (ch = 0 ∨ ch = 1) → kT o i μ μ1 → kI0 μ1 o i → (ch = 0 → kI μ1 o i) → jj_mIm_putConstant X (d + 2) 120 l [] μ1 P := by
    intro l μ1 ch l0 l1 l2 l3 c01 f h0 hc
    refine bk_mIm_putConstant_120 l0 (by rw [l1]; exact ho) ?_
    rw [l1, l2, l3]
    exact ⟨fun y => s144 _ μ1 ch l0 l1 l2 l3 c01 f (hc y), fun _ => ⟨hi, fun y => s144 _ μ1 ch l0 l1 l2 l3 c01 f (h0.to fun z => absurd z y), fun y => ⟨hi, fun μ2 e2 => s144 _ μ2 ch l0 l1 l2 l3 c01 (f.mu e2 (by omega)) (setc h0 y e2)⟩⟩⟩
  have s100 : ∀ (l : ab_l) (μ1 : ab_m) (ch : Int), l 0 = 70 → l 1 = o → l 2 = i → l 3 = ch → (ch = 0 ∨ ch = 1) → kT o i μ μ1 → kI0 μ1 o i → (ch = 0 → kI μ1 o i) → jj_mIm_putConstant X (d + 2) 100 l [] μ1 P := by
    intro l μ1 ch l0 l1 l2 l3 c01 f h0 hc
    refine bk_mIm_putConstant_100 l0 (by rw [l1]; exact ho) ?_
    rw [l1, l2, l3]
    have ss : (ch = 0 → jj_mIm_putConstant X (d + 2) 144 (ab_up l 8 1) [] μ1 P) ∧ (ch ≠ 0 → (0 ≤ i ∧ i < 400) ∧ (μ1 (o + 1) i ≠ 1 → jj_mIm_putConstant X (d + 2) 144 (ab_up l 8 1) [] μ1 P) ∧ (μ1 (o + 1) i = 1 → (0 ≤ i ∧ i < 400) ∧ ∀ μ7, μ7 = ab_mu μ1 (o + 1) i 0 → jj_mIm_putConstant X (d + 2) 144 (ab_up l 8 1) [] μ7 P)) := ⟨fun y => s144 _ μ1 ch l0 l1 l2 l3 c01 f (hc y), fun _ => ⟨hi, fun y => s144 _ μ1 ch l0 l1 l2 l3 c01 f (h0.to fun z => absurd z y), fun y => ⟨hi, fun μ2 e2 => s144 _ μ2 ch l0 l1 l2 l3 c01 (f.mu e2 (by omega)) (setc h0 y e2)⟩⟩⟩
    exact c_mCo_usesA ho hi (fun _ => ⟨fun _ => s120 _ μ1 ch l0 l1 l2 l3 c01 f h0 hc, fun y => absurd y (by decide)⟩) fun _ => ⟨fun y => absurd rfl y, fun _ => c_mCo_usesB ho hi (fun _ => ⟨fun _ => s120 _ μ1 ch l0 l1 l2 l3 c01 f h0 hc, fun y => absurd y (by decide)⟩) fun _ => ⟨fun y => absurd rfl y, fun _ => ss⟩⟩
  have s51 : ∀ (l : ab_l) (μ1 : ab_m) (ch : Int), l 0 = 70 → l 1 = o → l 2 = i → l 3 = ch → (ch = 0 ∨ ch = 1) → kT o i μ μ1 → kI0 μ1 o i → (ch = 0 → kI μ1 o i) → jj_mIm_putConstant X (d + 2) 51 l [] μ1 P := by
    intro l μ1 ch l0 l1 l2 l3 c01 f h0 hc
    refine bk_mIm_putConstant_51 l0 (by rw [l1]; exact ho) ?_
    rw [l1, l2]
    refine c_mKn_second ho hi h0.b fun q => c_mCo_usesB ho hi (fun y => ⟨fun y => absurd y (by decide), fun _ => ⟨fun _ => s100 _ μ1 ch l0 l1 l2 l3 c01 f h0 hc, fun _ => ⟨hi, fun μ2 e2 => ⟨hi, hi, fun μ3 e3 => ?_⟩⟩⟩⟩) fun _ => ⟨fun _ => s100 _ μ1 ch l0 l1 l2 l3 c01 f h0 hc, fun y => absurd rfl y⟩
    have e5 : μ2 (o + 5) i = μ1 (o + 5) i := by rw [e2, mu_ne (by omega)]
    rw [e5] at e3
    obtain ⟨o1, o2, o3⟩ := or2 h0.f
    have v5 : μ3 (o + 5) i = ab_or (μ1 (o + 5) i) 2 := by rw [e3, ab_mud, if_pos ⟨rfl, rfl⟩]
    have g : ∀ c j, c ≠ o + 4 → c ≠ o + 5 → μ3 c j = μ1 c j := fun c j y1 y2 => by rw [e3, mu_ne y2, e2, mu_ne y1]
    have k1 := h0.k
    have op := y.1
    have h3 : kI0 μ3 o i := by
      refine ⟨by rw [g _ _ (by omega) (by omega)]; exact k1, by rw [v5]; exact o1, fun y => ?_, fun y => ?_, fun y => ?_, fun y => ?_, fun y => ?_, fun y => ?_⟩
      · rw [g _ _ (by omega) (by omega)]
        unfold kA at y
        rw [g (o + 1) i (by omega) (by omega), v5, o3] at y
        exact h0.a y
      · exact absurd y.2 (by rw [v5]; exact o2)
      · unfold kD at y
        rw [g (o + 1) i (by omega) (by omega)] at y
        rw [g _ _ (by omega) (by omega)]; exact h0.d y
      · unfold kL at y
        rw [g (o + 1) i (by omega) (by omega)] at y
        rw [g _ _ (by omega) (by omega)]; exact h0.l y
      · rw [g (o + 1) i (by omega) (by omega)] at y; omega
      · rw [g (o + 1) i (by omega) (by omega)] at y
        unfold kR; rw [g (o + 2) i (by omega) (by omega), g (o + 6) _ (by omega) (by omega)]; exact h0.r2 y
    exact s100 _ μ3 1 l0 l1 l2 rfl (Or.inr rfl) ((f.mu e2 (by omega)).mu e3 (by omega)) h3 fun y => absurd y (by decide)
  refine bk_mIm_putConstant_0 rfl ho ?_
  simp only [la1, la2]
  refine c_mKn_first ho hi hk.a fun q => c_mCo_usesA ho hi (fun y => ⟨fun y => absurd y (by decide), fun _ => ⟨fun _ => s51 _ μ 0 rfl rfl rfl rfl (Or.inl rfl) kT.rf hk.z fun _ => hk, fun _ => ⟨hi, fun μ2 e2 => ⟨hi, hi, fun μ3 e3 => ?_⟩⟩⟩⟩) fun _ => ⟨fun _ => s51 _ μ 0 rfl rfl rfl rfl (Or.inl rfl) kT.rf hk.z fun _ => hk, fun y => absurd rfl y⟩
  have e5 : μ2 (o + 5) i = μ (o + 5) i := by rw [e2, mu_ne (by omega)]
  rw [e5] at e3
  obtain ⟨o1, o2, o3⟩ := or1 hk.f
  have v5 : μ3 (o + 5) i = ab_or (μ (o + 5) i) 1 := by rw [e3, ab_mud, if_pos ⟨rfl, rfl⟩]
  have g : ∀ c j, c ≠ o + 3 → c ≠ o + 5 → μ3 c j = μ c j := fun c j y1 y2 => by rw [e3, mu_ne y2, e2, mu_ne y1]
  have h3 : kI0 μ3 o i := by
    refine ⟨by rw [g _ _ (by omega) (by omega)]; exact hk.k, by rw [v5]; exact o1, fun y => ?_, fun y => ?_, fun y => ?_, fun y => ?_, fun y => ?_, fun y => ?_⟩
    · exact absurd y.2 (by rw [v5]; exact o2)
    · rw [g _ _ (by omega) (by omega)]
      unfold kB at y
      rw [g (o + 1) i (by omega) (by omega), v5, o3] at y
      exact hk.b y
    · unfold kD at y
      rw [g (o + 1) i (by omega) (by omega)] at y
      rw [g _ _ (by omega) (by omega)]; exact hk.d y
    · unfold kL at y
      rw [g (o + 1) i (by omega) (by omega)] at y
      rw [g _ _ (by omega) (by omega)]; exact hk.l y
    · rw [g (o + 1) i (by omega) (by omega)] at y
      unfold kR; rw [g (o + 4) i (by omega) (by omega), g (o + 6) _ (by omega) (by omega)]; exact hk.r1 y
    · rw [g (o + 1) i (by omega) (by omega)] at y
      unfold kR; rw [g (o + 2) i (by omega) (by omega), g (o + 6) _ (by omega) (by omega)]; exact hk.r2 y
  exact s51 _ μ3 1 rfl rfl rfl rfl (Or.inr rfl) ((kT.rf.mu e2 (by omega)).mu e3 (by omega)) h3 fun y => absurd y (by decide)
/-- what improving may write -/
def kP (o : Int) (μ μ' : ab_m) : Prop := ∀ c j, ¬ (o ≤ c ∧ c ≤ o + 11) → ¬ (64 ≤ c ∧ c ≤ 69) → ¬ (71 ≤ c ∧ c ≤ 87) → ¬ (c = 70 ∧ j = 3) → μ' c j = μ c j
theorem kP.rf : kP o μ μ := fun _ _ _ _ _ _ => rfl
theorem kP.trans {μ2 : ab_m} (h : kP o μ μ') (h2 : kP o μ' μ2) : kP o μ μ2 := fun c j a b e f => (h2 c j a b e f).trans (h c j a b e f)
theorem kF.p (h : kF o μ μ') : kP o μ μ' := fun c j a _ _ _ => h.f c j a
theorem kX.p (h : kX o μ μ') : kP o μ μ' := h.f.p
theorem kT.p (h : kT o i μ μ') : kP o μ μ' := h.f.p
theorem kN.p (h : kN μ μ') : kP o μ μ' := fun c j _ b _ _ => h c j b
theorem kG.p (h : kG μ μ') : kP o μ μ' := fun c j _ _ b _ => h c j (by omega)
theorem kY.p (h : kY 81 μ μ') : kP o μ μ' := fun c j _ _ b _ => h c j (by omega)
theorem c_mIm_putConstants (ho : ab_is 1 o) (hW : kW μ o) (hP : ∀ r μ', (r = 0 ∨ r = 1) → kP o μ μ' → kW μ' o → P r μ') : jj_mIm_putConstants X (d + 5) 0 (ab_la [70, o]) [] μ P := by
  have ho' : o = 45 ∨ o = 88 := ho
  refine bk_mIm_putConstants_0 rfl ho (c_mKn_learn (o := o) ho hW fun μ0 f0 => ?_)
  have p0 : kP o μ μ0 := fun c j a b e f => f0 c j b (by omega)
  have W0 : kW μ0 o := hW.same (f0 o 5 (by omega) (by omega)) (f0 o 6 (by omega) (by omega)) fun c j a b => f0 c j (by omega) (by omega)
  have s12 : ∀ (m : Nat) (l : ab_l) (μ1 : ab_m) (ch i : Int), l 0 = 70 → l 1 = o → l 2 = ch → l 3 = i → (ch = 0 ∨ ch = 1) → 0 ≤ i → i ≤ 400 → (μ0 o 5 - i).toNat = m → kP o μ μ1 → kW μ1 o → μ1 o 5 = μ0 o 5 → jj_mIm_putConstants X (d + 5) 12 l [] μ1 P := by
    intro m
    induction m using Nat.strongRecOn with
    | ind m ih =>
      intro l μ1 ch i l0 l1 l2 l3 c01 i0 i1 em p w e5
      have hn := w.n
      refine bk_mIm_putConstants_12 l0 (by rw [l1]; exact ho) ?_
      rw [l1, l2, l3]
      refine ⟨fun _ => ⟨by omega, hP ch μ1 c01 p w⟩, fun z => ?_⟩
      have i4 : 0 ≤ i ∧ i < 400 := by omega
      have s37 : ∀ (μ2 : ab_m), kP o μ μ2 → kW μ2 o → μ2 o 5 = μ0 o 5 → jj_mIm_putConstants X (d + 5) 37 l [] μ2 P := by
        intro μ2 p2 w2 e52
        refine bk_mIm_putConstants_37 l0 (by rw [l1]; exact ho) ?_
        rw [l1, l2, l3, show ab_w (i + 1) = i + 1 from ab_wi (by omega) (by omega)]
        have wi := w2.i i i0 (by omega)
        refine ⟨i4, fun _ => ih _ (by omega) _ μ2 ch (i + 1) l0 l1 l2 rfl c01 (by omega) (by omega) rfl p2 w2 e52, fun _ => c_mIm_putConstant ho i4 wi fun r μ3 _ t3 k3 => ?_⟩
        have w3 := t3.w w2 fun _ => k3
        have e53 : μ3 o 5 = μ0 o 5 := by rw [t3 o 5 (by omega)]; exact e52
        have ps : ∀ (ch' : Int) (l' : ab_l), l' 0 = 70 → l' 1 = o → l' 2 = ch' → l' 3 = i + 1 → (ch' = 0 ∨ ch' = 1) → jj_mKn_pass X (d + 4) 0 (ab_la [64, o, i]) [] μ3 (fun _ μ4 => jj_mIm_putConstants X (d + 5) 12 l' [] μ4 P) := fun ch' l' a0 a1 a2 a3 a4 => c_mKn_pass ho i4 k3 fun μ4 f4 => by
          have n4 : kN μ3 μ4 := fun c j y => f4 c j (by omega)
          exact ih _ (by omega) l' μ4 ch' (i + 1) a0 a1 a2 a3 a4 (by omega) (by omega) rfl ((p2.trans t3.p).trans n4.p) (n4.w ho w3) (by rw [n4.c ho (Int.le_refl _) (by omega)]; exact e53)
        exact ⟨fun _ => ps 1 _ l0 l1 rfl rfl (Or.inr rfl), fun _ => ⟨fun _ => ps 0 _ l0 l1 rfl rfl (Or.inl rfl), fun _ => ps 1 _ l0 l1 rfl rfl (Or.inr rfl)⟩⟩
      refine ⟨i4, fun _ => s37 μ1 p w e5, fun _ => c_mKn_begin i4 fun μ2 f2 => ?_⟩
      have n2 : kN μ1 μ2 := fun c j y => f2 c j (by omega)
      exact s37 μ2 (p.trans n2.p) (n2.w ho w) (by rw [n2.c ho (Int.le_refl _) (by omega)]; exact e5)
  exact s12 _ _ μ0 0 0 rfl rfl rfl rfl (Or.inl rfl) (by omega) (by omega) rfl p0 W0 rfl
end K8

/-! THE CLASS, part k9: Improver -/
section K9
variable {X : jm_X} {d : Nat} {P : Int → ab_m → Prop} {μ μ' μ0 : ab_m} {o i : Int}
/-- an instruction's first or second register is another one -/
theorem kI.reg {c v : Int} (h : kI μ o i) (e : μ' = ab_mu μ (o + c) i v) (hc : c = 3 ∨ c = 4) (hv : 0 ≤ v ∧ v < 300) (h21 : c = 4 → μ (o + 1) i ≠ 21) : kI μ' o i := by
  have g : ∀ b j, b ≠ o + c → μ' b j = μ b j := fun b j y => by rw [e, mu_ne y]
  have v3 : μ' (o + 3) i = v ∨ μ' (o + 3) i = μ (o + 3) i := by
    by_cases q : c = 3
    · subst q; exact Or.inl (by rw [e, ab_mud, if_pos ⟨rfl, rfl⟩])
    · exact Or.inr (g _ _ (by omega))
  have v4 : μ' (o + 4) i = v ∨ μ' (o + 4) i = μ (o + 4) i := by
    by_cases q : c = 4
    · subst q; exact Or.inl (by rw [e, ab_mud, if_pos ⟨rfl, rfl⟩])
    · exact Or.inr (g _ _ (by omega))
  have g1 := g (o + 1) i (by omega)
  have g2 := g (o + 2) i (by omega)
  have g5 := g (o + 5) i (by omega)
  refine ⟨by rw [g1]; exact h.k, by rw [g5]; exact h.f, fun y => ?_, fun y => ?_, fun y => ?_, fun y => ?_, fun y => ?_, fun y => ?_, fun y => ?_⟩
  · unfold kA at y; rw [g1, g5] at y
    rcases v3 with z | z <;> rw [z]
    · exact hv
    · exact h.a y
  · unfold kB at y; rw [g1, g5] at y
    rcases v4 with z | z <;> rw [z]
    · exact hv
    · exact h.b y
  · unfold kD at y; rw [g1] at y; rw [g2]; exact h.d y
  · unfold kL at y; rw [g1] at y; rw [g2]; exact h.l y
  · rw [g1] at y
    have q : c ≠ 4 := fun q => h21 q y
    unfold kR; rw [g (o + 4) i (by omega), g (o + 6) _ (by omega)]; exact h.r1 y
  · rw [g1] at y; unfold kR; rw [g2, g (o + 6) _ (by omega)]; exact h.r2 y
  · rw [g1] at y; rw [g5]; exact h.c y
theorem c_mIm_putCopy {n : Int} (ho : ab_is 1 o) (hi : 0 ≤ i ∧ i < 400) (hk : kI μ o i) (hH : kH μ n) (hn : n ≤ 400) (hP : ∀ r μ', (r = 0 ∨ r = 1) → (∀ c j, ¬ (o + 1 ≤ c ∧ c ≤ o + 5 ∧ j = i) → ¬ (o + 7 ≤ c ∧ c ≤ o + 11) → μ' c j = μ c j) → kI μ' o i → P r μ') : jj_mIm_putCopy X (d + 3) 0 (ab_la [70, o, i]) [] μ P := by
  have ho' : o = 45 ∨ o = 88 := ho
  have hH' : ∀ {μ1 : ab_m}, kT o i μ μ1 → kH μ1 n := fun t => hH.same (t 71 6 (by omega)) fun c j a b => t c j (by omega)
  have s144 : ∀ (l : ab_l) (μ1 : ab_m) (ch : Int), l 0 = 70 → l 1 = o → l 2 = i → l 3 = ch → (ch = 0 ∨ ch = 1) → kT o i μ μ1 → kI μ1 o i → jj_mIm_putCopy X (d + 3) 144 l [] μ1 P := by
    intro l μ1 ch l0 l1 l2 l3 c01 t k1
    refine bk_mIm_putCopy_144 l0 (by rw [l1]; exact ho) ?_
    rw [l1, l2, l3]
    have ok : (0 ≤ ch ∧ ch ≤ 1) ∧ P ch μ1 := ⟨by omega, hP ch μ1 c01 (fun c j y _ => t c j y) k1⟩
    refine ⟨hi, fun _ => ok, fun _ => ⟨hi, hi, fun _ => ok, fun _ => c_mCo_leaveOut ho hi fun μ2 f2 => ⟨by omega, hP ch μ2 c01 (fun c j y1 y2 => by rw [f2 c j y2]; exact t c j y1) (k1.at (fun c a b => f2 _ _ (by omega)) fun j => f2 _ j (by omega))⟩⟩⟩
  have s102 : ∀ (l : ab_l) (μ1 : ab_m) (ch : Int), l 0 = 70 → l 1 = o → l 2 = i → l 3 = ch → (ch = 0 ∨ ch = 1) → kT o i μ μ1 → kI μ1 o i → jj_mIm_putCopy X (d + 3) 102 l [] μ1 P := by
    intro l μ1 ch l0 l1 l2 l3 c01 t k1
    refine bk_mIm_putCopy_102 l0 (by rw [l1]; exact ho) ?_
    rw [l1, l2]
    refine c_mCo_isWorkedOut ho hi (fun a b => ⟨fun y => absurd y (by decide), fun _ => c_mHo_holder ho hi (hH' t) hn fun q q0 q1 => ⟨fun _ => s144 _ μ1 ch l0 l1 l2 l3 c01 t k1, fun y => ⟨hi, c_mCo_put ho hi fun μ2 f2 v1 v2 v3 v4 v5 => ?_⟩⟩⟩) ⟨fun _ => s144 _ μ1 ch l0 l1 l2 l3 c01 t k1, fun y => absurd rfl y⟩
    have dd := k1.d (Or.inl (by omega))
    refine s144 _ μ2 1 l0 l1 l2 rfl (Or.inr rfl) (t.trans f2) ⟨by rw [v1]; omega, by rw [v5]; omega, fun y => by rw [v3]; omega, fun y => ?_, fun y => by rw [v2]; exact dd, fun y => by rw [v2]; exact dd.1, fun y => by omega, fun y => by omega, fun _ => by rw [v5]; exact and01⟩
    have := y.1; rw [v1] at this; omega
  have s50 : ∀ (l : ab_l) (μ1 : ab_m) (ch : Int), l 0 = 70 → l 1 = o → l 2 = i → l 3 = ch → (ch = 0 ∨ ch = 1) → kT o i μ μ1 → kI μ1 o i → jj_mIm_putCopy X (d + 3) 50 l [] μ1 P := by
    intro l μ1 ch l0 l1 l2 l3 c01 t k1
    refine bk_mIm_putCopy_50 l0 (by rw [l1]; exact ho) ?_
    rw [l1, l2, l3]
    refine c_mCo_usesB ho hi (fun y => ⟨fun y => absurd y (by decide), fun _ => ⟨hi, c_mHo_original (k1.b y) (hH' t) hn fun q q0 q1 => ?_⟩⟩) fun _ => ⟨fun _ => s102 _ μ1 ch l0 l1 l2 l3 c01 t k1, fun y => absurd rfl y⟩
    have go : ∀ (μ2 : ab_m) (ch' : Int) (l' : ab_l), μ2 = ab_mu μ1 (o + 4) i q → l' 0 = 70 → l' 1 = o → l' 2 = i → l' 3 = ch' → (ch' = 0 ∨ ch' = 1) → jj_mIm_putCopy X (d + 3) 102 l' [] μ2 P := fun μ2 ch' l' e2 a0 a1 a2 a3 a4 => s102 l' μ2 ch' a0 a1 a2 a3 a4 (t.mu e2 (by omega)) (k1.reg e2 (Or.inr rfl) ⟨q0, q1⟩ fun _ z => by have := y.1; omega)
    exact ⟨fun _ => ⟨hi, fun μ2 e2 => go μ2 1 _ e2 l0 l1 l2 rfl (Or.inr rfl)⟩, fun _ => ⟨hi, fun _ => ⟨hi, fun μ2 e2 => go μ2 0 _ e2 l0 l1 l2 rfl (Or.inl rfl)⟩, fun _ => ⟨hi, fun μ2 e2 => go μ2 1 _ e2 l0 l1 l2 rfl (Or.inr rfl)⟩⟩⟩
  refine bk_mIm_putCopy_0 rfl ho ?_
  simp only [la1, la2]
  refine c_mCo_usesA ho hi (fun y => ⟨fun y => absurd y (by decide), fun _ => ⟨hi, c_mHo_original (hk.a y) hH hn fun q q0 q1 => ?_⟩⟩) fun _ => ⟨fun _ => s50 _ μ 0 rfl rfl rfl rfl (Or.inl rfl) kT.rf hk, fun y => absurd rfl y⟩
  exact ⟨hi, fun _ => ⟨hi, fun μ2 e2 => s50 _ μ2 0 rfl rfl rfl rfl (Or.inl rfl) (kT.rf.mu e2 (by omega)) (hk.reg e2 (Or.inl rfl) ⟨q0, q1⟩ fun z => by omega)⟩, fun _ => ⟨hi, fun μ2 e2 => s50 _ μ2 1 rfl rfl rfl rfl (Or.inr rfl) (kT.rf.mu e2 (by omega)) (hk.reg e2 (Or.inl rfl) ⟨q0, q1⟩ fun z => by omega)⟩⟩
theorem c_mIm_putCopies (ho : ab_is 1 o) (hW : kW μ o) (hP : ∀ r μ', (r = 0 ∨ r = 1) → kP o μ μ' → kW μ' o → P r μ') : jj_mIm_putCopies X (d + 4) 0 (ab_la [70, o]) [] μ P := by
  have ho' : o = 45 ∨ o = 88 := ho
  refine bk_mIm_putCopies_0 rfl ho (c_mHo_find (o := o) ho hW fun μ0 f0 h0 => ?_)
  have p0 : kP o μ μ0 := fun c j a b e f => f0 c j (by omega) (by omega)
  have W0 : kW μ0 o := hW.same (f0 o 5 (by omega) (by omega)) (f0 o 6 (by omega) (by omega)) fun c j a b => f0 c j (by omega) (by omega)
  have e0 : μ0 o 5 = μ o 5 := f0 o 5 (by omega) (by omega)
  have hn := hW.n
  have s12 : ∀ (m : Nat) (l : ab_l) (μ1 : ab_m) (ch i : Int), l 0 = 70 → l 1 = o → l 2 = ch → l 3 = i → (ch = 0 ∨ ch = 1) → 0 ≤ i → i ≤ 400 → (μ o 5 - i).toNat = m → kP o μ μ1 → kW μ1 o → μ1 o 5 = μ o 5 → kH μ1 (μ o 5) → jj_mIm_putCopies X (d + 4) 12 l [] μ1 P := by
    intro m
    induction m using Nat.strongRecOn with
    | ind m ih =>
      intro l μ1 ch i l0 l1 l2 l3 c01 i0 i1 em p w e5 h
      refine bk_mIm_putCopies_12 l0 (by rw [l1]; exact ho) ?_
      rw [l1, l2, l3]
      refine ⟨fun _ => c_mCo_sweep ho w fun r μ2 _ f2 w2 _ => ⟨fun _ => hP 1 μ2 (Or.inr rfl) (p.trans f2.p) w2, fun _ => ⟨fun _ => hP 0 μ2 (Or.inl rfl) (p.trans f2.p) w2, fun _ => hP 1 μ2 (Or.inr rfl) (p.trans f2.p) w2⟩⟩, fun z => ?_⟩
      have i4 : 0 ≤ i ∧ i < 400 := by omega
      have s37 : ∀ (μ2 : ab_m), kP o μ μ2 → kW μ2 o → μ2 o 5 = μ o 5 → kH μ2 (μ o 5) → jj_mIm_putCopies X (d + 4) 37 l [] μ2 P := by
        intro μ2 p2 w2 e52 h2
        refine bk_mIm_putCopies_37 l0 (by rw [l1]; exact ho) ?_
        rw [l1, l2, l3, show ab_w (i + 1) = i + 1 from ab_wi (by omega) (by omega)]
        have wi := w2.i i i0 (by omega)
        refine ⟨i4, fun _ => ih _ (by omega) _ μ2 ch (i + 1) l0 l1 l2 rfl c01 (by omega) (by omega) rfl p2 w2 e52 h2, fun _ => c_mIm_putCopy ho i4 wi h2 hn.2 fun r μ3 _ f3 k3 => ?_⟩
        have e53 : μ3 o 5 = μ o 5 := by rw [f3 o 5 (by omega) (by omega)]; exact e52
        have w3 : kW μ3 o := by
          refine ⟨by rw [e53]; exact hn, by rw [f3 o 6 (by omega) (by omega)]; exact w2.r, fun k a b => ?_⟩
          by_cases e : k = i
          · subst e; exact k3
          · exact (w2.i k a (by omega)).at (fun c z1 z2 => f3 _ _ (by omega) (by omega)) fun j => f3 _ j (by omega) (by omega)
        have h3 : kH μ3 (μ o 5) := h2.same (f3 71 6 (by omega) (by omega)) fun c j a b => f3 c j (by omega) (by omega)
        have p3 : kP o μ μ3 := p2.trans fun c j a b e f => f3 c j (by omega) (by omega)
        have c3 := h3.c
        have ff := h3.f i i0 (by omega)
        have ps : ∀ (ch' : Int) (l' : ab_l), l' 0 = 70 → l' 1 = o → l' 2 = ch' → l' 3 = i + 1 → (ch' = 0 ∨ ch' = 1) → jj_mHo_pass X (d + 3) 0 (ab_la [71, o, i]) [] μ3 (fun _ μ4 => jj_mIm_putCopies X (d + 4) 12 l' [] μ4 P) := fun ch' l' a0 a1 a2 a3 a4 => c_mHo_pass ho i4 k3 (by omega) fun μ4 f4 => by
          have g4 : kG μ3 μ4 := fun c j y => f4 c j (by omega)
          exact ih _ (by omega) l' μ4 ch' (i + 1) a0 a1 a2 a3 a4 (by omega) (by omega) rfl (p3.trans g4.p) (g4.w ho w3) (by rw [g4.c ho (Int.le_refl _) (by omega)]; exact e53) (h3.same (f4 71 6 (by decide)) fun c j a b => f4 c j (by omega))
        exact ⟨fun _ => ps 1 _ l0 l1 rfl rfl (Or.inr rfl), fun _ => ⟨fun _ => ps 0 _ l0 l1 rfl rfl (Or.inl rfl), fun _ => ps 1 _ l0 l1 rfl rfl (Or.inr rfl)⟩⟩
      refine ⟨i4, fun _ => s37 μ1 p w e5 h, fun _ => c_mHo_begin i4 fun μ2 f2 => ?_⟩
      have g2 : kG μ1 μ2 := fun c j y => f2 c j (by omega)
      exact s37 μ2 (p.trans g2.p) (g2.w ho w) (by rw [g2.c ho (Int.le_refl _) (by omega)]; exact e5) (h.same (f2 71 6 (by decide)) fun c j a b => f2 c j (by omega))
  exact s12 _ _ μ0 0 0 rfl rfl rfl rfl (Or.inl rfl) (by omega) (by omega) rfl p0 W0 e0 h0
theorem c_mIm_isHarmless (ho : ab_is 1 o) (hi : 0 ≤ i ∧ i < 400) (hP : ∀ r, (r = 0 ∨ r = 1) → P r μ) : jj_mIm_isHarmless X (d + 1) 0 (ab_la [o, i]) [] μ P := by
  have s70 : ∀ (l : ab_l) (s0 : Int), l 0 = o → l 1 = i → jj_mIm_isHarmless X (d + 1) 70 l [(0, s0)] μ P := by
    intro l s0 l0 l1
    refine bk_mIm_isHarmless_70 (by rw [l0]; exact ho) ?_
    rw [l0, l1]
    exact c_mCo_usesA ho hi (fun _ => ⟨fun _ => hP 0 (Or.inl rfl), fun y => absurd y (by decide)⟩) fun _ => ⟨fun y => absurd rfl y, fun _ => ⟨hi, fun _ => hP 0 (Or.inl rfl), fun _ => ⟨hi, fun _ => hP 0 (Or.inl rfl), fun _ => hP 1 (Or.inr rfl)⟩⟩⟩
  refine bk_mIm_isHarmless_0 ho ?_
  simp only [la0, la1]
  refine ⟨hi, c_mP_isDivision fun r _ => ⟨fun _ => ⟨fun _ => hP 1 (Or.inr rfl), fun _ => ⟨hi, fun _ => s70 _ 0 rfl rfl, fun z => ⟨fun _ => s70 _ 0 rfl rfl, fun z2 => ⟨⟨z, z2⟩, s70 _ _ rfl rfl⟩⟩⟩⟩, fun _ => c_mCo_usesB ho hi (fun _ => ⟨fun _ => hP 0 (Or.inl rfl), fun y => absurd y (by decide)⟩) fun _ => ⟨fun y => absurd rfl y, fun _ => ⟨hi, fun _ => hP 0 (Or.inl rfl), fun _ => hP 1 (Or.inr rfl)⟩⟩⟩⟩
theorem c_mIm_leaveDead (ho : ab_is 1 o) (hW : kW μ o) (hP : ∀ r μ', (r = 0 ∨ r = 1) → kP o μ μ' → kW μ' o → P r μ') : jj_mIm_leaveDead X (d + 5) 0 (ab_la [70, o]) [] μ P := by
  have ho' : o = 45 ∨ o = 88 := ho
  have h81 : ab_is 5 81 := Or.inr rfl
  refine bk_mIm_leaveDead_0 rfl ho (c_mLi_find (o := o) h81 ho hW fun μ0 f0 => ?_)
  have s10 : ∀ (m : Nat) (l : ab_l) (μ1 : ab_m) (i : Int), l 0 = 70 → l 1 = o → l 2 = i → 0 ≤ i → i ≤ 400 → (μ o 5 - i).toNat = m → kP o μ μ1 → kW μ1 o → μ1 o 5 = μ o 5 → jj_mIm_leaveDead X (d + 5) 10 l [] μ1 P := by
    intro m
    induction m using Nat.strongRecOn with
    | ind m ih =>
      intro l μ1 i l0 l1 l2 i0 i1 em p w e5
      have hn := w.n
      refine bk_mIm_leaveDead_10 l0 (by rw [l1]; exact ho) ?_
      rw [l1, l2, show ab_w (i + 1) = i + 1 from ab_wi (by omega) (by omega)]
      refine ⟨fun _ => c_mCo_sweep ho w fun r μ2 r01 f2 w2 _ => ⟨by omega, hP r μ2 r01 (p.trans f2.p) w2⟩, fun z => ?_⟩
      have i4 : 0 ≤ i ∧ i < 400 := by omega
      refine ⟨i4, fun _ => ih _ (by omega) _ μ1 (i + 1) l0 l1 rfl (by omega) (by omega) rfl p w e5, fun y => ⟨i4, c_mLi_isBehind h81 i4 ((w.i i i0 z).d (Or.inl y)) fun q _ => ⟨fun _ => ih _ (by omega) _ μ1 (i + 1) l0 l1 rfl (by omega) (by omega) rfl p w e5, fun _ => c_mIm_isHarmless ho i4 fun r _ => ⟨fun _ => ih _ (by omega) _ μ1 (i + 1) l0 l1 rfl (by omega) (by omega) rfl p w e5, fun _ => c_mCo_leaveOut ho i4 fun μ2 f2 => ih _ (by omega) _ μ2 (i + 1) l0 l1 rfl (by omega) (by omega) rfl (p.trans f2.p) (w.x f2) (by rw [f2 o 5 (by omega)]; exact e5)⟩⟩⟩⟩
  exact s10 _ _ μ0 0 rfl rfl rfl (by omega) (by omega) rfl f0.p (f0.w h81 ho hW) (f0 o 5 (by omega))
theorem c_mIm_settleTests (ho : ab_is 1 o) (hW : kW μ o) (hP : ∀ r μ', (r = 0 ∨ r = 1) → kP o μ μ' → kW μ' o → P r μ') : jj_mIm_settleTests X (d + 3) 0 (ab_la [o]) [] μ P := by
  have ho' : o = 45 ∨ o = 88 := ho
  have s4 : ∀ (m : Nat) (l : ab_l) (μ1 : ab_m) (ch i : Int), l 0 = o → l 1 = ch → l 2 = i → (ch = 0 ∨ ch = 1) → 0 ≤ i → i ≤ 400 → (μ o 5 - i).toNat = m → kP o μ μ1 → kW μ1 o → μ1 o 5 = μ o 5 → jj_mIm_settleTests X (d + 3) 4 l [] μ1 P := by
    intro m
    induction m using Nat.strongRecOn with
    | ind m ih =>
      intro l μ1 ch i l0 l1 l2 c01 i0 i1 em p w e5
      have hn := w.n
      refine bk_mIm_settleTests_4 (by rw [l0]; exact ho) ?_
      rw [l0, l1, l2, show ab_w (i + 1) = i + 1 from ab_wi (by omega) (by omega)]
      refine ⟨fun _ => c_mCo_sweep ho w fun r μ2 _ f2 w2 _ => ⟨by omega, hP ch μ2 c01 (p.trans f2.p) w2⟩, fun z => ?_⟩
      have i4 : 0 ≤ i ∧ i < 400 := by omega
      have wi := w.i i i0 z
      have s64 : ∀ (l : ab_l) (s0 s1 : Int), l 0 = o → l 2 = i → (μ1 (o + 1) i = 26 ∨ μ1 (o + 1) i = 27) → jj_mIm_settleTests X (d + 3) 64 l [(0, s1), (0, s0)] μ1 P := by
        intro l s0 s1 l0 l2 h
        refine bk_mIm_settleTests_64 (by rw [l0]; exact ho) ?_
        rw [l0, l2, show ab_w (i + 1) = i + 1 from ab_wi (by omega) (by omega)]
        refine ⟨fun _ => c_mCo_leaveOut ho i4 fun μ2 f2 => ih _ (by omega) _ μ2 1 (i + 1) l0 rfl rfl (Or.inr rfl) (by omega) (by omega) rfl (p.trans f2.p) (w.x f2) (by rw [f2 o 5 (by omega)]; exact e5), fun _ => ⟨i4, c_mCo_put ho i4 fun μ2 f2 v1 v2 v3 v4 v5 => ?_⟩⟩
        have t2 : kT o i μ1 μ2 := f2
        have ll := wi.l (by unfold kL; omega)
        refine ih _ (by omega) _ μ2 1 (i + 1) l0 rfl rfl (Or.inr rfl) (by omega) (by omega) rfl (p.trans t2.p) (t2.w w fun _ => ⟨by rw [v1]; omega, by rw [v5]; omega, fun y => ?_, fun y => ?_, fun y => ?_, fun y => by rw [v2]; exact ll, fun y => by omega, fun y => by omega, fun y => by omega⟩) (by rw [f2 o 5 (by omega)]; exact e5)
        · have := y.1; rw [v1] at this; omega
        · have := y.1; rw [v1] at this; omega
        · unfold kD at y; rw [v1] at y; omega
      have s31 : ∀ (l : ab_l), l 0 = o → l 1 = ch → l 2 = i → (μ1 (o + 1) i = 26 ∨ μ1 (o + 1) i = 27) → jj_mIm_settleTests X (d + 3) 31 l [] μ1 P := by
        intro l l0 l1 l2 h
        refine bk_mIm_settleTests_31 (by rw [l0]; exact ho) ?_
        rw [l0, l2, show ab_w (i + 1) = i + 1 from ab_wi (by omega) (by omega)]
        exact c_mCo_usesA ho i4 (fun _ => ⟨fun _ => ih _ (by omega) _ μ1 ch (i + 1) l0 l1 rfl c01 (by omega) (by omega) rfl p w e5, fun y => absurd y (by decide)⟩) fun _ => ⟨fun y => absurd rfl y, fun _ => ⟨i4, fun _ => ⟨fun _ => s64 _ _ _ l0 l2 h, fun _ => s64 _ _ _ l0 l2 h⟩, fun _ => ⟨fun _ => s64 _ _ _ l0 l2 h, fun _ => s64 _ _ _ l0 l2 h⟩⟩⟩
      exact ⟨i4, fun y => s31 _ l0 l1 l2 (Or.inl y), fun _ => ⟨fun _ => ih _ (by omega) _ μ1 ch (i + 1) l0 l1 rfl c01 (by omega) (by omega) rfl p w e5, fun y => s31 _ l0 l1 l2 (Or.inr y)⟩⟩
  exact bk_mIm_settleTests_0 ho (s4 _ _ μ 0 0 rfl rfl rfl (Or.inl rfl) (by omega) (by omega) rfl kP.rf hW rfl)
theorem c_mIm_leaveUnreached (ho : ab_is 1 o) (hW : kW μ o) (hP : ∀ r μ', (r = 0 ∨ r = 1) → kP o μ μ' → kW μ' o → P r μ') : jj_mIm_leaveUnreached X (d + 3) 0 (ab_la [o]) [] μ P := by
  have ho' : o = 45 ∨ o = 88 := ho
  have s6 : ∀ (m : Nat) (l : ab_l) (μ1 : ab_m) (i : Int), l 0 = o → l 1 = i → 0 ≤ i → i ≤ 400 → (μ o 5 - i).toNat = m → kP o μ μ1 → kW μ1 o → μ1 o 5 = μ o 5 → jj_mIm_leaveUnreached X (d + 3) 6 l [] μ1 P := by
    intro m
    induction m using Nat.strongRecOn with
    | ind m ih =>
      intro l μ1 i l0 l1 i0 i1 em p w e5
      have hn := w.n
      refine bk_mIm_leaveUnreached_6 (by rw [l0]; exact ho) ?_
      rw [l0, l1, show ab_w (i + 1) = i + 1 from ab_wi (by omega) (by omega)]
      refine ⟨fun _ => c_mCo_sweep ho w fun r μ2 r01 f2 w2 _ => ⟨by omega, hP r μ2 r01 (p.trans f2.p) w2⟩, fun z => ⟨by omega, fun _ => ih _ (by omega) _ μ1 (i + 1) l0 rfl (by omega) (by omega) rfl p w e5, fun _ => c_mCo_leaveOut ho (by omega) fun μ2 f2 => ih _ (by omega) _ μ2 (i + 1) l0 rfl (by omega) (by omega) rfl (p.trans f2.p) (w.x f2) (by rw [f2 o 5 (by omega)]; exact e5)⟩⟩
  refine bk_mIm_leaveUnreached_0 ho (c_mCo_findReached (o := o) ho hW.n fun μ0 f0 => s6 _ _ μ0 0 rfl rfl (by omega) (by omega) rfl f0.p (hW.x f0) (f0 o 5 (by omega)))
theorem c_mIm_goThrough (ho : ab_is 1 o) (hW : kW μ o) (hP : ∀ r μ', (r = 0 ∨ r = 1) → kP o μ μ' → kW μ' o → P r μ') : jj_mIm_goThrough X (d + 2) 0 (ab_la [o]) [] μ P := by
  have ho' : o = 45 ∨ o = 88 := ho
  have s4 : ∀ (m : Nat) (l : ab_l) (μ1 : ab_m) (ch i : Int), l 0 = o → l 1 = ch → l 2 = i → (ch = 0 ∨ ch = 1) → 0 ≤ i → i ≤ 400 → (μ o 5 - i).toNat = m → kP o μ μ1 → kW μ1 o → μ1 o 5 = μ o 5 → jj_mIm_goThrough X (d + 2) 4 l [] μ1 P := by
    intro m
    induction m using Nat.strongRecOn with
    | ind m ih =>
      intro l μ1 ch i l0 l1 l2 c01 i0 i1 em p w e5
      have hn := w.n
      refine bk_mIm_goThrough_4 (by rw [l0]; exact ho) ?_
      rw [l0, l1, l2, show ab_w (i + 1) = i + 1 from ab_wi (by omega) (by omega)]
      refine ⟨fun _ => ⟨by omega, hP ch μ1 c01 p w⟩, fun z => ?_⟩
      have i4 : 0 ≤ i ∧ i < 400 := by omega
      have wi := w.i i i0 z
      refine c_mCo_leapsInside ho i4 (fun kl y1 y2 => ⟨fun y => absurd y (by decide), fun _ => ⟨i4, ?_⟩⟩) ⟨fun _ => ih _ (by omega) _ μ1 ch (i + 1) l0 l1 rfl c01 (by omega) (by omega) rfl p w e5, fun y => absurd rfl y⟩
      have s70 : ∀ (l : ab_l) (t : Int), l 0 = o → l 1 = ch → l 2 = i → l 3 = t → 0 ≤ t → t < μ1 o 5 → jj_mIm_goThrough X (d + 2) 70 l [] μ1 P := by
        intro l t l0 l1 l2 l3 t0 t1
        refine bk_mIm_goThrough_70 (by rw [l0]; exact ho) ?_
        rw [l0, l2, l3, show ab_w (i + 1) = i + 1 from ab_wi (by omega) (by omega)]
        refine ⟨by omega, fun _ => ih _ (by omega) _ μ1 ch (i + 1) l0 l1 rfl c01 (by omega) (by omega) rfl p w e5, fun _ => ⟨i4, fun _ => ih _ (by omega) _ μ1 ch (i + 1) l0 l1 rfl c01 (by omega) (by omega) rfl p w e5, fun _ => ⟨i4, fun μ2 e2 => ?_⟩⟩⟩
        have t2 : kT o i μ1 μ2 := kT.rf.mu e2 (by omega)
        have g : ∀ c j, c ≠ o + 2 → μ2 c j = μ1 c j := fun c j y => by rw [e2, mu_ne y]
        have v2 : μ2 (o + 2) i = t := by rw [e2, ab_mud, if_pos ⟨rfl, rfl⟩]
        have g1 := g (o + 1) i (by omega)
        have g5 := g (o + 5) i (by omega)
        have kl' : μ1 (o + 1) i = 25 ∨ μ1 (o + 1) i = 26 ∨ μ1 (o + 1) i = 27 := kl
        refine ih _ (by omega) _ μ2 1 (i + 1) l0 rfl rfl (Or.inr rfl) (by omega) (by omega) rfl (p.trans t2.p) (t2.w w fun _ => ⟨by rw [g1]; exact wi.k, by rw [g5]; exact wi.f, fun y => ?_, fun y => ?_, fun y => ?_, fun y => by rw [v2]; exact t0, fun y => by omega, fun y => by omega, fun y => by omega⟩) (by rw [g o 5 (by omega)]; exact e5)
        · unfold kA at y; rw [g1, g5] at y; rw [g _ _ (by omega)]; exact wi.a y
        · unfold kB at y; rw [g1, g5] at y; rw [g _ _ (by omega)]; exact wi.b y
        · unfold kD at y; rw [g1] at y; omega
      have s33 : ∀ (m2 : Nat) (l : ab_l) (t lf : Int), l 0 = o → l 1 = ch → l 2 = i → l 3 = t → l 4 = lf → 0 ≤ t → t < μ1 o 5 → lf ≤ 400 → lf.toNat = m2 → jj_mIm_goThrough X (d + 2) 33 l [] μ1 P := by
        intro m2
        induction m2 using Nat.strongRecOn with
        | ind m2 ih2 =>
          intro l t lf l0 l1 l2 l3 l4 t0 t1 lf1 em2
          refine bk_mIm_goThrough_33 (by rw [l0]; exact ho) ?_
          rw [l0, l3, l4]
          refine ⟨fun _ => s70 _ t l0 l1 l2 l3 t0 t1, fun z2 => ⟨by omega, fun _ => s70 _ t l0 l1 l2 l3 t0 t1, fun _ => c_mCo_leapsInside ho (by omega) (fun _ y1 y2 => ⟨fun y => absurd y (by decide), fun _ => ⟨by omega, ?_⟩⟩) ⟨fun _ => s70 _ t l0 l1 l2 l3 t0 t1, fun y => absurd rfl y⟩⟩⟩
          rw [show ab_w (lf + -1) = lf - 1 from ab_wi (by omega) (by omega)]
          exact ih2 _ (by omega) _ (μ1 (o + 2) t) (lf - 1) l0 l1 l2 rfl rfl y1 y2 (by omega) rfl
      exact s33 _ _ (μ1 (o + 2) i) (μ1 o 5) l0 l1 l2 rfl rfl y1 y2 (by omega) rfl
  exact bk_mIm_goThrough_0 ho (s4 _ _ μ 0 0 rfl rfl rfl (Or.inl rfl) (by omega) (by omega) rfl kP.rf hW rfl)
theorem c_mIm_mendJumps (ho : ab_is 1 o) (hW : kW μ o) (hP : ∀ r μ', (r = 0 ∨ r = 1) → kP o μ μ' → kW μ' o → P r μ') : jj_mIm_mendJumps X (d + 4) 0 (ab_la [70, o]) [] μ P := by
  have ho' : o = 45 ∨ o = 88 := ho
  have s58 : ∀ (m : Nat) (l : ab_l) (μ1 : ab_m) (n i : Int), l 0 = 70 → l 1 = o → l 3 = i → 0 ≤ i → i ≤ 400 → (n - i).toNat = m → kP o μ μ1 → kW μ1 o → μ1 o 5 = n → jj_mIm_mendJumps X (d + 4) 58 l [] μ1 P := by
    intro m
    induction m using Nat.strongRecOn with
    | ind m ih =>
      intro l μ1 n i l0 l1 l3 i0 i1 em p w e5
      have hn := w.n
      refine bk_mIm_mendJumps_58 l0 (by rw [l1]; exact ho) ?_
      rw [l1, l3, show ab_w (i + 1) = i + 1 from ab_wi (by omega) (by omega)]
      refine ⟨fun _ => c_mCo_sweep ho w fun r μ2 _ f2 w2 _ => ⟨fun _ => hP 1 μ2 (Or.inr rfl) (p.trans f2.p) w2, fun _ => ⟨fun _ => hP 0 μ2 (Or.inl rfl) (p.trans f2.p) w2, fun _ => hP 1 μ2 (Or.inr rfl) (p.trans f2.p) w2⟩⟩, fun z => ?_⟩
      have i4 : 0 ≤ i ∧ i < 400 := by omega
      exact c_mCo_leaps ho i4 (fun _ => ⟨fun y => absurd y (by decide), fun _ => ⟨i4, fun _ => ih _ (by omega) _ μ1 n (i + 1) l0 l1 rfl (by omega) (by omega) rfl p w e5, fun _ => c_mCo_leaveOut ho i4 fun μ2 f2 => ih _ (by omega) _ μ2 n (i + 1) l0 l1 rfl (by omega) (by omega) rfl (p.trans f2.p) (w.x f2) (by rw [f2 o 5 (by omega)]; exact e5)⟩⟩) fun _ => ⟨fun _ => ih _ (by omega) _ μ1 n (i + 1) l0 l1 rfl (by omega) (by omega) rfl p w e5, fun y => absurd rfl y⟩
  have s38 : ∀ (l : ab_l) (μ1 : ab_m) (s0 : Int), l 0 = 70 → l 1 = o → kP o μ μ1 → kW μ1 o → jj_mIm_mendJumps X (d + 4) 38 l [(0, s0)] μ1 P := by
    intro l μ1 s0 l0 l1 p w
    refine bk_mIm_mendJumps_38 l0 (by rw [l1]; exact ho) ?_
    rw [l1]
    exact c_mIm_leaveUnreached ho w fun r μ2 _ p2 w2 => ⟨fun _ => s58 _ _ μ2 _ 0 l0 l1 rfl (by omega) (by omega) rfl (p.trans p2) w2 rfl, fun _ => ⟨fun _ => s58 _ _ μ2 _ 0 l0 l1 rfl (by omega) (by omega) rfl (p.trans p2) w2 rfl, fun _ => s58 _ _ μ2 _ 0 l0 l1 rfl (by omega) (by omega) rfl (p.trans p2) w2 rfl⟩⟩
  have s16 : ∀ (l : ab_l) (μ1 : ab_m), l 0 = 70 → l 1 = o → kP o μ μ1 → kW μ1 o → jj_mIm_mendJumps X (d + 4) 16 l [] μ1 P := by
    intro l μ1 l0 l1 p w
    refine bk_mIm_mendJumps_16 l0 (by rw [l1]; exact ho) ?_
    rw [l1]
    exact c_mIm_goThrough ho w fun r μ2 _ p2 w2 => ⟨fun _ => s38 _ μ2 1 l0 l1 (p.trans p2) w2, fun _ => s38 _ μ2 1 l0 l1 (p.trans p2) w2⟩
  refine bk_mIm_mendJumps_0 rfl ho ?_
  simp only [la1]
  refine c_mIm_settleTests ho hW fun r μ1 _ p1 w1 => c_mIm_leaveUnreached ho w1 fun q μ2 _ p2 w2 => ⟨fun _ => s16 _ μ2 rfl rfl (p1.trans p2) w2, fun _ => ⟨fun _ => c_mIm_goThrough ho w2 fun q2 μ3 _ p3 w3 => ⟨fun _ => s38 _ μ3 1 rfl rfl ((p1.trans p2).trans p3) w3, fun _ => s38 _ μ3 0 rfl rfl ((p1.trans p2).trans p3) w3⟩, fun _ => s16 _ μ2 rfl rfl (p1.trans p2) w2⟩⟩
end K9

/-! THE CLASS, part k10: press -/
section K10
variable {X : jm_X} {d : Nat} {P : Int → ab_m → Prop} {μ μ' μ0 : ab_m} {o i : Int}
theorem co6 (h : ab_is 1 o) : ab_arr 0 8 (o + 6) := by
  rcases h with h | h <;> subst h
  · exact ⟨51, rfl, by decide, by decide⟩
  · exact ⟨94, rfl, by decide, by decide⟩
theorem cp_ne {a sp b dp n c : Int} (h : c ≠ b) (j : Int) : ab_cp μ a sp b dp n c j = μ c j := by unfold ab_cp; rw [if_neg (fun q => h q.1)]
theorem cp_in {a b n j : Int} (h : 0 ≤ j ∧ j < n) : ab_cp μ a 0 b 0 n b j = μ a j := by
  unfold ab_cp
  rw [if_pos ⟨rfl, by omega, by omega⟩, show (0 : Int) + (j - 0) = j by omega]
theorem c_mCo_begin {a : Int} (ho : ab_is 1 o) (ha : ab_arr 0 8 a) (hao : a ≠ o) (hP : ∀ μ', (∀ c j, ¬ (c = o ∧ (j = 5 ∨ j = 6 ∨ j = 7)) → c ≠ o + 6 → μ' c j = μ c j) → μ' o 5 = 0 → μ' o 6 = 0 → μ' o 7 = 0 → (∀ j, 0 ≤ j → j < 8 → μ' (o + 6) j = μ a j) → P 0 μ') : jj_mCo_begin X (d + 1) 0 (ab_la [o, a]) [] μ P := by
  refine bk_mCo_begin_0 (n1 := 8) ho ha ?_
  simp only [la0, la1]
  refine fun μ1 e1 μ2 e2 μ3 e3 => ⟨by omega, fun μ4 e4 => hP μ4 (fun c j y1 y2 => ?_) ?_ ?_ ?_ fun j j0 j1 => ?_⟩
  · rw [e4, cp_ne y2, e3, ab_mud, if_neg (by omega), e2, ab_mud, if_neg (by omega), e1, ab_mud, if_neg (by omega)]
  · rw [e4, cp_ne (by omega), e3, ab_mud, if_neg (by omega), e2, ab_mud, if_neg (by omega), e1, ab_mud, if_pos ⟨rfl, rfl⟩]
  · rw [e4, cp_ne (by omega), e3, ab_mud, if_neg (by omega), e2, ab_mud, if_pos ⟨rfl, rfl⟩]
  · rw [e4, cp_ne (by omega), e3, ab_mud, if_pos ⟨rfl, rfl⟩]
  · rw [e4, cp_in ⟨j0, j1⟩, e3, mu_ne hao, e2, mu_ne hao, e1, mu_ne hao]
theorem c_mCo_copyFrom (hW : kW μ 45) (hP : ∀ μ', (∀ c j, ¬ (88 ≤ c ∧ c ≤ 99) → μ' c j = μ c j) → kW μ' 88 → P 0 μ') : jj_mCo_copyFrom X (d + 2) 0 (ab_la [88, 45]) [] μ P := by
  have hn := hW.n
  refine bk_mCo_copyFrom_0 (Or.inr rfl) (Or.inl rfl) ?_
  simp only [la0, la1]
  refine c_mCo_begin (Or.inr rfl) (co6 (Or.inl rfl)) (by decide) fun μ1 f1 _ _ _ s1 μ2 e2 μ3 e3 => ?_
  have g1 : ∀ c j, ¬ (88 ≤ c ∧ c ≤ 99) → μ1 c j = μ c j := fun c j y => f1 c j (by omega) (by omega)
  have n2 : μ2 88 5 = μ 45 5 := by rw [e2, ab_mud, if_pos ⟨rfl, rfl⟩, g1 45 5 (by omega)]
  have n3 : μ3 88 5 = μ 45 5 := by rw [e3, ab_mud, if_neg (by omega)]; exact n2
  have r3 : μ3 88 6 = μ 45 6 := by rw [e3, ab_mud, if_pos ⟨rfl, rfl⟩, e2, ab_mud, if_neg (by omega), g1 45 6 (by omega)]
  have g3 : ∀ c j, c ≠ 88 → μ3 c j = μ1 c j := fun c j y => by rw [e3, mu_ne y, e2, mu_ne y]
  rw [n3]
  refine ⟨by omega, fun μ4 e4 => ?_⟩
  have n4 : μ4 88 5 = μ 45 5 := by rw [e4, cp_ne (by decide)]; exact n3
  rw [n4]
  refine ⟨by omega, fun μ5 e5 => ?_⟩
  have n5 : μ5 88 5 = μ 45 5 := by rw [e5, cp_ne (by decide)]; exact n4
  rw [n5]
  refine ⟨by omega, fun μ6 e6 => ?_⟩
  have n6 : μ6 88 5 = μ 45 5 := by rw [e6, cp_ne (by decide)]; exact n5
  rw [n6]
  refine ⟨by omega, fun μ7 e7 => ?_⟩
  have n7 : μ7 88 5 = μ 45 5 := by rw [e7, cp_ne (by decide)]; exact n6
  rw [n7]
  refine ⟨by omega, fun μ8 e8 => ?_⟩
  have g8 : ∀ c j, c ≠ 89 → c ≠ 90 → c ≠ 91 → c ≠ 92 → c ≠ 93 → μ8 c j = μ3 c j := fun c j a1 a2 a3 a4 a5 => by
    rw [e8, cp_ne (show c ≠ 88 + 5 by omega), e7, cp_ne (show c ≠ 88 + 4 by omega), e6, cp_ne (show c ≠ 88 + 3 by omega), e5, cp_ne (show c ≠ 88 + 2 by omega), e4, cp_ne (show c ≠ 88 + 1 by omega)]
  have lo : ∀ c j, ¬ (88 ≤ c ∧ c ≤ 99) → μ8 c j = μ c j := fun c j y => by
    rw [g8 c j (by omega) (by omega) (by omega) (by omega) (by omega), g3 c j (by omega)]; exact g1 c j y
  have q : ∀ c j, ¬ (88 ≤ c ∧ c ≤ 99) → μ3 c j = μ c j := fun c j y => by rw [g3 c j (by omega)]; exact g1 c j y
  refine hP μ8 lo ⟨by rw [g8 88 5 (by decide) (by decide) (by decide) (by decide) (by decide), n3]; exact hn, by rw [g8 88 6 (by decide) (by decide) (by decide) (by decide) (by decide), r3]; exact hW.r, fun i a b => ?_⟩
  rw [g8 88 5 (by decide) (by decide) (by decide) (by decide) (by decide), n3] at b
  have h := hW.i i a b
  have x1 : μ8 89 i = μ 46 i := by
    rw [e8, cp_ne (by decide), e7, cp_ne (by decide), e6, cp_ne (by decide), e5, cp_ne (by decide), e4]
    exact (cp_in (a := 46) (b := 89) ⟨a, b⟩).trans (q 46 i (by omega))
  have x2 : μ8 90 i = μ 47 i := by
    rw [e8, cp_ne (by decide), e7, cp_ne (by decide), e6, cp_ne (by decide), e5]
    exact ((cp_in (a := 47) (b := 90) ⟨a, b⟩).trans (by rw [e4, cp_ne (by decide)])).trans (q 47 i (by omega))
  have x3 : μ8 91 i = μ 48 i := by
    rw [e8, cp_ne (by decide), e7, cp_ne (by decide), e6]
    exact ((cp_in (a := 48) (b := 91) ⟨a, b⟩).trans (by rw [e5, cp_ne (by decide), e4, cp_ne (by decide)])).trans (q 48 i (by omega))
  have x4 : μ8 92 i = μ 49 i := by
    rw [e8, cp_ne (by decide), e7]
    exact ((cp_in (a := 49) (b := 92) ⟨a, b⟩).trans (by rw [e6, cp_ne (by decide), e5, cp_ne (by decide), e4, cp_ne (by decide)])).trans (q 49 i (by omega))
  have x5 : μ8 93 i = μ 50 i := by
    rw [e8]
    exact ((cp_in (a := 50) (b := 93) ⟨a, b⟩).trans (by rw [e7, cp_ne (by decide), e6, cp_ne (by decide), e5, cp_ne (by decide), e4, cp_ne (by decide)])).trans (q 50 i (by omega))
  have x6 : ∀ j, 0 ≤ j → j < 8 → μ8 94 j = μ 51 j := fun j j0 j1 => by
    rw [g8 94 j (by decide) (by decide) (by decide) (by decide) (by decide), g3 94 j (by decide)]; exact s1 j j0 j1
  obtain ⟨h1, h2, h3, h4, h5, h6, h7, h8, h9⟩ := h
  unfold kA at h3
  unfold kB at h4
  unfold kD at h5
  unfold kL at h6
  unfold kR at h7 h8
  refine ⟨?_, ?_, ?_, ?_, ?_, ?_, ?_, ?_, ?_⟩
  · show 0 ≤ μ8 89 i ∧ μ8 89 i ≤ 28; rw [x1]; exact h1
  · show 0 ≤ μ8 93 i ∧ μ8 93 i ≤ 3; rw [x5]; exact h2
  · show ((μ8 89 i ≤ 22 ∨ μ8 89 i = 24 ∨ μ8 89 i = 26 ∨ μ8 89 i = 27) ∧ ab_and (μ8 93 i) 1 = 0) → 0 ≤ μ8 91 i ∧ μ8 91 i < 300
    rw [x1, x5, x3]; exact h3
  · show (((2 ≤ μ8 89 i ∧ μ8 89 i ≤ 17) ∨ μ8 89 i = 22) ∧ ab_and (μ8 93 i) 2 = 0) → 0 ≤ μ8 92 i ∧ μ8 92 i < 300
    rw [x1, x5, x4]; exact h4
  · show (μ8 89 i ≤ 21 ∨ μ8 89 i = 23) → 0 ≤ μ8 90 i ∧ μ8 90 i < 300
    rw [x1, x2]; exact h5
  · show (μ8 89 i = 25 ∨ μ8 89 i = 26 ∨ μ8 89 i = 27) → 0 ≤ μ8 90 i
    rw [x1, x2]; exact h6
  · show μ8 89 i = 21 → 0 ≤ μ8 92 i → μ8 92 i < 8 → μ8 94 (μ8 92 i) ≤ 100
    rw [x1, x4]
    intro y y1 y2
    rw [x6 _ y1 y2]
    exact h7 y y1 y2
  · show μ8 89 i = 22 → 0 ≤ μ8 90 i → μ8 90 i < 8 → μ8 94 (μ8 90 i) ≤ 100
    rw [x1, x2]
    intro y y1 y2
    rw [x6 _ y1 y2]
    exact h8 y y1 y2
  · show μ8 89 i = 1 → ab_and (μ8 93 i) 1 = 0
    rw [x1, x5]; exact h9
theorem c_mIm_press (hW : kW μ 45) (hP : ∀ μ', kP 88 μ μ' → kW μ' 88 → kCl μ' 81 88 → P 0 μ') : jj_mIm_press X (d + 6) 0 (ab_la [70, 45, 88]) [] μ P := by
  have h88 : ab_is 1 88 := Or.inr rfl
  have h81 : ab_is 5 81 := Or.inr rfl
  have s101 : ∀ (l : ab_l) (μ1 : ab_m), l 0 = 70 → l 1 = 45 → l 2 = 88 → kP 88 μ μ1 → kW μ1 88 → jj_mIm_press X (d + 6) 101 l [] μ1 P := by
    intro l μ1 l0 l1 l2 p w
    refine bk_mIm_press_101 l0 (by rw [l1]; exact Or.inl rfl) (by rw [l2]; exact h88) ?_
    rw [l2]
    refine c_mLi_find h81 h88 w fun μ2 f2 => c_mLi_giveColours h81 h88 (f2.w h81 h88 w) fun μ3 f3 c3 => hP μ3 ((p.trans f2.p).trans f3.p) (f3.w h81 h88 (f2.w h81 h88 w)) c3
  have s16 : ∀ (m : Nat) (l : ab_l) (μ1 : ab_m) (lf : Int), l 0 = 70 → l 1 = 45 → l 2 = 88 → l 4 = lf → lf ≤ 1000000 → lf.toNat = m → kP 88 μ μ1 → kW μ1 88 → jj_mIm_press X (d + 6) 16 l [] μ1 P := by
    intro m
    induction m using Nat.strongRecOn with
    | ind m ih =>
      intro l μ1 lf l0 l1 l2 l4 lf1 em p w
      refine bk_mIm_press_16 l0 (by rw [l1]; exact Or.inl rfl) (by rw [l2]; exact h88) ?_
      rw [l2, l4]
      refine ⟨fun _ => s101 _ μ1 l0 l1 l2 p w, fun z => ⟨fun _ => s101 _ μ1 l0 l1 l2 p w, fun _ => ?_⟩⟩
      have s66 : ∀ (l : ab_l) (μ2 : ab_m) (s0 : Int), l 0 = 70 → l 1 = 45 → l 2 = 88 → l 4 = lf → kP 88 μ μ2 → kW μ2 88 → jj_mIm_press X (d + 6) 66 l [(0, s0)] μ2 P := by
        intro l μ2 s0 l0 l1 l2 l4 p w
        refine bk_mIm_press_66 l0 (by rw [l1]; exact Or.inl rfl) (by rw [l2]; exact h88) ?_
        rw [l2, l4, show ab_w (lf + -1) = lf - 1 from ab_wi (by omega) (by omega)]
        refine c_mIm_mendJumps h88 w fun r μ3 _ p3 w3 => ?_
        have go : ∀ (l' : ab_l) (μ4 : ab_m) (v : Int), μ4 = ab_mu μ3 70 3 v → l' 0 = 70 → l' 1 = 45 → l' 2 = 88 → l' 4 = lf - 1 → jj_mIm_press X (d + 6) 16 l' [] μ4 P := fun l' μ4 v e4 a0 a1 a2 a4 => ih _ (by omega) l' μ4 (lf - 1) a0 a1 a2 a4 (by omega) rfl ((p.trans p3).trans fun c j y1 y2 y3 y4 => by rw [e4, ab_mud, if_neg y4]) (w3.same (by rw [e4, mu_ne (by decide)]) (by rw [e4, mu_ne (by decide)]) fun c j y1 y2 => by rw [e4, mu_ne (by omega)])
        exact ⟨fun _ μ4 e4 => go _ μ4 _ e4 l0 l1 l2 rfl, fun _ => ⟨fun _ μ4 e4 => go _ μ4 _ e4 l0 l1 l2 rfl, fun _ μ4 e4 => go _ μ4 _ e4 l0 l1 l2 rfl⟩⟩
      have s48 : ∀ (l : ab_l) (μ2 : ab_m) (s0 : Int), l 0 = 70 → l 1 = 45 → l 2 = 88 → l 4 = lf → kP 88 μ μ2 → kW μ2 88 → jj_mIm_press X (d + 6) 48 l [(0, s0)] μ2 P := by
        intro l μ2 s0 l0 l1 l2 l4 p w
        refine bk_mIm_press_48 l0 (by rw [l1]; exact Or.inl rfl) (by rw [l2]; exact h88) ?_
        rw [l2]
        exact c_mIm_leaveDead h88 w fun r μ3 _ p3 w3 => ⟨fun _ => s66 _ μ3 1 l0 l1 l2 l4 (p.trans p3) w3, fun _ => ⟨fun _ => s66 _ μ3 0 l0 l1 l2 l4 (p.trans p3) w3, fun _ => s66 _ μ3 1 l0 l1 l2 l4 (p.trans p3) w3⟩⟩
      exact c_mIm_putConstants h88 w fun r μ2 _ p2 w2 => c_mIm_putCopies h88 w2 fun q μ3 _ p3 w3 => ⟨fun _ => s48 _ μ3 1 l0 l1 l2 l4 ((p.trans p2).trans p3) w3, fun _ => ⟨fun _ => s48 _ μ3 0 l0 l1 l2 l4 ((p.trans p2).trans p3) w3, fun _ => s48 _ μ3 1 l0 l1 l2 l4 ((p.trans p2).trans p3) w3⟩⟩
  refine bk_mIm_press_0 rfl (Or.inl rfl) h88 ?_
  simp only [la1, la2]
  refine c_mCo_copyFrom hW fun μ1 f1 w1 μ2 e2 => s16 _ _ μ2 1000000 rfl rfl rfl rfl (by omega) rfl (fun c j y1 y2 y3 y4 => by rw [e2, ab_mud, if_neg y4]; exact f1 c j (by omega)) (w1.same (by rw [e2, mu_ne (by decide)]) (by rw [e2, mu_ne (by decide)]) fun c j y1 y2 => by rw [e2, mu_ne (by omega)])
end K10

/-! THE CLASS, part k11: Runner, runs of the code -/
section K11
variable {X : jm_X} {d : Nat} {P : Int → ab_m → Prop} {μ μ' μ0 : ab_m} {o i : Int}
end K11
/-- a run under way; μ0 as it stood before -/
def nR (μ0 μ : ab_m) : Prop := (∀ c j, ¬ (102 ≤ c ∧ c ≤ 107) → ¬ (c = 100 ∧ ((3 ≤ j ∧ j ≤ 8) ∨ j = 12 ∨ j = 14)) → μ c j = μ0 c j) ∧ (0 ≤ μ0 100 1 ∧ μ0 100 1 ≤ 200) ∧ (0 ≤ μ 100 3 ∧ μ 100 3 ≤ 300) ∧ (0 ≤ μ 100 4 ∧ μ 100 4 ≤ 200) ∧ (0 ≤ μ 100 5 ∧ μ 100 5 ≤ 100000 ∧ μ 100 6 ≤ 100000) ∧ (0 ≤ μ 100 8) ∧ (0 ≤ μ 100 12 ∧ μ 100 12 ≤ 3000) ∧ (0 ≤ μ 100 14 ∧ μ 100 14 ≤ 15) ∧ (∀ k, 0 ≤ k → k < μ 100 14 → 0 ≤ μ 106 k)
theorem nR.fr {μ0 μ : ab_m} (h'' : nR μ0 μ) : ∀ c j, ¬ (102 ≤ c ∧ c ≤ 107) → ¬ (c = 100 ∧ ((3 ≤ j ∧ j ≤ 8) ∨ j = 12 ∨ j = 14)) → μ c j = μ0 c j := h''.1
theorem nR.inp {μ0 μ : ab_m} (h'' : nR μ0 μ) : 0 ≤ μ0 100 1 ∧ μ0 100 1 ≤ 200 := h''.2.1
theorem nR.pr {μ0 μ : ab_m} (h'' : nR μ0 μ) : 0 ≤ μ 100 3 ∧ μ 100 3 ≤ 300 := h''.2.2.1
theorem nR.tk {μ0 μ : ab_m} (h'' : nR μ0 μ) : 0 ≤ μ 100 4 ∧ μ 100 4 ≤ 200 := h''.2.2.2.1
theorem nR.us {μ0 μ : ab_m} (h'' : nR μ0 μ) : 0 ≤ μ 100 5 ∧ μ 100 5 ≤ 100000 ∧ μ 100 6 ≤ 100000 := h''.2.2.2.2.1
theorem nR.at' {μ0 μ : ab_m} (h'' : nR μ0 μ) : 0 ≤ μ 100 8 := h''.2.2.2.2.2.1
theorem nR.top {μ0 μ : ab_m} (h'' : nR μ0 μ) : 0 ≤ μ 100 12 ∧ μ 100 12 ≤ 3000 := h''.2.2.2.2.2.2.1
theorem nR.cal {μ0 μ : ab_m} (h'' : nR μ0 μ) : 0 ≤ μ 100 14 ∧ μ 100 14 ≤ 15 := h''.2.2.2.2.2.2.2.1
theorem nR.bk {μ0 μ : ab_m} (h'' : nR μ0 μ) : ∀ k, 0 ≤ k → k < μ 100 14 → 0 ≤ μ 106 k := h''.2.2.2.2.2.2.2.2
section K11
variable {X : jm_X} {d : Nat} {P : Int → ab_m → Prop} {μ μ' μ0 : ab_m} {o i : Int}
theorem nR.c {c j v : Int} (h : nR μ0 μ) (e : μ' = ab_mu μ c j v) (hc : 102 ≤ c ∧ c ≤ 107 ∧ c ≠ 106) : nR μ0 μ' := by
  have g : ∀ b i, b ≠ c → μ' b i = μ b i := fun b i y => by rw [e, mu_ne y]
  have g0 : ∀ i, μ' 100 i = μ 100 i := fun i => g 100 i (by omega)
  obtain ⟨h1, h2, h3, h4, h5, h6, h7, h8, h9⟩ := h
  refine ⟨fun b i y1 y2 => by rw [g b i (by omega)]; exact h1 b i y1 y2, h2, by rw [g0]; exact h3, by rw [g0]; exact h4, by rw [g0, g0]; exact h5, by rw [g0]; exact h6, by rw [g0]; exact h7, by rw [g0]; exact h8, fun k a b => ?_⟩
  rw [g0] at b
  rw [g 106 k (by omega)]
  exact h9 k a b
theorem nR.f {j v : Int} (h : nR μ0 μ) (e : μ' = ab_mu μ 100 j v) (hj : j = 7 ∨ (j = 3 ∧ 0 ≤ v ∧ v ≤ 300) ∨ (j = 4 ∧ 0 ≤ v ∧ v ≤ 200) ∨ (j = 5 ∧ 0 ≤ v ∧ v ≤ 100000) ∨ (j = 8 ∧ 0 ≤ v) ∨ (j = 12 ∧ 0 ≤ v ∧ v ≤ 3000) ∨ (j = 14 ∧ 0 ≤ v ∧ v ≤ μ 100 14)) : nR μ0 μ' := by
  have g : ∀ b i, ¬ (b = 100 ∧ i = j) → μ' b i = μ b i := fun b i y => by rw [e, ab_mud, if_neg y]
  have vj : μ' 100 j = v := by rw [e, ab_mud, if_pos ⟨rfl, rfl⟩]
  have q : ∀ i, μ' 100 i = μ 100 i ∨ (i = j ∧ μ' 100 i = v) := fun i => by
    by_cases z : i = j
    · subst z; exact Or.inr ⟨rfl, vj⟩
    · exact Or.inl (g 100 i (fun y => z y.2))
  obtain ⟨h1, h2, h3, h4, h5, h6, h7, h8, h9⟩ := h
  have q3 := q 3
  have q4 := q 4
  have q5 := q 5
  have q6 := q 6
  have q8 := q 8
  have q12 := q 12
  have q14 := q 14
  refine ⟨fun b i y1 y2 => by rw [g b i (by omega)]; exact h1 b i y1 y2, h2, by omega, by omega, by omega, by omega, by omega, by omega, fun k a b => ?_⟩
  rw [g 106 k (by omega)]
  exact h9 k a (by omega)
theorem c_mRu_pop (h : nR μ0 μ) (hP : ∀ r μ', nR μ0 μ' → P r μ') : jj_mRu_pop X d 0 (ab_la [100]) [] μ P := by
  have t := h.top
  refine bk_mRu_pop_0 rfl ⟨fun z => ⟨by omega, hP _ μ h⟩, fun z μ1 e1 => ?_⟩
  rw [show ab_w (μ 100 12 - 1) = μ 100 12 - 1 from ab_wi (by omega) (by omega)] at e1
  have v : μ1 100 12 = μ 100 12 - 1 := by rw [e1, ab_mud, if_pos ⟨rfl, rfl⟩]
  exact ⟨by omega, hP _ μ1 (h.f e1 (by omega))⟩
theorem c_mRu_push {v : Int} (h : nR μ0 μ) (hP : ∀ μ', nR μ0 μ' → P 0 μ') : jj_mRu_push X d 0 (ab_la [100, v]) [] μ P := by
  have t := h.top
  refine bk_mRu_push_0 rfl ⟨fun _ => hP μ h, fun z => ⟨by omega, fun μ1 e1 μ2 e2 => ?_⟩⟩
  have h1 := h.c e1 (by decide)
  rw [show μ1 100 12 = μ 100 12 by rw [e1, mu_ne (by decide)], show ab_w (μ 100 12 + 1) = μ 100 12 + 1 from ab_wi (by omega) (by omega)] at e2
  exact hP μ2 (h1.f e2 (by omega))
theorem c_mRu_show {v : Int} (h : nR μ0 μ) (hP : ∀ μ', nR μ0 μ' → P 0 μ') : jj_mRu_show X d 0 (ab_la [100, v]) [] μ P := by
  have t := h.pr
  refine bk_mRu_show_0 rfl ⟨fun z => ⟨by omega, fun μ1 e1 μ2 e2 => ?_⟩, fun _ μ5 e5 => hP μ5 (h.f e5 (Or.inl rfl))⟩
  have h1 := h.c e1 (by decide)
  rw [show μ1 100 3 = μ 100 3 by rw [e1, mu_ne (by decide)], show ab_w (μ 100 3 + 1) = μ 100 3 + 1 from ab_wi (by omega) (by omega)] at e2
  exact hP μ2 (h1.f e2 (by omega))
theorem c_mRu_takeInput (h : nR μ0 μ) (hP : ∀ r μ', nR μ0 μ' → P r μ') : jj_mRu_takeInput X d 0 (ab_la [100]) [] μ P := by
  have t := h.tk
  have n := h.inp
  have e1 : μ 100 1 = μ0 100 1 := h.fr 100 1 (by omega) (by omega)
  refine bk_mRu_takeInput_0 rfl ⟨fun z μ1 e2 => ?_, fun _ μ3 e3 => hP _ μ3 (h.f e3 (Or.inl rfl))⟩
  rw [show ab_w (μ 100 4 + 1) = μ 100 4 + 1 from ab_wi (by omega) (by omega)] at e2
  have v : μ1 100 4 = μ 100 4 + 1 := by rw [e2, ab_mud, if_pos ⟨rfl, rfl⟩]
  rw [v, show ab_w (μ 100 4 + 1 - 1) = μ 100 4 by rw [ab_wi (by omega) (by omega)]; omega]
  exact ⟨by omega, hP _ μ1 (h.f e2 (by omega))⟩
theorem c_mRu_burn (h : nR μ0 μ) (hP : ∀ μ', nR μ0 μ' → P 0 μ') : jj_mRu_burn X d 0 (ab_la [100]) [] μ P := by
  have t := h.us
  refine bk_mRu_burn_0 rfl ⟨fun z μ1 e1 => ?_, fun _ μ3 e3 => hP μ3 (h.f e3 (Or.inl rfl))⟩
  rw [show ab_w (μ 100 5 + 1) = μ 100 5 + 1 from ab_wi (by omega) (by omega)] at e1
  exact hP μ1 (h.f e1 (by omega))
theorem c_mRu_cellPlace {a r c : Int} (ha : ab_arr 0 8 a) (h : nR μ0 μ) (hr : 0 ≤ r → r < 8 → μ a r ≤ 100) (hP : ∀ q μ', nR μ0 μ' → (q = -1 ∨ (0 ≤ q ∧ q < 800)) → P q μ') : jj_mRu_cellPlace X d 0 (ab_la [100, a, r, c]) [] μ P := by
  have s21 : jj_mRu_cellPlace X d 21 (ab_la [100, a, r, c]) [] μ P := bk_mRu_cellPlace_21 (n1 := 8) rfl ha fun μ1 e1 => hP _ μ1 (h.f e1 (Or.inl rfl)) (Or.inl rfl)
  refine bk_mRu_cellPlace_0 (n1 := 8) rfl ha ?_
  simp only [la1, la2, la3]
  refine ⟨fun _ => s21, fun z => ⟨fun _ => s21, fun z2 => ⟨fun _ => s21, fun z3 => ⟨⟨z, z2⟩, fun z4 => ?_, fun _ => s21⟩⟩⟩⟩
  have := hr z z2
  rw [show ab_w (r * 100) = r * 100 from ab_wi (by omega) (by omega), show ab_w (r * 100 + c) = r * 100 + c from ab_wi (by omega) (by omega)]
  exact hP _ μ h (Or.inr (by omega))
theorem c_mRu_begin {st fl : Int} (hi : 0 ≤ μ 100 1 ∧ μ 100 1 ≤ 200) (hs : 0 ≤ st) (hf : fl ≤ 100000) (h12 : 0 ≤ μ 100 12 ∧ μ 100 12 ≤ 3000) (h14 : 0 ≤ μ 100 14 ∧ μ 100 14 ≤ 15) (hb : ∀ k, 0 ≤ k → k < μ 100 14 → 0 ≤ μ 106 k) (hP : ∀ μ', nR μ μ' → P 0 μ') : jj_mRu_begin X (d + 1) 0 (ab_la [100, st, fl]) [] μ P := by
  refine bk_mRu_begin_0 rfl ?_
  simp only [la1, la2]
  intro μ1 e1 μ2 e2 μ3 e3 μ4 e4 μ5 e5 μ6 e6
  refine c_mArr_fill (n := 800) ⟨103, rfl, by decide, by decide⟩ (by decide) fun μ7 f7 _ => hP μ7 ?_
  have g : ∀ c j, c ≠ 103 → ¬ (c = 100 ∧ (3 ≤ j ∧ j ≤ 8)) → μ7 c j = μ c j := fun c j y1 y2 => by
    rw [f7 c j y1, e6, ab_mud, if_neg (by omega), e5, ab_mud, if_neg (by omega), e4, ab_mud, if_neg (by omega), e3, ab_mud, if_neg (by omega), e2, ab_mud, if_neg (by omega), e1, ab_mud, if_neg (by omega)]
  have v8 : μ7 100 8 = st := by rw [f7 100 8 (by decide), e6, ab_mud, if_pos ⟨rfl, rfl⟩]
  have v6 : μ7 100 6 = fl := by rw [f7 100 6 (by decide), e6, ab_mud, if_neg (by omega), e5, ab_mud, if_neg (by omega), e4, ab_mud, if_pos ⟨rfl, rfl⟩]
  have v5 : μ7 100 5 = 0 := by rw [f7 100 5 (by decide), e6, ab_mud, if_neg (by omega), e5, ab_mud, if_neg (by omega), e4, ab_mud, if_neg (by omega), e3, ab_mud, if_pos ⟨rfl, rfl⟩]
  have v4 : μ7 100 4 = 0 := by rw [f7 100 4 (by decide), e6, ab_mud, if_neg (by omega), e5, ab_mud, if_neg (by omega), e4, ab_mud, if_neg (by omega), e3, ab_mud, if_neg (by omega), e2, ab_mud, if_pos ⟨rfl, rfl⟩]
  have v3 : μ7 100 3 = 0 := by rw [f7 100 3 (by decide), e6, ab_mud, if_neg (by omega), e5, ab_mud, if_neg (by omega), e4, ab_mud, if_neg (by omega), e3, ab_mud, if_neg (by omega), e2, ab_mud, if_neg (by omega), e1, ab_mud, if_pos ⟨rfl, rfl⟩]
  refine ⟨fun c j y1 y2 => g c j (by omega) (by omega), hi, by omega, by omega, by omega, by omega, by rw [g 100 12 (by decide) (by omega)]; exact h12, by rw [g 100 14 (by decide) (by omega)]; exact h14, fun k a b => ?_⟩
  rw [g 100 14 (by decide) (by omega)] at b
  rw [g 106 k (by decide) (by omega)]
  exact hb k a b
theorem c_mRu_resultOf {k a b : Int} (ho : ab_is 1 o) (h : nR μ0 μ) (hr : k = 21 → kR μ o b) (hP : ∀ r μ', nR μ0 μ' → P r μ') : jj_mRu_resultOf X (d + 1) 0 (ab_la [100, o, k, a, b]) [] μ P := by
  refine bk_mRu_resultOf_0 rfl ho ?_
  simp only [la1, la2, la3, la4]
  refine ⟨fun _ => hP _ μ h, fun _ => ⟨fun _ => ⟨fun _ => ⟨fun _ => c_mP_isDivision fun q _ => ⟨fun _ => c_mP_work fun r => hP r μ h, fun _ => ⟨fun _ => c_mP_work fun r => hP r μ h, fun _ μ1 e1 => hP _ μ1 (h.f e1 (Or.inl rfl))⟩⟩, fun z => c_mRu_cellPlace (co6 ho) h (hr z) fun q μ1 h1 q1 => ⟨fun y => ⟨by omega, hP _ μ1 h1⟩, fun _ => hP _ μ1 h1⟩⟩, fun _ => c_mRu_takeInput h fun r μ1 h1 => hP r μ1 h1⟩, fun _ => hP _ μ h⟩⟩
/-- the registers that the code names have numbers -/
def kNu (μ : ab_m) (o a : Int) : Prop := ∀ i, 0 ≤ i → i < μ o 5 → (kA μ o i → 0 ≤ μ a (μ (o + 3) i) ∧ μ a (μ (o + 3) i) < 300) ∧ (kB μ o i → 0 ≤ μ a (μ (o + 4) i) ∧ μ a (μ (o + 4) i) < 300) ∧ (kD μ o i → 0 ≤ μ a (μ (o + 2) i) ∧ μ a (μ (o + 2) i) < 300)
set_option maxHeartbeats 1000000 in
theorem c_mRu_takeInstruction {a : Int} (ho : ab_is 1 o) (ha : ab_arr 0 300 a) (hac : ¬ (100 ≤ a ∧ a ≤ 107)) (hW : kW μ0 o) (hN : kNu μ0 o a) (hi : 0 ≤ i ∧ i < μ0 o 5) (h : nR μ0 μ) (hP : ∀ μ', nR μ0 μ' → P 0 μ') : jj_mRu_takeInstruction X (d + 2) 0 (ab_la [100, o, i, a]) [] μ P := by
  have ho' : o = 45 ∨ o = 88 := ho
  have hn := hW.n
  have i4 : 0 ≤ i ∧ i < 400 := by omega
  have fo : ∀ {μ1 : ab_m}, nR μ0 μ1 → ∀ c j, o ≤ c → c ≤ o + 11 → μ1 c j = μ0 c j := fun h c j y1 y2 => h.fr c j (by omega) (by omega)
  have fa : ∀ {μ1 : ab_m}, nR μ0 μ1 → ∀ j, μ1 a j = μ0 a j := fun h j => h.fr a j (by omega) (by omega)
  have kk : ∀ {μ1 : ab_m}, nR μ0 μ1 → (kA μ1 o i ↔ kA μ0 o i) ∧ (kB μ1 o i ↔ kB μ0 o i) ∧ (kD μ1 o i ↔ kD μ0 o i) := fun {μ1} h => by
    unfold kA kB kD
    rw [fo h (o + 1) i (by omega) (by omega), fo h (o + 5) i (by omega) (by omega)]
    exact ⟨Iff.rfl, Iff.rfl, Iff.rfl⟩
  have wi := hW.i i hi.1 hi.2
  obtain ⟨na, nb, nd⟩ := hN i hi.1 hi.2
  have kr : ∀ {μ1 : ab_m}, nR μ0 μ1 → ∀ r, kR μ0 o r → kR μ1 o r := fun {μ1} h r hr y1 y2 => by rw [fo h (o + 6) r (by omega) (by omega)]; exact hr y1 y2
  have s217 : ∀ (l : ab_l) (μ1 : ab_m) (s0 : Int), l 0 = 100 → l 1 = o → l 2 = i → l 3 = a → nR μ0 μ1 → kL μ0 o i → jj_mRu_takeInstruction X (d + 2) 217 l [(0, s0)] μ1 P := by
    intro l μ1 s0 l0 l1 l2 l3 h1 kl
    refine bk_mRu_takeInstruction_217 (n3 := 300) l0 (by rw [l1]; exact ho) (by rw [l3]; exact ha) ?_
    rw [l1, l2, fo h1 (o + 2) i (by omega) (by omega)]
    have ll := wi.l kl
    have go : ∀ μ2, μ2 = ab_mu μ1 100 8 (μ0 (o + 2) i) → P 0 μ2 := fun μ2 e2 => hP μ2 (h1.f e2 (by omega))
    exact ⟨fun _ => ⟨fun _ => hP μ1 h1, fun _ => ⟨i4, go⟩⟩, fun _ => ⟨fun _ => hP μ1 h1, fun _ => ⟨i4, go⟩⟩⟩
  have s70 : ∀ (l : ab_l) (μ1 : ab_m) (av s0 : Int), l 0 = 100 → l 1 = o → l 2 = i → l 3 = a → l 4 = μ0 (o + 1) i → l 5 = av → nR μ0 μ1 → (μ0 (o + 1) i = 21 → s0 = μ0 (o + 4) i) → jj_mRu_takeInstruction X (d + 2) 70 l [(0, s0)] μ1 P := by
    intro l μ1 av s0 l0 l1 l2 l3 l4 l5 h1 hs
    refine bk_mRu_takeInstruction_70 (n3 := 300) l0 (by rw [l1]; exact ho) (by rw [l3]; exact ha) ?_
    rw [l1, l2, l3, l4, l5, show ab_w (i + 1) = i + 1 from ab_wi (by omega) (by omega)]
    intro μ2 e2
    have h2 : nR μ0 μ2 := h1.f e2 (by omega)
    obtain ⟨-, -, k3⟩ := kk h2
    have wk := wi.k
    refine c_mCo_defines ho i4 (fun y => ⟨fun y => absurd y (by decide), fun _ => ?_⟩) fun y => ⟨fun _ => ⟨fun n22 => ⟨fun n24 => ⟨fun n28 => ⟨fun e25 => ⟨i4, fun μ5 e5 => ?_⟩, fun n25 => ?_⟩, fun _ μ5 e5 => hP μ5 (h2.f e5 (Or.inl rfl))⟩, fun _ => c_mRu_show h2 hP⟩, fun e22 => ⟨i4, ?_⟩⟩, fun y => absurd rfl y⟩
    · refine c_mRu_resultOf ho h2 (fun z => by rw [hs z]; exact kr h2 _ (wi.r1 z)) fun r μ3 h3 => ⟨fun _ => hP μ3 h3, fun _ => ?_⟩
      rw [fo h3 (o + 2) i (by omega) (by omega), fa h3]
      exact ⟨i4, by have := wi.d (k3.mp y); omega, nd (k3.mp y), fun μ4 e4 => hP μ4 (h3.c e4 (by decide))⟩
    · rw [fo h2 (o + 2) i (by omega) (by omega)] at e5
      have ll := wi.l (Or.inl e25)
      exact hP μ5 (h2.f e5 (by omega))
    · have kl : kL μ0 o i := by
        have nd : ¬ (μ0 (o + 1) i ≤ 21 ∨ μ0 (o + 1) i = 23) := fun q => y (k3.mpr q)
        unfold kL
        omega
      exact ⟨fun _ => s217 _ μ2 0 l0 l1 l2 l3 h2 kl, fun _ => s217 _ μ2 1 l0 l1 l2 l3 h2 kl⟩
    · rw [fo h2 (o + 2) i (by omega) (by omega)]
      exact c_mRu_cellPlace (co6 ho) h2 (kr h2 _ (wi.r2 e22)) fun q μ3 h3 q1 => ⟨fun _ => hP μ3 h3, fun y => ⟨by omega, fun μ4 e4 => hP μ4 (h3.c e4 (by decide))⟩⟩
  have s38 : ∀ (l : ab_l) (s0 : Int), l 0 = 100 → l 1 = o → l 2 = i → l 3 = a → l 4 = μ0 (o + 1) i → jj_mRu_takeInstruction X (d + 2) 38 l [(0, s0)] μ P := by
    intro l s0 l0 l1 l2 l3 l4
    refine bk_mRu_takeInstruction_38 (n3 := 300) l0 (by rw [l1]; exact ho) (by rw [l3]; exact ha) ?_
    rw [l1, l2, l3]
    obtain ⟨-, k2, -⟩ := kk h
    have e4 := fo h (o + 4) i (by omega) (by omega)
    refine c_mCo_usesB ho i4 (fun y => ⟨fun y => absurd y (by decide), fun _ => ⟨i4, by rw [e4]; have := wi.b (k2.mp y); omega, by rw [e4, fa h]; exact nb (k2.mp y), s70 _ μ s0 _ l0 l1 l2 l3 l4 rfl h fun z => ?_⟩⟩) fun _ => ⟨fun _ => ⟨i4, s70 _ μ s0 _ l0 l1 l2 l3 l4 rfl h fun _ => e4⟩, fun y => absurd rfl y⟩
    have := (k2.mp y).1
    omega
  refine bk_mRu_takeInstruction_0 (n3 := 300) rfl ho ha ?_
  simp only [la1, la2, la3]
  obtain ⟨k1, -, -⟩ := kk h
  have e3 := fo h (o + 3) i (by omega) (by omega)
  rw [fo h (o + 1) i (by omega) (by omega)]
  exact ⟨i4, c_mCo_usesA ho i4 (fun y => ⟨fun y => absurd y (by decide), fun _ => ⟨i4, by rw [e3]; have := wi.a (k1.mp y); omega, by rw [e3, fa h]; exact na (k1.mp y), s38 _ _ rfl rfl rfl rfl rfl⟩⟩) fun _ => ⟨fun _ => ⟨i4, s38 _ _ rfl rfl rfl rfl rfl⟩, fun y => absurd rfl y⟩⟩
theorem c_mRu_goCode {a f : Int} (ho : ab_is 1 o) (ha : ab_arr 0 300 a) (hac : ¬ (100 ≤ a ∧ a ≤ 107)) (hW : kW μ o) (hN : kNu μ o a) (hf : 0 ≤ f ∧ f ≤ 100000) (hi : 0 ≤ μ 100 1 ∧ μ 100 1 ≤ 200) (h12 : 0 ≤ μ 100 12 ∧ μ 100 12 ≤ 3000) (h14 : 0 ≤ μ 100 14 ∧ μ 100 14 ≤ 15) (hb : ∀ k, 0 ≤ k → k < μ 100 14 → 0 ≤ μ 106 k) (hP : ∀ r μ', nR μ μ' → P r μ') : jj_mRu_goCode X (d + 3) 0 (ab_la [100, o, a, f]) [] μ P := by
  have ho' : o = 45 ∨ o = 88 := ho
  have s19 : ∀ (m : Nat) (l : ab_l) (μ1 : ab_m) (lf : Int), l 0 = 100 → l 1 = o → l 2 = a → l 4 = lf → lf ≤ 200000 → lf.toNat = m → nR μ μ1 → jj_mRu_goCode X (d + 3) 19 l [] μ1 P := by
    intro m
    induction m using Nat.strongRecOn with
    | ind m ih =>
      intro l μ1 lf l0 l1 l2 l4 lf1 em h
      refine bk_mRu_goCode_19 (n2 := 300) l0 (by rw [l1]; exact ho) (by rw [l2]; exact ha) ?_
      rw [l1, l2, l4]
      refine ⟨fun _ => hP _ μ1 h, fun z => ⟨fun _ => hP _ μ1 h, fun _ => c_mRu_burn h fun μ2 h2 => ?_⟩⟩
      rw [show ab_w (lf + -1) = lf - 1 from ab_wi (by omega) (by omega)]
      refine ⟨fun _ => ih _ (by omega) _ μ2 (lf - 1) l0 l1 l2 rfl (by omega) rfl h2, fun _ => ⟨fun _ => ih _ (by omega) _ μ2 (lf - 1) l0 l1 l2 rfl (by omega) rfl h2, fun y => ?_⟩⟩
      rw [h2.fr o 5 (by omega) (by omega)] at y
      exact c_mRu_takeInstruction ho ha hac hW hN ⟨h2.at', y⟩ h2 fun μ3 h3 => ih _ (by omega) _ μ3 (lf - 1) l0 l1 l2 rfl (by omega) rfl h3
  refine bk_mRu_goCode_0 (n2 := 300) rfl ho ha ?_
  simp only [la1, la2, la3]
  refine c_mRu_begin hi (by omega) hf.2 h12 h14 hb fun μ1 h1 => c_mArr_fill (n := 300) ⟨107, rfl, by decide, by decide⟩ (by decide) fun μ2 f2 _ => ?_
  rw [show ab_w (f + 1) = f + 1 from ab_wi (by omega) (by omega)]
  have g0 : ∀ i, μ2 100 i = μ1 100 i := fun i => f2 100 i (by decide)
  have h2 : nR μ μ2 := by
    obtain ⟨a1, a2, a3, a4, a5, a6, a7, a8, a9⟩ := h1
    refine ⟨fun b i y1 y2 => by rw [f2 b i (by omega)]; exact a1 b i y1 y2, a2, by rw [g0]; exact a3, by rw [g0]; exact a4, by rw [g0, g0]; exact a5, by rw [g0]; exact a6, by rw [g0]; exact a7, by rw [g0]; exact a8, fun k a b => ?_⟩
    rw [g0] at b
    rw [f2 106 k (by decide)]
    exact a9 k a b
  exact s19 _ _ μ2 (f + 1) rfl rfl rfl rfl (by omega) rfl h2
end K11

/-! THE CLASS, part k12: Runner, runs of the text -/
section K12
variable {X : jm_X} {d : Nat} {P : Int → ab_m → Prop} {μ μ' μ0 : ab_m} {s : Int}
end K12
/-- a step of a script, as a run needs it -/
def scI (μ : ab_m) (s k : Int) : Prop := (μ (s + 1) k = 1 ∨ μ (s + 1) k = 23 ∨ μ (s + 1) k = 29 ∨ μ (s + 1) k = 30 → 0 ≤ μ (s + 2) k ∧ μ (s + 2) k < 3000) ∧ ((25 ≤ μ (s + 1) k ∧ μ (s + 1) k ≤ 27) ∨ μ (s + 1) k = 36 ∨ μ (s + 1) k = 37 → 0 ≤ μ (s + 2) k) ∧ (μ (s + 1) k = 21 ∨ μ (s + 1) k = 22 → 0 ≤ μ (s + 2) k → μ (s + 2) k < 8 → μ (s + 5) (μ (s + 2) k) ≤ 100) ∧ (μ (s + 1) k = 32 → (0 ≤ μ (s + 2) k ∧ μ (s + 2) k < 15) ∧ 0 ≤ μ (s + 6) (μ (s + 2) k) ∧ 0 ≤ μ (s + 8) (μ (s + 2) k) ∧ (0 ≤ μ (s + 9) (μ (s + 2) k) ∧ μ (s + 9) (μ (s + 2) k) ≤ 6) ∧ μ (s + 8) (μ (s + 2) k) + μ (s + 9) (μ (s + 2) k) ≤ 3000)
theorem scI.nm {μ : ab_m} {s k : Int} (h'' : scI μ s k) : μ (s + 1) k = 1 ∨ μ (s + 1) k = 23 ∨ μ (s + 1) k = 29 ∨ μ (s + 1) k = 30 → 0 ≤ μ (s + 2) k ∧ μ (s + 2) k < 3000 := h''.1
theorem scI.jp {μ : ab_m} {s k : Int} (h'' : scI μ s k) : (25 ≤ μ (s + 1) k ∧ μ (s + 1) k ≤ 27) ∨ μ (s + 1) k = 36 ∨ μ (s + 1) k = 37 → 0 ≤ μ (s + 2) k := h''.2.1
theorem scI.rw {μ : ab_m} {s k : Int} (h'' : scI μ s k) : μ (s + 1) k = 21 ∨ μ (s + 1) k = 22 → 0 ≤ μ (s + 2) k → μ (s + 2) k < 8 → μ (s + 5) (μ (s + 2) k) ≤ 100 := h''.2.2.1
theorem scI.cl {μ : ab_m} {s k : Int} (h'' : scI μ s k) : μ (s + 1) k = 32 → (0 ≤ μ (s + 2) k ∧ μ (s + 2) k < 15) ∧ 0 ≤ μ (s + 6) (μ (s + 2) k) ∧ 0 ≤ μ (s + 8) (μ (s + 2) k) ∧ (0 ≤ μ (s + 9) (μ (s + 2) k) ∧ μ (s + 9) (μ (s + 2) k) ≤ 6) ∧ μ (s + 8) (μ (s + 2) k) + μ (s + 9) (μ (s + 2) k) ≤ 3000 := h''.2.2.2
section K12
variable {X : jm_X} {d : Nat} {P : Int → ab_m → Prop} {μ μ' μ0 : ab_m} {s : Int}
end K12
def scO (μ : ab_m) (s : Int) : Prop := (0 ≤ μ s 4 ∧ μ s 4 ≤ 3002) ∧ (0 ≤ μ s 5) ∧ (∀ k, 0 ≤ k → k < μ s 4 → scI μ s k)
theorem scO.n {μ : ab_m} {s : Int} (h'' : scO μ s) : 0 ≤ μ s 4 ∧ μ s 4 ≤ 3002 := h''.1
theorem scO.st {μ : ab_m} {s : Int} (h'' : scO μ s) : 0 ≤ μ s 5 := h''.2.1
theorem scO.i {μ : ab_m} {s : Int} (h'' : scO μ s) : ∀ k, 0 ≤ k → k < μ s 4 → scI μ s k := h''.2.2
section K12
variable {X : jm_X} {d : Nat} {P : Int → ab_m → Prop} {μ μ' μ0 : ab_m} {s : Int}
theorem sc5 (h : ab_is 10 s) : ab_arr 0 8 (s + 5) := by
  rcases h with h | h <;> subst h
  · exact ⟨21, rfl, by decide, by decide⟩
  · exact ⟨31, rfl, by decide, by decide⟩
theorem c_mRu_takeWork {k : Int} (h : nR μ0 μ) (hP : ∀ μ', nR μ0 μ' → P 0 μ') : jj_mRu_takeWork X (d + 1) 0 (ab_la [100, k]) [] μ P := by
  have s14 : ∀ (μ1 : ab_m) (s0 : Int), nR μ0 μ1 → jj_mRu_takeWork X (d + 1) 14 (ab_la [100, k]) [(0, s0)] μ1 P := fun μ1 s0 h1 =>
    bk_mRu_takeWork_14 rfl (c_mRu_pop h1 fun r μ2 h2 => c_mP_isDivision fun q _ => ⟨fun _ => c_mP_work fun r => c_mRu_push h2 hP, fun _ => ⟨fun _ => c_mP_work fun r => c_mRu_push h2 hP, fun _ μ3 e3 => hP μ3 (h2.f e3 (Or.inl rfl))⟩⟩)
  exact bk_mRu_takeWork_0 rfl ⟨fun _ => s14 μ 0 h, fun _ => c_mRu_pop h fun r μ1 h1 => s14 μ1 r h1⟩
theorem c_mRu_goBack (h : nR μ0 μ) (hP : ∀ μ', nR μ0 μ' → P 0 μ') : jj_mRu_goBack X d 0 (ab_la [100]) [] μ P := by
  have c := h.cal
  refine bk_mRu_goBack_0 rfl ⟨fun _ => hP μ h, fun z μ1 e1 => ?_⟩
  rw [show ab_w (μ 100 14 - 1) = μ 100 14 - 1 from ab_wi (by omega) (by omega)] at e1
  have v : μ1 100 14 = μ 100 14 - 1 := by rw [e1, ab_mud, if_pos ⟨rfl, rfl⟩]
  have h1 : nR μ0 μ1 := h.f e1 (by omega)
  have b := h.bk (μ 100 14 - 1) (by omega) (by omega)
  have e106 : μ1 106 (μ1 100 14) = μ 106 (μ 100 14 - 1) := by rw [v, e1, mu_ne (by decide)]
  refine ⟨by omega, fun μ2 e2 => hP μ2 (h1.f e2 (Or.inr (Or.inr (Or.inr (Or.inr (Or.inl ⟨rfl, ?_⟩))))))⟩
  rw [e106]
  exact b
theorem c_mRu_tellEarly {q v t : Int} (h : nR μ0 μ) (ht : 0 ≤ t) (hP : ∀ μ', nR μ0 μ' → P 0 μ') : jj_mRu_tellEarly X (d + 1) 0 (ab_la [100, q, v, t]) [] μ P :=
  bk_mRu_tellEarly_0 rfl ⟨fun _ => hP μ h, fun _ => c_mRu_push h fun μ1 h1 μ2 e2 => hP μ2 (h1.f e2 (Or.inr (Or.inr (Or.inr (Or.inr (Or.inl ⟨rfl, ht⟩))))))⟩
theorem c_mRu_call {x : Int} (hs : ab_is 10 s) (h : nR μ0 μ) (hx : 0 ≤ x ∧ x < 15) (hb : 0 ≤ μ0 (s + 6) x) (hf : 0 ≤ μ0 (s + 8) x) (hn : 0 ≤ μ0 (s + 9) x ∧ μ0 (s + 9) x ≤ 6) (hfn : μ0 (s + 8) x + μ0 (s + 9) x ≤ 3000) (hP : ∀ μ', nR μ0 μ' → P 0 μ') : jj_mRu_call X (d + 1) 0 (ab_la [100, s, x]) [] μ P := by
  have hs' : s = 16 ∨ s = 26 := hs
  have s9 : ∀ (m : Nat) (l : ab_l) (μ1 : ab_m) (k : Int), l 0 = 100 → l 1 = s → l 2 = x → l 3 = k → -1 ≤ k → k < μ0 (s + 9) x → (k + 1).toNat = m → nR μ0 μ1 → jj_mRu_call X (d + 1) 9 l [] μ1 P := by
    intro m
    induction m using Nat.strongRecOn with
    | ind m ih =>
      intro l μ1 k l0 l1 l2 l3 k0 k1 em h1
      have c := h1.cal
      refine bk_mRu_call_9 l0 (by rw [l1]; exact hs) ?_
      rw [l1, l2, l3]
      refine ⟨fun _ => ⟨fun _ => hP μ1 h1, fun z => ⟨by omega, fun μ2 e2 μ3 e3 => ⟨hx, fun μ4 e4 => ?_⟩⟩⟩, fun z => ⟨hx, c_mRu_pop h1 fun r μ2 h2 => ?_⟩⟩
      · have e214 : μ2 100 14 = μ1 100 14 := by rw [e2, mu_ne (by decide)]
        rw [e214, show ab_w (μ1 100 14 + 1) = μ1 100 14 + 1 from ab_wi (by omega) (by omega)] at e3
        have v3 : μ3 100 14 = μ1 100 14 + 1 := by rw [e3, ab_mud, if_pos ⟨rfl, rfl⟩]
        have g3 : ∀ c j, ¬ (c = 100 ∧ j = 14) → c ≠ 106 → μ3 c j = μ1 c j := fun c j y1 y2 => by rw [e3, ab_mud, if_neg y1, e2, mu_ne y2]
        have h3 : nR μ0 μ3 := by
          obtain ⟨a1, a2, a3, a4, a5, a6, a7, a8, a9⟩ := h1
          refine ⟨fun b i y1 y2 => by rw [g3 b i (by omega) (by omega)]; exact a1 b i y1 y2, a2, by rw [g3 100 3 (by omega) (by decide)]; exact a3, by rw [g3 100 4 (by omega) (by decide)]; exact a4, by rw [g3 100 5 (by omega) (by decide), g3 100 6 (by omega) (by decide)]; exact a5, by rw [g3 100 8 (by omega) (by decide)]; exact a6, by rw [g3 100 12 (by omega) (by decide)]; exact a7, by omega, fun k a b => ?_⟩
          rw [v3] at b
          by_cases e : k = μ1 100 14
          · rw [e3, mu_ne (by decide), e2, ab_mud, if_pos ⟨rfl, e⟩]; exact a6
          · rw [e3, mu_ne (by decide), e2, ab_mud, if_neg (fun q => e q.2)]; exact a9 k a (by omega)
        refine hP μ4 (h3.f e4 (Or.inr (Or.inr (Or.inr (Or.inr (Or.inl ⟨rfl, ?_⟩))))))
        rw [h3.fr (s + 6) x (by omega) (by omega)]
        exact hb
      · rw [h1.fr (s + 8) x (by omega) (by omega), show ab_w (μ0 (s + 8) x + k) = μ0 (s + 8) x + k from ab_wi (by omega) (by omega), show ab_w (k + -1) = k - 1 from ab_wi (by omega) (by omega)]
        exact ⟨by omega, fun μ3 e3 => ih _ (by omega) _ μ3 (k - 1) l0 l1 l2 rfl (by omega) (by omega) rfl (h2.c e3 (by decide))⟩
  refine bk_mRu_call_0 rfl hs ?_
  simp only [la1, la2]
  rw [h.fr (s + 9) x (by omega) (by omega), show ab_w (μ0 (s + 9) x - 1) = μ0 (s + 9) x - 1 from ab_wi (by omega) (by omega)]
  exact ⟨hx, s9 _ _ μ (μ0 (s + 9) x - 1) rfl rfl rfl rfl (by omega) (by omega) rfl h⟩
theorem c_mRu_goText {f : Int} (hs : ab_is 10 s) (hO : scO μ s) (hf : 0 ≤ f ∧ f ≤ 100000) (hi : 0 ≤ μ 100 1 ∧ μ 100 1 ≤ 200) (h12 : 0 ≤ μ 100 12 ∧ μ 100 12 ≤ 3000) (h14 : 0 ≤ μ 100 14 ∧ μ 100 14 ≤ 15) (hb : ∀ k, 0 ≤ k → k < μ 100 14 → 0 ≤ μ 106 k) (hP : ∀ r μ', nR μ μ' → P r μ') : jj_mRu_goText X (d + 3) 0 (ab_la [100, s, f]) [] μ P := by
  have hs' : s = 16 ∨ s = 26 := hs
  have hn := hO.n
  have s36 : ∀ (m : Nat) (l : ab_l) (μ1 : ab_m) (lf : Int), l 0 = 100 → l 1 = s → l 3 = lf → lf ≤ 1000000000000 → lf.toNat = m → nR μ μ1 → jj_mRu_goText X (d + 3) 36 l [] μ1 P := by
    intro m
    induction m using Nat.strongRecOn with
    | ind m ih =>
      intro l μ1 lf l0 l1 l3 lf1 em h
      have fo : ∀ c j, s ≤ c → c ≤ s + 9 → μ1 c j = μ c j := fun c j a b => h.fr c j (by omega) (by omega)
      have a0 := h.at'
      refine bk_mRu_goText_36 l0 (by rw [l1]; exact hs) ?_
      rw [l1, l3, fo s 4 (by omega) (by omega), fo (s + 1) _ (by omega) (by omega), fo (s + 2) _ (by omega) (by omega)]
      refine ⟨fun _ => hP _ μ1 h, fun z => ⟨fun _ => hP _ μ1 h, fun _ => ⟨fun _ => hP _ μ1 h, fun y => ⟨by omega, by omega, fun μ2 e2 => ?_⟩⟩⟩⟩
      have si := hO.i _ a0 y
      generalize hat : μ1 100 8 = k at *
      rw [show ab_w (k + 1) = k + 1 from ab_wi (by omega) (by omega)] at e2
      have h2 : nR μ μ2 := h.f e2 (by omega)
      rw [show ab_W (lf - 1) = lf - 1 from ab_Wi (by omega) (by omega)]
      have go : ∀ (l' : ab_l) (μ3 : ab_m), l' 0 = 100 → l' 1 = s → l' 3 = lf - 1 → nR μ μ3 → jj_mRu_goText X (d + 3) 36 l' [] μ3 P := fun l' μ3 b0 b1 b3 h3 => ih _ (by omega) l' μ3 (lf - 1) b0 b1 b3 (by omega) rfl h3
      have s115 : ∀ (l : ab_l), l 0 = 100 → l 1 = s → l 3 = lf → l 5 = μ (s + 1) k → l 6 = μ (s + 2) k → jj_mRu_goText X (d + 3) 115 l [] μ2 P := by
        intro l l0 l1 l3 l5 l6
        refine bk_mRu_goText_115 l0 (by rw [l1]; exact hs) ?_
        rw [l1, l3, l5, l6, show ab_W (lf - 1) = lf - 1 from ab_Wi (by omega) (by omega)]
        obtain ⟨nm, jp, rw', cl⟩ := si
        generalize μ (s + 1) k = op at *
        generalize μ (s + 2) k = arg at *
        have nx : ∀ μ3, nR μ μ3 → jj_mRu_goText X (d + 3) 36 (ab_up l 3 (lf - 1)) [] μ3 P := fun μ3 h3 => go _ μ3 l0 l1 rfl h3
        have row : op = 21 ∨ op = 22 → ∀ {μ3 : ab_m}, nR μ μ3 → 0 ≤ arg → arg < 8 → μ3 (s + 5) arg ≤ 100 := fun z {μ3} h3 b1 b2 => by rw [h3.fr (s + 5) arg (by omega) (by omega)]; exact rw' z b1 b2
        refine ⟨fun z => bk_mRu_takeWay_0 rfl hs ?_, fun z => bk_mRu_takePlain_0 rfl hs ?_⟩
        · simp only [la1, la2, la3]
          refine ⟨⟨fun e μ3 e3 => nx μ3 (h2.f e3 ?_), fun e => c_mRu_pop h2 fun r μ3 h3 => ⟨fun _ μ4 e4 => nx μ4 (h3.f e4 ?_), fun _ μ4 e4 => nx μ4 (h3.f e4 ?_)⟩, fun e => c_mRu_pop h2 fun r μ3 h3 => ⟨fun _ μ4 e4 => nx μ4 (h3.f e4 ?_), fun _ μ4 e4 => nx μ4 (h3.f e4 ?_)⟩, fun e μ3 e3 => nx μ3 (h2.f e3 (Or.inl rfl)), fun e => c_mRu_pop h2 fun r μ3 h3 => ⟨nm (by omega), fun μ4 e4 => nx μ4 (h3.c e4 (by decide))⟩, fun e => ⟨nm (by omega), fun μ4 e4 => nx μ4 (h2.c e4 (by decide))⟩, fun e => c_mRu_burn h2 nx, fun e => ?_, fun e => c_mRu_goBack h2 nx, fun e => c_mRu_push h2 fun μ3 h3 => c_mRu_goBack h3 nx, fun e => c_mRu_pop h2 fun r μ3 h3 => nx μ3 h3, fun e => c_mRu_pop h2 fun r μ3 h3 => ⟨fun _ => c_mRu_tellEarly h3 (jp (by omega)) nx, fun _ => c_mRu_tellEarly h3 (jp (by omega)) nx⟩, fun e => c_mRu_pop h2 fun r μ3 h3 => ⟨fun _ => c_mRu_tellEarly h3 (jp (by omega)) nx, fun _ => c_mRu_tellEarly h3 (jp (by omega)) nx⟩, fun e => c_mRu_pop h2 fun r μ3 h3 => ⟨fun _ => c_mRu_push h3 nx, fun _ => c_mRu_push h3 nx⟩, trivial⟩, fun _ => nx μ2 h2⟩
          · have := jp (by omega); omega
          · have := h3.at'; omega
          · have := jp (by omega); omega
          · have := h3.at'; omega
          · have := jp (by omega); omega
          · obtain ⟨c1, c2, c3, c4, c5⟩ := cl e
            exact c_mRu_call hs h2 c1 c2 c3 c4 c5 nx
        · simp only [la1, la2, la3]
          refine ⟨⟨fun e => c_mRu_push h2 nx, fun e => ⟨nm (by omega), c_mRu_push h2 nx⟩, fun e => c_mRu_pop h2 fun r μ3 h3 => c_mRu_cellPlace (sc5 hs) h3 (row (by omega) h3) fun q μ4 h4 q1 => ⟨fun _ => nx μ4 h4, fun y => ⟨by omega, c_mRu_push h4 nx⟩⟩, fun e => c_mRu_pop h2 fun r μ3 h3 => c_mRu_pop h3 fun r2 μ4 h4 => c_mRu_cellPlace (sc5 hs) h4 (row (by omega) h4) fun q μ5 h5 q1 => ⟨fun _ => nx μ5 h5, fun y => ⟨by omega, fun μ6 e6 => nx μ6 (h5.c e6 (by decide))⟩⟩, fun e => c_mRu_takeInput h2 fun r μ3 h3 => ⟨nm (by omega), fun μ4 e4 => nx μ4 (h3.c e4 (by decide))⟩, trivial⟩, fun _ => c_mRu_pop h2 fun r μ3 h3 => c_mRu_show h3 nx⟩
      exact ⟨fun _ => s115 _ l0 l1 l3 rfl rfl, fun _ => ⟨fun _ => s115 _ l0 l1 l3 rfl rfl, fun _ => c_mRu_takeWork h2 fun μ3 h3 => go _ μ3 l0 l1 rfl h3⟩⟩
  refine bk_mRu_goText_0 rfl hs ?_
  simp only [la1, la2]
  refine c_mRu_begin hi hO.st hf.2 h12 h14 hb fun μ1 h1 => c_mArr_fill (n := 3000) ⟨104, rfl, by decide, by decide⟩ (by decide) fun μ2 f2 _ μ3 e3 μ4 e4 => ?_
  have g0 : ∀ i, μ2 100 i = μ1 100 i := fun i => f2 100 i (by decide)
  have h2 : nR μ μ2 := by
    obtain ⟨a1, a2, a3, a4, a5, a6, a7, a8, a9⟩ := h1
    refine ⟨fun b i y1 y2 => by rw [f2 b i (by omega)]; exact a1 b i y1 y2, a2, by rw [g0]; exact a3, by rw [g0]; exact a4, by rw [g0, g0]; exact a5, by rw [g0]; exact a6, by rw [g0]; exact a7, by rw [g0]; exact a8, fun k a b => ?_⟩
    rw [g0] at b
    rw [f2 106 k (by decide)]
    exact a9 k a b
  have h3 : nR μ μ3 := h2.f e3 (by omega)
  have c3 := h3.cal
  have h4 : nR μ μ4 := h3.f e4 (by omega)
  rw [show ab_W (f + 1) = f + 1 from ab_Wi (by omega) (by omega), show ab_W (1000000 * (f + 1)) = 1000000 * (f + 1) from ab_Wi (by omega) (by omega)]
  exact s36 _ _ μ4 (1000000 * (f + 1)) rfl rfl rfl (by omega) rfl h4
end K12

