/-! THE LAW, part l1: what stands in the class between two calls is kept -/
section L1
variable {X : jm_X} {d : Nat} {P : Int → ab_m → Prop} {μ μ' : ab_m}
end L1
/-- what stands in the class between two calls -/
def gP (μ : ab_m) : Prop := (0 ≤ μ 0 1 ∧ μ 0 1 ≤ 3000) ∧ (ab_is 10 (μ 0 3) ∧ ab_is 10 (μ 0 4) ∧ μ 0 3 ≠ μ 0 4) ∧ (μ 0 5 ≠ 0 → ∃ Γ N dn, scW μ (μ 0 3) Γ N dn) ∧ (μ 0 9 ≠ 0 → kW μ 45) ∧ (μ 0 15 ≠ 0 → kW μ 88 ∧ kCl μ 81 88) ∧ (0 ≤ μ 100 1 ∧ μ 100 1 ≤ 200) ∧ (0 ≤ μ 100 3 ∧ μ 100 3 ≤ 300) ∧ (0 ≤ μ 100 12 ∧ μ 100 12 ≤ 3000) ∧ (0 ≤ μ 100 14 ∧ μ 100 14 ≤ 15) ∧ (∀ k, 0 ≤ k → k < μ 100 14 → 0 ≤ μ 106 k) ∧ (∀ r, 0 ≤ r → r < 300 → μ 108 r = r) ∧ (∀ t, 0 ≤ t → t < 3002 → 0 ≤ μ 37 t)
theorem gP.tp {μ : ab_m} (h'' : gP μ) : 0 ≤ μ 0 1 ∧ μ 0 1 ≤ 3000 := h''.1
theorem gP.sc {μ : ab_m} (h'' : gP μ) : ab_is 10 (μ 0 3) ∧ ab_is 10 (μ 0 4) ∧ μ 0 3 ≠ μ 0 4 := h''.2.1
theorem gP.txt {μ : ab_m} (h'' : gP μ) : μ 0 5 ≠ 0 → ∃ Γ N dn, scW μ (μ 0 3) Γ N dn := h''.2.2.1
theorem gP.low {μ : ab_m} (h'' : gP μ) : μ 0 9 ≠ 0 → kW μ 45 := h''.2.2.2.1
theorem gP.imp {μ : ab_m} (h'' : gP μ) : μ 0 15 ≠ 0 → kW μ 88 ∧ kCl μ 81 88 := h''.2.2.2.2.1
theorem gP.inp {μ : ab_m} (h'' : gP μ) : 0 ≤ μ 100 1 ∧ μ 100 1 ≤ 200 := h''.2.2.2.2.2.1
theorem gP.pr {μ : ab_m} (h'' : gP μ) : 0 ≤ μ 100 3 ∧ μ 100 3 ≤ 300 := h''.2.2.2.2.2.2.1
theorem gP.top {μ : ab_m} (h'' : gP μ) : 0 ≤ μ 100 12 ∧ μ 100 12 ≤ 3000 := h''.2.2.2.2.2.2.2.1
theorem gP.cal {μ : ab_m} (h'' : gP μ) : 0 ≤ μ 100 14 ∧ μ 100 14 ≤ 15 := h''.2.2.2.2.2.2.2.2.1
theorem gP.bk {μ : ab_m} (h'' : gP μ) : ∀ k, 0 ≤ k → k < μ 100 14 → 0 ≤ μ 106 k := h''.2.2.2.2.2.2.2.2.2.1
theorem gP.sn {μ : ab_m} (h'' : gP μ) : ∀ r, 0 ≤ r → r < 300 → μ 108 r = r := h''.2.2.2.2.2.2.2.2.2.2.1
theorem gP.bg {μ : ab_m} (h'' : gP μ) : ∀ t, 0 ≤ t → t < 3002 → 0 ≤ μ 37 t := h''.2.2.2.2.2.2.2.2.2.2.2
section L1
variable {X : jm_X} {d : Nat} {P : Int → ab_m → Prop} {μ μ' : ab_m}
theorem kCl.keep (h : kCl μ 81 88) (f : ∀ c j, 87 ≤ c → c ≤ 94 → μ' c j = μ c j) : kCl μ' 81 88 := fun i a b => by
  rw [f 88 5 (by decide) (by decide)] at b
  have := h i a b
  unfold kA kB kD at this ⊢
  have e1 := f (88 + 1) i (by decide) (by decide)
  have e2 := f (88 + 2) i (by decide) (by decide)
  have e3 := f (88 + 3) i (by decide) (by decide)
  have e4 := f (88 + 4) i (by decide) (by decide)
  have e5 := f (88 + 5) i (by decide) (by decide)
  rw [e1, e2, e3, e4, e5, f (81 + 6) _ (by decide) (by decide), f (81 + 6) _ (by decide) (by decide), f (81 + 6) _ (by decide) (by decide)]
  exact this
theorem kW.keep {o : Int} (h : kW μ o) (f : ∀ c j, o ≤ c → c ≤ o + 6 → μ' c j = μ c j) : kW μ' o := h.same (f o 5 (by omega) (by omega)) (f o 6 (by omega) (by omega)) fun c j a b => f c j (by omega) b
/-- the fields of the class itself, the runner's -/
def gZ (c j : Int) : Prop := (c = 0 ∧ (j = 1 ∨ j = 3 ∨ j = 4 ∨ j = 5 ∨ j = 9 ∨ j = 15)) ∨ (c = 100 ∧ (j = 1 ∨ j = 3 ∨ j = 12 ∨ j = 14)) ∨ c = 106
/-- the rest that counts -/
def gY (c : Int) : Prop := (16 ≤ c ∧ c ≤ 35) ∨ c = 37 ∨ (45 ≤ c ∧ c ≤ 51) ∨ (87 ≤ c ∧ c ≤ 94) ∨ c = 108
theorem gP.same (h : gP μ) (z : ∀ c j, gZ c j → μ' c j = μ c j) (y : ∀ c j, gY c → μ' c j = μ c j) : gP μ' := by
  unfold gZ at z
  unfold gY at y
  have hs : (μ 0 3 = 16 ∨ μ 0 3 = 26) := h.sc.1
  have z1 := z 0 1 (by decide)
  have z3 := z 0 3 (by decide)
  have z4 := z 0 4 (by decide)
  have z5 := z 0 5 (by decide)
  have z9 := z 0 9 (by decide)
  have z15 := z 0 15 (by decide)
  have r1 := z 100 1 (by decide)
  have r3 := z 100 3 (by decide)
  have r12 := z 100 12 (by decide)
  have r14 := z 100 14 (by decide)
  refine ⟨by rw [z1]; exact h.tp, by rw [z3, z4]; exact h.sc, fun q => ?_, fun q => ?_, fun q => ?_, by rw [r1]; exact h.inp, by rw [r3]; exact h.pr, by rw [r12]; exact h.top, by rw [r14]; exact h.cal, fun k a b => ?_, fun r a b => by rw [y 108 r (by omega)]; exact h.sn r a b, fun t a b => by rw [y 37 t (by omega)]; exact h.bg t a b⟩
  · rw [z5] at q
    obtain ⟨Γ, N, dn, t⟩ := h.txt q
    rw [z3]
    exact ⟨Γ, N, dn, t.frame fun c j a b => y c j (by omega)⟩
  · rw [z9] at q
    exact (h.low q).keep fun c j a b => y c j (by omega)
  · rw [z15] at q
    exact ⟨(h.imp q).1.keep fun c j a b => y c j (by omega), (h.imp q).2.keep fun c j a b => y c j (by omega)⟩
  · rw [r14] at b
    rw [z 106 k (by omega)]
    exact h.bk k a b
/-- the reference is as it was -/
def gQ (μ μ' : ab_m) : Prop := ∀ c j, 109 ≤ c → c ≠ 179 → μ' c j = μ c j
end L1
/-- kept, and neither fed nor given input -/
def gPp (μ μ' : ab_m) : Prop := (gP μ') ∧ (gQ μ μ') ∧ (μ' 100 1 = μ 100 1) ∧ (μ' 0 1 = μ 0 1)
theorem gPp.p {μ μ' : ab_m} (h'' : gPp μ μ') : gP μ' := h''.1
theorem gPp.q {μ μ' : ab_m} (h'' : gPp μ μ') : gQ μ μ' := h''.2.1
theorem gPp.i {μ μ' : ab_m} (h'' : gPp μ μ') : μ' 100 1 = μ 100 1 := h''.2.2.1
theorem gPp.t {μ μ' : ab_m} (h'' : gPp μ μ') : μ' 0 1 = μ 0 1 := h''.2.2.2
section L1
variable {X : jm_X} {d : Nat} {P : Int → ab_m → Prop} {μ μ' : ab_m}
theorem gPp.rf (h : gP μ) : gPp μ μ := ⟨h, fun _ _ _ _ => rfl, rfl, rfl⟩
theorem gP.out {v : Int} (h : gP μ) (e : μ' = ab_mu μ 179 0 v) : gP μ' := h.same (fun c j q => by unfold gZ at q; rw [e, mu_ne (by omega)]) fun c j q => by unfold gY at q; rw [e, mu_ne (by omega)]
theorem gPp.out {μ1 : ab_m} {v : Int} (h : gPp μ μ1) (e : μ' = ab_mu μ1 179 0 v) : gPp μ μ' := ⟨h.p.out e, fun c j a b => by rw [e, mu_ne b]; exact h.q c j a b, by rw [e, mu_ne (by decide)]; exact h.i, by rw [e, mu_ne (by decide)]; exact h.t⟩
/-- a call that changes nothing that counts -/
theorem gP.qt (h : gP μ) (f : ∀ c j, ¬ (52 ≤ c ∧ c ≤ 87 ∧ c ≠ 87) → ¬ (c = 0 ∧ j = 12) → μ' c j = μ c j) : gPp μ μ' := ⟨h.same (fun c j q => by unfold gZ at q; exact f c j (by omega) (by omega)) (fun c j q => by unfold gY at q; exact f c j (by omega) (by omega)), fun c j a b => f c j (by omega) (by omega), f 100 1 (by omega) (by omega), f 0 1 (by omega) (by omega)⟩
theorem p_place (h : gP μ) (hP : ∀ r μ', gPp μ μ' → P r μ') : jj_mP_place X d 0 (ab_la [0]) [] μ P := c_mP_place fun r => hP r μ (.rf h)
theorem p_clear (h : gP μ) (hP : ∀ μ', gP μ' → gQ μ μ' → μ' 179 0 = μ 179 0 → μ' 100 1 = 0 → μ' 0 1 = μ 0 1 → P (μ 100 1) μ') : jj_mP_clear X d 0 (ab_la [0]) [] μ P := c_mP_clear fun μ' f e => by
  obtain ⟨h1, h2, h3, h4, h5, h6, h7, h8, h9, h10, h11, h12⟩ := h
  refine hP μ' ⟨by rw [f 0 1 (by omega)]; exact h1, by rw [f 0 3 (by omega), f 0 4 (by omega)]; exact h2, fun q => ?_, fun q => ?_, fun q => ?_, by rw [e]; decide, by rw [f 100 3 (by omega)]; exact h7, by rw [f 100 12 (by omega)]; exact h8, by rw [f 100 14 (by omega)]; exact h9, fun k a b => ?_, fun r a b => by rw [f 108 r (by omega)]; exact h11 r a b, fun t a b => by rw [f 37 t (by omega)]; exact h12 t a b⟩ (fun c j a b => f c j (by omega)) (f 179 0 (by omega)) e (f 0 1 (by omega))
  · rw [f 0 5 (by omega)] at q
    obtain ⟨Γ, N, dn, t⟩ := h3 q
    have hs : (μ 0 3 = 16 ∨ μ 0 3 = 26) := h2.1
    rw [f 0 3 (by omega)]
    exact ⟨Γ, N, dn, t.frame fun c j a b => f c j (by omega)⟩
  · rw [f 0 9 (by omega)] at q
    exact (h4 q).keep fun c j a b => f c j (by omega)
  · rw [f 0 15 (by omega)] at q
    exact ⟨(h5 q).1.keep fun c j a b => f c j (by omega), (h5 q).2.keep fun c j a b => f c j (by omega)⟩
  · rw [f 100 14 (by omega)] at b
    rw [f 106 k (by omega)]
    exact h10 k a b
/-- read -/
theorem p_read (h : gP μ) (hP : ∀ r μ', gP μ' → gQ μ μ' → μ' 179 0 = μ 179 0 → μ' 100 1 = μ 100 1 → μ' 0 1 = 0 → P r μ') : jj_mP_read X (d + 80) 0 (ab_la [0]) [] μ P := by
  obtain ⟨h1, h2, h3, h4, h5, h6, h7, h8, h9, h10, h11, h12⟩ := h
  have a3 : (μ 0 3 = 16 ∨ μ 0 3 = 26) := h2.1
  have a4 : (μ 0 4 = 16 ∨ μ 0 4 = 26) := h2.2.1
  have a34 := h2.2.2
  refine c_mP_read h1 h2.2.1 h2.1 fun r μ' k R => ?_
  obtain ⟨o, f, t⟩ := k
  have low : μ' 0 9 = μ 0 9 → μ' 0 9 ≠ 0 → kW μ' 45 := fun e q => (h4 (by rw [← e]; exact q)).keep fun c j a b => o c j (by omega) (by omega) (by omega)
  have imp : μ' 0 15 = μ 0 15 → μ' 0 15 ≠ 0 → kW μ' 88 ∧ kCl μ' 81 88 := fun e q => by
    have := h5 (by rw [← e]; exact q)
    exact ⟨this.1.keep fun c j a b => o c j (by omega) (by omega) (by omega), this.2.keep fun c j a b => o c j (by omega) (by omega) (by omega)⟩
  have r1 : ∀ j, μ' 100 j = μ 100 j := fun j => o 100 j (by omega) (by omega) (by omega)
  have bk : ∀ k, 0 ≤ k → k < μ' 100 14 → 0 ≤ μ' 106 k := fun k a b => by
    rw [r1] at b
    rw [o 106 k (by omega) (by omega) (by omega)]
    exact h10 k a b
  have sn : ∀ r, 0 ≤ r → r < 300 → μ' 108 r = r := fun r a b => by rw [o 108 r (by omega) (by omega) (by omega)]; exact h11 r a b
  have bg : ∀ t, 0 ≤ t → t < 3002 → 0 ≤ μ' 37 t := fun t a b => by rw [o 37 t (by omega) (by omega) (by omega)]; exact h12 t a b
  have fin : gP μ' → P r μ' := fun g => hP r μ' g (fun c j a b => o c j (by omega) (by omega) (by omega)) (o 179 0 (by omega) (by omega) (by omega)) (r1 1) t
  rcases R with R | ⟨e3, e4, e5, e9, e15, w⟩
  · have e3 := R 3 (by omega)
    have e4 := R 4 (by omega)
    have e5 := R 5 (by omega)
    refine fin ⟨by rw [t]; decide, by rw [e3, e4]; exact h2, fun q => ?_, low (R 9 (by omega)), imp (R 15 (by omega)), by rw [r1]; exact h6, by rw [r1]; exact h7, by rw [r1]; exact h8, by rw [r1]; exact h9, bk, sn, bg⟩
    rw [e5] at q
    obtain ⟨Γ, N, dn, t⟩ := h3 q
    rw [e3]
    exact ⟨Γ, N, dn, t.frame fun c j a b => o c j (by omega) (by omega) (by omega)⟩
  · exact fin ⟨by rw [t]; decide, by rw [e3, e4]; exact ⟨h2.2.1, h2.1, Ne.symm a34⟩, fun _ => by rw [e3]; exact w, fun q => absurd e9 q, fun q => absurd e15 q, by rw [r1]; exact h6, by rw [r1]; exact h7, by rw [r1]; exact h8, by rw [r1]; exact h9, bk, sn, bg⟩
theorem w_lower (h : gP μ) (hP : ∀ r μ', gPp μ μ' → P r μ') : jw_ X mL_lower (d + 20) [(2, 0), (2, 179)] μ P := by
  by_cases q : μ 0 5 = 0
  · exact bw_lower_t (bT_mP_lower_0 rfl ⟨fun y => absurd q y, fun _ => ⟨rfl, hP 1 μ (.rf h)⟩⟩)
  · obtain ⟨Γ, N, dn, t⟩ := h.txt q
    have a3 : (μ 0 3 = 16 ∨ μ 0 3 = 26) := h.sc.1
    refine bw_lower_r (bk_mP_lower_0 rfl ⟨fun _ μ1 e1 μ2 e2 => ?_, fun y => absurd y q⟩)
    have g2 : ∀ c j, ¬ (c = 0 ∧ (j = 15 ∨ j = 12)) → μ2 c j = μ c j := fun c j y => by rw [e2, ab_mud, if_neg (by omega), e1, ab_mud, if_neg (by omega)]
    have v15 : μ2 0 15 = 0 := by rw [e2, ab_mud, if_neg (by decide), e1, ab_mud, if_pos ⟨rfl, rfl⟩]
    rw [g2 0 3 (by omega)]
    refine c_mMa_make h.sc.1 (t.frame fun c j a b => g2 c j (by omega)) (fun t a b => by rw [g2 37 t (by omega)]; exact h.bg t a b) fun r μ3 hr f3 bg3 kw => ⟨by omega, fun μ4 e4 => ?_⟩
    have g4 : ∀ c j, ¬ (36 ≤ c ∧ c ≤ 51) → ¬ (c = 0 ∧ (j = 15 ∨ j = 12 ∨ j = 9)) → μ4 c j = μ c j := fun c j y z => by rw [e4, ab_mud, if_neg (by omega), f3 c j y, g2 c j (by omega)]
    have g43 : ∀ c j, c ≠ 0 → μ4 c j = μ3 c j := fun c j y => by rw [e4, mu_ne y]
    have v9 : μ4 0 9 = r := by rw [e4, ab_mud, if_pos ⟨rfl, rfl⟩]
    have w15 : μ4 0 15 = 0 := by rw [e4, ab_mud, if_neg (by decide), f3 0 15 (by decide)]; exact v15
    have gg : ∀ μ5 : ab_m, (∀ c j, ¬ (57 ≤ c ∧ c ≤ 57 + 6) → μ5 c j = μ4 c j) → gPp μ μ5 := fun μ5 f5 => by
      have g5 : ∀ c j, ¬ (36 ≤ c ∧ c ≤ 51) → ¬ (57 ≤ c ∧ c ≤ 63) → ¬ (c = 0 ∧ (j = 15 ∨ j = 12 ∨ j = 9)) → μ5 c j = μ c j := fun c j y z x => by rw [f5 c j (by omega), g4 c j y x]
      refine ⟨⟨by rw [g5 0 1 (by omega) (by omega) (by omega)]; exact h.tp, by rw [g5 0 3 (by omega) (by omega) (by omega), g5 0 4 (by omega) (by omega) (by omega)]; exact h.sc, fun _ => ?_, fun y => ?_, fun y => ?_, by rw [g5 100 1 (by omega) (by omega) (by omega)]; exact h.inp, by rw [g5 100 3 (by omega) (by omega) (by omega)]; exact h.pr, by rw [g5 100 12 (by omega) (by omega) (by omega)]; exact h.top, by rw [g5 100 14 (by omega) (by omega) (by omega)]; exact h.cal, fun k a b => ?_, fun r a b => by rw [g5 108 r (by omega) (by omega) (by omega)]; exact h.sn r a b, fun t a b => by rw [f5 37 t (by omega), g43 37 t (by decide)]; exact bg3 t a b⟩, fun c j a b => g5 c j (by omega) (by omega) (by omega), g5 100 1 (by omega) (by omega) (by omega), g5 0 1 (by omega) (by omega) (by omega)⟩
      · rw [g5 0 3 (by omega) (by omega) (by omega)]
        exact ⟨Γ, N, dn, t.frame fun c j a b => g5 c j (by omega) (by omega) (by omega)⟩
      · rw [f5 0 9 (by decide), v9] at y
        exact (kw y).keep fun c j a b => by rw [f5 c j (by omega), g43 c j (by omega)]
      · rw [f5 0 15 (by decide)] at y
        exact absurd w15 y
      · rw [g5 100 14 (by omega) (by omega) (by omega)] at b
        rw [g5 106 k (by omega) (by omega) (by omega)]
        exact h.bk k a b
    refine ⟨fun y => c_mLi_find (Or.inl rfl) (Or.inl rfl) ?_ fun μ5 f5 => ⟨by decide, fun μ6 e6 => hP 0 μ6 ((gg μ5 f5).out e6)⟩, fun y => ⟨by decide, fun μ6 e6 => hP 0 μ6 ((gg μ4 fun _ _ _ => rfl).out e6)⟩⟩
    rw [v9] at y
    exact (kw y).keep fun c j a b => g43 c j (by omega)
theorem w_improve (h : gP μ) (hP : ∀ r μ', gPp μ μ' → P r μ') : jw_ X mL_improve (d + 20) [(2, 0), (2, 179)] μ P := by
  by_cases q : μ 0 9 = 0
  · exact bw_improve_t (bT_mP_improve_0 rfl ⟨fun y => absurd q y, fun _ => ⟨rfl, hP 1 μ (.rf h)⟩⟩)
  · refine bw_improve_r (bk_mP_improve_0 rfl ⟨fun _ => ⟨fun _ => ⟨by decide, fun μ1 e1 => hP 0 μ1 ((gPp.rf h).out e1)⟩, fun y μ1 e1 => ?_⟩, fun y => absurd y q⟩)
    have g1 : ∀ c j, ¬ (c = 0 ∧ j = 12) → μ1 c j = μ c j := fun c j y => by rw [e1, ab_mud, if_neg y]
    refine c_mIm_press ((h.low q).keep fun c j a b => g1 c j (by omega)) fun μ2 f2 k1 k2 μ3 e3 => ⟨by decide, fun μ4 e4 => hP 0 μ4 (gPp.out ?_ e4)⟩
    have g3 : ∀ c j, c ≠ 0 → μ3 c j = μ2 c j := fun c j y => by rw [e3, mu_ne y]
    have a3 : (μ 0 3 = 16 ∨ μ 0 3 = 26) := h.sc.1
    have g : ∀ c j, ¬ (64 ≤ c ∧ c ≤ 99) → ¬ (c = 0 ∧ (j = 12 ∨ j = 15)) → μ3 c j = μ c j := fun c j y z => by rw [e3, ab_mud, if_neg (by omega), f2 c j (by omega) (by omega) (by omega) (by omega), g1 c j (by omega)]
    refine ⟨⟨by rw [g 0 1 (by omega) (by omega)]; exact h.tp, by rw [g 0 3 (by omega) (by omega), g 0 4 (by omega) (by omega)]; exact h.sc, fun y => ?_, fun y => ?_, fun _ => ⟨k1.keep fun c j a b => g3 c j (by omega), k2.keep fun c j a b => g3 c j (by omega)⟩, by rw [g 100 1 (by omega) (by omega)]; exact h.inp, by rw [g 100 3 (by omega) (by omega)]; exact h.pr, by rw [g 100 12 (by omega) (by omega)]; exact h.top, by rw [g 100 14 (by omega) (by omega)]; exact h.cal, fun k a b => ?_, fun r a b => by rw [g 108 r (by omega) (by omega)]; exact h.sn r a b, fun t a b => by rw [g 37 t (by omega) (by omega)]; exact h.bg t a b⟩, fun c j a b => g c j (by omega) (by omega), g 100 1 (by omega) (by omega), g 0 1 (by omega) (by omega)⟩
    · rw [g 0 5 (by omega) (by omega)] at y
      obtain ⟨Γ, N, dn, t⟩ := h.txt y
      rw [g 0 3 (by omega) (by omega)]
      exact ⟨Γ, N, dn, t.frame fun c j a b => g c j (by omega) (by omega)⟩
    · exact (h.low q).keep fun c j a b => g c j (by omega) (by omega)
    · rw [g 100 14 (by omega) (by omega)] at b
      rw [g 106 k (by omega) (by omega)]
      exact h.bk k a b
theorem w_code {a b c : Int} (h : gP μ) (hP : ∀ r μ', gPp μ μ' → P r μ') : jw_ X mL_code (d + 20) [(2, 0), (0, a), (0, b), (0, c), (2, 179)] μ P := by
  have fin : ∀ (r : Int), ((0 : Int) ≤ 0 ∧ (0 : Int) < 1) ∧ ∀ μ4, μ4 = ab_mu μ 179 0 r → P 0 μ4 := fun r => ⟨by decide, fun μ4 e4 => hP 0 μ4 ((gPp.rf h).out e4)⟩
  have k0 := hP 1 μ (.rf h)
  have k2 := hP 2 μ (.rf h)
  have t70 : ∀ l : ab_l, l 0 = 0 → jT_mP_code X (d + 13 + 6) 70 l [] μ (fun ex => (ex = 2 ∧ P 1 μ) ∨ (ex = 1 ∧ P 2 μ)) := fun l l0 => bT_mP_code_70 l0 (Or.inl ⟨rfl, k0⟩)
  have t46 : ∀ (l : ab_l) (s : Int), l 0 = 0 → ab_is 1 s → ¬ (0 ≤ l 2 ∧ l 2 < μ s 5 ∧ 0 ≤ l 3 ∧ l 3 ≤ 4) → jT_mP_code X (d + 13 + 6) 46 l [(2, s)] μ (fun ex => (ex = 2 ∧ P 1 μ) ∨ (ex = 1 ∧ P 2 μ)) := fun l s l0 hs n => by
    have s0 := ab_is_nn hs
    exact bT_mP_code_46 l0 ⟨s0, fun _ => t70 _ l0, fun y1 => ⟨s0, hs, fun _ => t70 _ l0, fun y2 => ⟨fun _ => t70 _ l0, fun y3 => ⟨fun y4 => n ⟨y1, y2, y3, y4⟩, fun _ => t70 _ l0⟩⟩⟩⟩
  by_cases a0 : a = 0
  · by_cases q : μ 0 9 = 0
    · exact bw_code_t (bT_mP_code_0 rfl ⟨fun _ => ⟨fun y => absurd q y, fun _ => Or.inr ⟨rfl, k2⟩⟩, fun y => absurd a0 y⟩)
    · by_cases ok : 0 ≤ b ∧ b < μ 45 5 ∧ 0 ≤ c ∧ c ≤ 4
      · exact bw_code_r (c_mP_code (fun _ => ⟨q, ok.1, ok.2.1, (h.low q).n.2⟩) (fun y => absurd a0 y) ok.2.2 fin)
      · exact bw_code_t (bT_mP_code_0 rfl ⟨fun _ => ⟨fun _ => ⟨fun _ => t46 _ 45 rfl (Or.inl rfl) ok, fun y => absurd a0 y⟩, fun y => absurd y q⟩, fun y => absurd a0 y⟩)
  · by_cases q : μ 0 15 = 0
    · exact bw_code_t (bT_mP_code_0 rfl ⟨fun y => absurd y a0, fun _ => ⟨fun y => absurd q y, fun _ => Or.inr ⟨rfl, k2⟩⟩⟩)
    · by_cases ok : 0 ≤ b ∧ b < μ 88 5 ∧ 0 ≤ c ∧ c ≤ 4
      · exact bw_code_r (c_mP_code (fun y => absurd y a0) (fun _ => ⟨q, ok.1, ok.2.1, (h.imp q).1.n.2⟩) ok.2.2 fin)
      · exact bw_code_t (bT_mP_code_0 rfl ⟨fun y => absurd y a0, fun _ => ⟨fun _ => ⟨fun y => absurd y a0, fun _ => t46 _ 88 rfl (Or.inr rfl) ok⟩, fun y => absurd y q⟩⟩)
/-- what is known before an instruction: thrown, or found -/
theorem kb_t {a b : Int} {T : Nat → Prop} (h2 : T 2) (h1 : T 1) (n : ¬ (μ 0 9 ≠ 0 ∧ 0 ≤ a ∧ a < μ 45 5 ∧ 0 ≤ b ∧ b < μ 45 6)) : jT_mP_knownBefore X (d + 6) 0 (ab_la [0, a, b]) [] μ T := by
  have t47 : ∀ l : ab_l, l 0 = 0 → jT_mP_knownBefore X (d + 6) 47 l [] μ T := fun l l0 => bT_mP_knownBefore_47 l0 h2
  exact bT_mP_knownBefore_0 rfl ⟨fun y0 => ⟨fun _ => t47 _ rfl, fun y1 => ⟨fun _ => t47 _ rfl, fun y2 => ⟨fun _ => t47 _ rfl, fun y3 => ⟨fun y4 => n ⟨y0, y1, y2, y3, y4⟩, fun _ => t47 _ rfl⟩⟩⟩⟩, fun _ => h1⟩
theorem kb_r {a b : Int} (h : gP μ) (n : μ 0 9 ≠ 0 ∧ 0 ≤ a ∧ a < μ 45 5 ∧ 0 ≤ b ∧ b < μ 45 6) (hP : ∀ r μ', gPp μ μ' → P r μ') : jj_mP_knownBefore X (d + 5) 0 (ab_la [0, a, b]) [] μ P := by
  obtain ⟨n0, n1, n2, n3, n4⟩ := n
  have kw := h.low n0
  have rr := kw.r
  refine bk_mP_knownBefore_0 rfl ⟨fun _ => ⟨fun y => absurd n1 (by show ¬ 0 ≤ a; exact Int.not_le.mpr y), fun _ => ⟨fun y => absurd n2 (Int.not_lt.mpr y), fun _ => ⟨fun y => absurd n3 (Int.not_le.mpr y), fun _ => ⟨fun _ => ⟨fun _ => ?_, fun _ => ?_⟩, fun y => absurd n4 (Int.not_lt.mpr y)⟩⟩⟩⟩, fun y => absurd y n0⟩
  · exact c_mKn_before (Or.inl rfl) kw ⟨n1, n2⟩ ⟨n3, by show b < 300; omega⟩ fun r μ1 f1 => hP r μ1 (h.qt fun c j y z => f1 c j (by omega))
  · refine c_mKn_learn (Or.inl rfl) kw fun μ1 f1 μ2 e2 => ?_
    have g2 : ∀ c j, ¬ (64 ≤ c ∧ c ≤ 69) → ¬ (52 ≤ c ∧ c ≤ 56) → ¬ (c = 0 ∧ j = 12) → μ2 c j = μ c j := fun c j y z w => by rw [e2, ab_mud, if_neg w, f1 c j y (by omega)]
    refine c_mKn_before (Or.inl rfl) (kw.keep fun c j a b => g2 c j (by omega) (by omega) (by omega)) ⟨n1, by rw [g2 45 5 (by omega) (by omega) (by omega)]; exact n2⟩ ⟨n3, by show b < 300; omega⟩ fun r μ3 f3 => hP r μ3 (h.qt fun c j y z => by rw [f3 c j (by omega), g2 c j (by omega) (by omega) z])
theorem w_isKnown {a b : Int} (h : gP μ) (hP : ∀ r μ', gPp μ μ' → P r μ') : jw_ X mL_isKnown (d + 20) [(2, 0), (0, a), (0, b), (2, 179)] μ P := by
  by_cases n : μ 0 9 ≠ 0 ∧ 0 ≤ a ∧ a < μ 45 5 ∧ 0 ≤ b ∧ b < μ 45 6
  · exact bw_isKnown_r (bk_mP_isKnown_0 rfl (kb_r h n fun r μ1 g => ⟨fun _ => ⟨fun _ => ⟨by decide, fun μ2 e2 => hP 0 μ2 (g.out e2)⟩, fun y => absurd rfl y⟩, fun _ => ⟨fun y => absurd y (by decide), fun _ => ⟨by decide, fun μ2 e2 => hP 0 μ2 (g.out e2)⟩⟩⟩))
  · exact bw_isKnown_t (bT_mP_isKnown_0 rfl (kb_t (Or.inl ⟨rfl, hP 1 μ (.rf h)⟩) (Or.inr ⟨rfl, hP 2 μ (.rf h)⟩) n))
theorem w_known {a b : Int} (h : gP μ) (hP : ∀ r μ', gPp μ μ' → P r μ') : jw_ X mL_known (d + 20) [(2, 0), (0, a), (0, b), (2, 179)] μ P := by
  by_cases n : μ 0 9 ≠ 0 ∧ 0 ≤ a ∧ a < μ 45 5 ∧ 0 ≤ b ∧ b < μ 45 6
  · exact bw_known_r (bk_mP_known_0 rfl (kb_r h n fun r μ1 g => ⟨fun _ => ⟨by decide, fun μ2 e2 => hP 0 μ2 (g.out e2)⟩, fun _ => ⟨by decide, fun μ2 e2 => hP 0 μ2 (g.out e2)⟩⟩))
  · exact bw_known_t (bT_mP_known_0 rfl (kb_t (Or.inl ⟨rfl, hP 1 μ (.rf h)⟩) (Or.inr ⟨rfl, hP 2 μ (.rf h)⟩) n))
theorem w_isLive {a b c : Int} (h : gP μ) (hP : ∀ r μ', gPp μ μ' → P r μ') : jw_ X mL_isLive (d + 20) [(2, 0), (0, a), (0, b), (0, c), (2, 179)] μ P := by
  have k0 := hP 1 μ (.rf h)
  have k2 := hP 2 μ (.rf h)
  have t74 : ∀ l : ab_l, l 0 = 0 → jT_mP_isLive X (d + 13 + 6) 74 l [] μ (fun ex => (ex = 2 ∧ P 1 μ) ∨ (ex = 1 ∧ P 2 μ)) := fun l l0 => bT_mP_isLive_74 l0 (Or.inl ⟨rfl, k0⟩)
  have t46 : ∀ (l : ab_l) (s : Int), l 0 = 0 → ab_is 1 s → ¬ (0 ≤ l 2 ∧ l 2 < μ s 5 ∧ 0 ≤ l 3 ∧ l 3 < μ s 6) → jT_mP_isLive X (d + 13 + 6) 46 l [(2, s)] μ (fun ex => (ex = 2 ∧ P 1 μ) ∨ (ex = 1 ∧ P 2 μ)) := fun l s l0 hs n => by
    have s0 := ab_is_nn hs
    exact bT_mP_isLive_46 l0 ⟨s0, fun _ => t74 _ l0, fun y1 => ⟨s0, hs, fun _ => t74 _ l0, fun y2 => ⟨fun _ => t74 _ l0, fun y3 => ⟨s0, fun y4 => n ⟨y1, y2, y3, y4⟩, fun _ => t74 _ l0⟩⟩⟩⟩
  have fin : ∀ (r : Int), (r = 0 ∨ r = 1) → (0 ≤ r ∧ r ≤ 1) ∧ ((r = 0 → ((0 : Int) ≤ 0 ∧ (0 : Int) < 1) ∧ ∀ μ4, μ4 = ab_mu μ 179 0 0 → P 0 μ4) ∧ (r ≠ 0 → ((0 : Int) ≤ 0 ∧ (0 : Int) < 1) ∧ ∀ μ6, μ6 = ab_mu μ 179 0 1 → P 0 μ6)) := fun r hr => ⟨by omega, fun _ => ⟨by decide, fun μ4 e4 => hP 0 μ4 ((gPp.rf h).out e4)⟩, fun _ => ⟨by decide, fun μ4 e4 => hP 0 μ4 ((gPp.rf h).out e4)⟩⟩
  have r46 : ∀ (l : ab_l) (s : Int) (Q : Int → ab_m → Prop), l 0 = 0 → ab_is 1 s → kW μ s → (0 ≤ l 2 ∧ l 2 < μ s 5 ∧ 0 ≤ l 3 ∧ l 3 < μ s 6) → (∀ r, (r = 0 ∨ r = 1) → (0 ≤ r ∧ r ≤ 1) ∧ Q r μ) → jj_mP_isLive X (d + 19) 46 l [(2, s)] μ Q := fun l s Q l0 hs kw n hQ => by
    have s0 := ab_is_nn hs
    obtain ⟨n1, n2, n3, n4⟩ := n
    have r1 := kw.n
    have r2 := kw.r
    exact bk_mP_isLive_46 l0 ⟨s0, fun y => absurd n1 (Int.not_le.mpr y), fun _ => ⟨s0, hs, fun y => absurd n2 (Int.not_lt.mpr y), fun _ => ⟨fun y => absurd n3 (Int.not_le.mpr y), fun _ => ⟨s0, fun _ => ⟨fun _ => c_mLi_isBehind (Or.inl rfl) ⟨n1, by omega⟩ ⟨n3, by omega⟩ hQ, fun _ => c_mLi_isBehind (Or.inr rfl) ⟨n1, by omega⟩ ⟨n3, by omega⟩ hQ⟩, fun y => absurd n4 (Int.not_lt.mpr y)⟩⟩⟩⟩
  by_cases a0 : a = 0
  · by_cases q : μ 0 9 = 0
    · exact bw_isLive_t (bT_mP_isLive_0 rfl ⟨fun _ => ⟨fun y => absurd q y, fun _ => Or.inr ⟨rfl, k2⟩⟩, fun y => absurd a0 y⟩)
    · by_cases ok : 0 ≤ b ∧ b < μ 45 5 ∧ 0 ≤ c ∧ c < μ 45 6
      · exact bw_isLive_r (bk_mP_isLive_0 rfl ⟨fun _ => ⟨fun _ => ⟨fun _ => r46 _ 45 _ rfl (Or.inl rfl) (h.low q) ok fin, fun y => absurd a0 y⟩, fun y => absurd y q⟩, fun y => absurd a0 y⟩)
      · exact bw_isLive_t (bT_mP_isLive_0 rfl ⟨fun _ => ⟨fun _ => ⟨fun _ => t46 _ 45 rfl (Or.inl rfl) ok, fun y => absurd a0 y⟩, fun y => absurd y q⟩, fun y => absurd a0 y⟩)
  · by_cases q : μ 0 15 = 0
    · exact bw_isLive_t (bT_mP_isLive_0 rfl ⟨fun y => absurd y a0, fun _ => ⟨fun y => absurd q y, fun _ => Or.inr ⟨rfl, k2⟩⟩⟩)
    · by_cases ok : 0 ≤ b ∧ b < μ 88 5 ∧ 0 ≤ c ∧ c < μ 88 6
      · exact bw_isLive_r (bk_mP_isLive_0 rfl ⟨fun y => absurd y a0, fun _ => ⟨fun _ => ⟨fun y => absurd y a0, fun _ => r46 _ 88 _ rfl (Or.inr rfl) (h.imp q).1 ok fin⟩, fun y => absurd y q⟩⟩)
      · exact bw_isLive_t (bT_mP_isLive_0 rfl ⟨fun y => absurd y a0, fun _ => ⟨fun _ => ⟨fun y => absurd y a0, fun _ => t46 _ 88 rfl (Or.inr rfl) ok⟩, fun y => absurd y q⟩⟩)
theorem w_colour {a : Int} (h : gP μ) (hP : ∀ r μ', gPp μ μ' → P r μ') : jw_ X mL_colour (d + 20) [(2, 0), (0, a), (2, 179)] μ P := by
  by_cases q : μ 0 15 = 0
  · exact bw_colour_t (bT_mP_colour_0 rfl ⟨fun y => absurd q y, fun _ => Or.inr ⟨rfl, hP 2 μ (.rf h)⟩⟩)
  · by_cases ok : 0 ≤ a ∧ a < μ 88 6
    · exact bw_colour_r (c_mP_colour q ok.1 ok.2 (h.imp q).1.r.2 fun r => ⟨by decide, fun μ4 e4 => hP 0 μ4 ((gPp.rf h).out e4)⟩)
    · have k0 := hP 1 μ (.rf h)
      exact bw_colour_t (bT_mP_colour_0 rfl ⟨fun _ => ⟨fun _ => Or.inl ⟨rfl, k0⟩, fun y1 => ⟨fun y2 => ok ⟨y1, y2⟩, fun _ => Or.inl ⟨rfl, k0⟩⟩⟩, fun y => absurd y q⟩)
theorem w_printed {a : Int} (h : gP μ) (hP : ∀ r μ', gPp μ μ' → P r μ') : jw_ X mL_printed (d + 20) [(2, 0), (0, a), (2, 179)] μ P := by
  by_cases ok : 0 ≤ a ∧ a < μ 100 3
  · exact bw_printed_r (c_mP_printed ok.1 ok.2 h.pr.2 fun r => ⟨by decide, fun μ4 e4 => hP 0 μ4 ((gPp.rf h).out e4)⟩)
  · have k0 := hP 1 μ (.rf h)
    exact bw_printed_t (bT_mP_printed_0 rfl ⟨fun _ => ⟨rfl, k0⟩, fun y1 => ⟨fun y2 => ok ⟨y1, y2⟩, fun _ => ⟨rfl, k0⟩⟩⟩)
theorem w_told {a : Int} (h : gP μ) (hP : ∀ r μ', gPp μ μ' → P r μ') : jw_ X mL_told (d + 20) [(2, 0), (0, a), (2, 179)] μ P := by
  by_cases ok : 0 ≤ a ∧ a ≤ 7
  · exact bw_told_r (c_mP_told ok fun r => ⟨by decide, fun μ4 e4 => hP 0 μ4 ((gPp.rf h).out e4)⟩)
  · refine bw_told_t (bT_mP_told_0 rfl ?_)
    simp only [la1]
    exact ⟨⟨fun y => by omega, fun y => by omega, fun y => by omega, fun y => by omega, fun y => by omega, fun y => by omega, fun y => by omega, fun y => by omega, trivial⟩, fun _ => ⟨trivial, hP 1 μ (.rf h)⟩⟩
theorem w_run {a b : Int} (h : gP μ) (hP : ∀ r μ', gPp μ μ' → P r μ') : jw_ X mL_run (d + 20) [(2, 0), (0, a), (0, b), (2, 179)] μ P := by
  have k0 := hP 1 μ (.rf h)
  have k2 := hP 2 μ (.rf h)
  have t19 : ∀ l : ab_l, l 0 = 0 → jT_mP_run X (d + 13 + 6) 19 l [] μ (fun ex => (ex = 0 ∧ P 1 μ) ∨ (ex = 1 ∧ P 2 μ)) := fun l l0 => bT_mP_run_19 l0 (Or.inl ⟨rfl, k0⟩)
  have t65 : ∀ l : ab_l, l 0 = 0 → jT_mP_run X (d + 13 + 6) 65 l [] μ (fun ex => (ex = 0 ∧ P 1 μ) ∨ (ex = 1 ∧ P 2 μ)) := fun l l0 => bT_mP_run_65 l0 (Or.inr ⟨rfl, k2⟩)
  have t0 : ¬ ((0 ≤ a ∧ a ≤ 3 ∧ 0 ≤ b ∧ b ≤ 100000) ∧ ((a = 0 ∧ μ 0 5 ≠ 0) ∨ (a = 1 ∧ μ 0 9 ≠ 0) ∨ (a ≠ 0 ∧ a ≠ 1 ∧ μ 0 15 ≠ 0))) → jT_mP_run X (d + 13 + 6) 0 (ab_la [0, a, b]) [] μ (fun ex => (ex = 0 ∧ P 1 μ) ∨ (ex = 1 ∧ P 2 μ)) := fun n => by
    refine bT_mP_run_0 rfl ⟨fun _ => t19 _ rfl, fun y1 => ⟨fun _ => t19 _ rfl, fun y2 => ⟨fun _ => t19 _ rfl, fun y3 => ⟨fun y4 => ⟨fun y5 => ⟨fun y6 => ⟨fun y7 => n ⟨⟨y1, y2, y3, y4⟩, Or.inr (Or.inr ⟨y5, y6, y7⟩)⟩, fun _ => t65 _ rfl⟩, fun y6 => ⟨fun y7 => n ⟨⟨y1, y2, y3, y4⟩, Or.inr (Or.inl ⟨y6, y7⟩)⟩, fun _ => t65 _ rfl⟩⟩, fun y5 => ⟨fun y7 => n ⟨⟨y1, y2, y3, y4⟩, Or.inl ⟨y5, y7⟩⟩, fun _ => t65 _ rfl⟩⟩, fun _ => t19 _ rfl⟩⟩⟩⟩
  by_cases n : (0 ≤ a ∧ a ≤ 3 ∧ 0 ≤ b ∧ b ≤ 100000) ∧ ((a = 0 ∧ μ 0 5 ≠ 0) ∨ (a = 1 ∧ μ 0 9 ≠ 0) ∨ (a ≠ 0 ∧ a ≠ 1 ∧ μ 0 15 ≠ 0))
  · obtain ⟨⟨n1, n2, n3, n4⟩, n5⟩ := n
    have fin : ∀ r μ', nR μ μ' → ((0 : Int) ≤ 0 ∧ (0 : Int) < 1) ∧ ∀ μ4, μ4 = ab_mu μ' 179 0 r → P 0 μ4 := fun r μ1 k => ⟨by decide, fun μ4 e4 => hP 0 μ4 (gPp.out ?_ e4)⟩
    · have a3 : (μ 0 3 = 16 ∨ μ 0 3 = 26) := h.sc.1
      have id := fun (c : Int) => k0
      have sn : ∀ o : Int, kW μ o → kNu μ o 108 := fun o kw i i1 i2 => by
        have q := kw.i i i1 i2
        have rr := kw.r
        refine ⟨fun y => ?_, fun y => ?_, fun y => ?_⟩
        · have := q.a y
          rw [h.sn _ this.1 (by omega)]; omega
        · have := q.b y
          rw [h.sn _ this.1 (by omega)]; omega
        · have := q.d y
          rw [h.sn _ this.1 (by omega)]; omega
      have r75 : jj_mP_run X (d + 19) 75 (ab_la [0, a, b]) [] μ (fun r2 μ1 => ((0 : Int) ≤ 0 ∧ (0 : Int) < 1) ∧ ∀ μ4, μ4 = ab_mu μ1 179 0 r2 → P 0 μ4) := by
        refine bk_mP_run_75 rfl ⟨fun y0 => ⟨fun y3 => ⟨fun y1 => ?_, fun y1 => ?_⟩, fun y3 => ?_⟩, fun y0 => ?_⟩
        · have q : μ 0 15 ≠ 0 := by
            rcases n5 with w | w | w
            · exact absurd w.1 y0
            · exact absurd w.1 y1
            · exact w.2.2
          exact c_mRu_goCode (Or.inr rfl) aq_108 (by decide) (h.imp q).1 (sn 88 (h.imp q).1) ⟨n3, n4⟩ h.inp h.top h.cal h.bk fin
        · have q : μ 0 9 ≠ 0 := by
            rcases n5 with w | w | w
            · exact absurd w.1 y0
            · exact w.2
            · exact absurd y1 w.2.1
          exact c_mRu_goCode (Or.inl rfl) aq_108 (by decide) (h.low q) (sn 45 (h.low q)) ⟨n3, n4⟩ h.inp h.top h.cal h.bk fin
        · have y3' : a = 3 := y3
          have q : μ 0 15 ≠ 0 := by
            rcases n5 with w | w | w
            · exact absurd w.1 y0
            · omega
            · exact w.2.2
          exact c_mRu_goCode (Or.inr rfl) aq_87 (by decide) (h.imp q).1 (h.imp q).2 ⟨n3, n4⟩ h.inp h.top h.cal h.bk fin
        · have y0' : a = 0 := y0
          have q : μ 0 5 ≠ 0 := by
            rcases n5 with w | w | w
            · exact w.2
            · omega
            · exact absurd y0' w.1
          obtain ⟨Γ, N, dn, t⟩ := h.txt q
          exact c_mRu_goText h.sc.1 t.run ⟨n3, n4⟩ h.inp h.top h.cal h.bk fin
      refine bw_run_r (bk_mP_run_0 rfl ⟨fun y => absurd n1 (Int.not_le.mpr y), fun _ => ⟨fun y => absurd n2 (Int.not_le.mpr y), fun _ => ⟨fun y => absurd n3 (Int.not_le.mpr y), fun _ => ⟨fun _ => ⟨fun y5 => ⟨fun y6 => ⟨fun _ => r75, fun y7 => ?_⟩, fun y6 => ⟨fun _ => r75, fun y7 => ?_⟩⟩, fun y5 => ⟨fun _ => r75, fun y7 => ?_⟩⟩, fun y => absurd n4 (Int.not_le.mpr y)⟩⟩⟩⟩)
      · rcases n5 with w | w | w
        · exact absurd w.1 y5
        · exact absurd w.1 y6
        · exact absurd y7 w.2.2
      · have y6' : a = 1 := y6
        rcases n5 with w | w | w
        · exact absurd w.1 y5
        · exact absurd y7 w.2
        · exact absurd y6' w.2.1
      · have y5' : a = 0 := y5
        rcases n5 with w | w | w
        · exact absurd y7 w.2
        · omega
        · exact absurd y5' w.1
    · have g : ∀ c j, ¬ (102 ≤ c ∧ c ≤ 107) → ¬ (c = 100 ∧ ((3 ≤ j ∧ j ≤ 8) ∨ j = 12 ∨ j = 14)) → μ1 c j = μ c j := k.fr
      have a3 : (μ 0 3 = 16 ∨ μ 0 3 = 26) := h.sc.1
      refine ⟨⟨by rw [g 0 1 (by omega) (by omega)]; exact h.tp, by rw [g 0 3 (by omega) (by omega), g 0 4 (by omega) (by omega)]; exact h.sc, fun y => ?_, fun y => ?_, fun y => ?_, by rw [g 100 1 (by omega) (by omega)]; exact h.inp, k.pr, k.top, k.cal, k.bk, fun r a b => by rw [g 108 r (by omega) (by omega)]; exact h.sn r a b, fun t a b => by rw [g 37 t (by omega) (by omega)]; exact h.bg t a b⟩, fun c j a b => g c j (by omega) (by omega), g 100 1 (by omega) (by omega), g 0 1 (by omega) (by omega)⟩
      · rw [g 0 5 (by omega) (by omega)] at y
        obtain ⟨Γ, N, dn, t⟩ := h.txt y
        rw [g 0 3 (by omega) (by omega)]
        exact ⟨Γ, N, dn, t.frame fun c j a b => g c j (by omega) (by omega)⟩
      · rw [g 0 9 (by omega) (by omega)] at y
        exact (h.low y).keep fun c j a b => g c j (by omega) (by omega)
      · rw [g 0 15 (by omega) (by omega)] at y
        exact ⟨(h.imp y).1.keep fun c j a b => g c j (by omega) (by omega), (h.imp y).2.keep fun c j a b => g c j (by omega) (by omega)⟩
  · exact bw_run_t (t0 n)
theorem w_input {a : Int} (h : gP μ) (h1 : μ 100 1 = 200 → P 1 μ) (h0 : μ 100 1 < 200 → ∀ μ', gP μ' → gQ μ μ' → μ' 100 1 = μ 100 1 + 1 → μ' 0 1 = μ 0 1 → μ' 179 0 = μ 100 1 + 1 → P 0 μ') : jw_ X mL_input (d + 20) [(2, 0), (0, a), (2, 179)] μ P := by
  have hi := h.inp
  by_cases q : μ 100 1 < 200
  · refine bw_input_r (c_mP_input hi.1 q fun μ1 f e => ⟨by decide, fun μ2 e2 => ?_⟩)
    have g : ∀ c j, c ≠ 101 → ¬ (c = 100 ∧ j = 1) → c ≠ 179 → μ2 c j = μ c j := fun c j y z w => by rw [e2, mu_ne w, f c j y z]
    have v1 : μ2 100 1 = μ 100 1 + 1 := by rw [e2, mu_ne (by decide)]; exact e
    have a3 : (μ 0 3 = 16 ∨ μ 0 3 = 26) := h.sc.1
    refine h0 q μ2 ⟨by rw [g 0 1 (by omega) (by omega) (by omega)]; exact h.tp, by rw [g 0 3 (by omega) (by omega) (by omega), g 0 4 (by omega) (by omega) (by omega)]; exact h.sc, fun y => ?_, fun y => ?_, fun y => ?_, by omega, by rw [g 100 3 (by omega) (by omega) (by omega)]; exact h.pr, by rw [g 100 12 (by omega) (by omega) (by omega)]; exact h.top, by rw [g 100 14 (by omega) (by omega) (by omega)]; exact h.cal, fun k a b => ?_, fun r a b => by rw [g 108 r (by omega) (by omega) (by omega)]; exact h.sn r a b, fun t a b => by rw [g 37 t (by omega) (by omega) (by omega)]; exact h.bg t a b⟩ (fun c j a b => g c j (by omega) (by omega) b) v1 (g 0 1 (by omega) (by omega) (by omega)) (by rw [e2, ab_mud, if_pos ⟨rfl, rfl⟩])
    · rw [g 0 5 (by omega) (by omega) (by omega)] at y
      obtain ⟨Γ, N, dn, t⟩ := h.txt y
      rw [g 0 3 (by omega) (by omega) (by omega)]
      exact ⟨Γ, N, dn, t.frame fun c j a b => g c j (by omega) (by omega) (by omega)⟩
    · rw [g 0 9 (by omega) (by omega) (by omega)] at y
      exact (h.low y).keep fun c j a b => g c j (by omega) (by omega) (by omega)
    · rw [g 0 15 (by omega) (by omega) (by omega)] at y
      exact ⟨(h.imp y).1.keep fun c j a b => g c j (by omega) (by omega) (by omega), (h.imp y).2.keep fun c j a b => g c j (by omega) (by omega) (by omega)⟩
    · rw [g 100 14 (by omega) (by omega) (by omega)] at b
      rw [g 106 k (by omega) (by omega) (by omega)]
      exact h.bk k a b
  · exact bw_input_t (bT_mP_input_0 rfl ⟨fun y => absurd y q, fun _ => ⟨rfl, h1 (by omega)⟩⟩)
end L1

/-! THE LAW, part l2: feed; both sides together -/
section L2
variable {X : jm_X} {d : Nat} {P : Int → ab_m → Prop} {μ μ' : ab_m}
def pdOk (row n : Int) : Prop := (1 ≤ n ∧ n ≤ 8) ∧ ∀ k, 0 ≤ k → k < n → fdF (pdB row k)
theorem w_feed {row n : Int} (h : gP μ) (hB : ¬ pdOk row n → P 1 μ) (hS : pdOk row n → 3000 < μ 0 1 + n → P 2 μ) (h0 : pdOk row n → μ 0 1 + n ≤ 3000 → ∀ μ', gP μ' → gQ μ μ' → μ' 100 1 = μ 100 1 → μ' 0 1 = μ 0 1 + n → μ' 179 0 = μ 0 1 + n → P 0 μ') : jw_ X mL_feed (d + 20) [(2, 0), (1, row), (0, n), (2, 179)] μ P := by
  have tp := h.tp
  by_cases ok : pdOk row n
  · by_cases sz : μ 0 1 + n ≤ 3000
    · have n18 := ok.1
      refine bw_feed_r (c_mP_feed rfl rfl rfl rfl tp.1 n18 ok.2 sz fun μ1 f e => ⟨by decide, fun μ2 e2 => ?_⟩)
      have g : ∀ c j, c ≠ 1 → ¬ (c = 0 ∧ j = 1) → c ≠ 179 → μ2 c j = μ c j := fun c j y z w => by rw [e2, mu_ne w, f c j y z]
      have v1 : μ2 0 1 = μ 0 1 + n := by rw [e2, mu_ne (by decide)]; exact e
      have a3 : (μ 0 3 = 16 ∨ μ 0 3 = 26) := h.sc.1
      refine h0 ok sz μ2 ⟨by omega, by rw [g 0 3 (by omega) (by omega) (by omega), g 0 4 (by omega) (by omega) (by omega)]; exact h.sc, fun y => ?_, fun y => ?_, fun y => ?_, by rw [g 100 1 (by omega) (by omega) (by omega)]; exact h.inp, by rw [g 100 3 (by omega) (by omega) (by omega)]; exact h.pr, by rw [g 100 12 (by omega) (by omega) (by omega)]; exact h.top, by rw [g 100 14 (by omega) (by omega) (by omega)]; exact h.cal, fun k a b => ?_, fun r a b => by rw [g 108 r (by omega) (by omega) (by omega)]; exact h.sn r a b, fun t a b => by rw [g 37 t (by omega) (by omega) (by omega)]; exact h.bg t a b⟩ (fun c j a b => g c j (by omega) (by omega) b) (g 100 1 (by omega) (by omega) (by omega)) v1 (by rw [e2, ab_mud, if_pos ⟨rfl, rfl⟩]; rfl)
      · rw [g 0 5 (by omega) (by omega) (by omega)] at y
        obtain ⟨Γ, N, dn, t⟩ := h.txt y
        rw [g 0 3 (by omega) (by omega) (by omega)]
        exact ⟨Γ, N, dn, t.frame fun c j a b => g c j (by omega) (by omega) (by omega)⟩
      · rw [g 0 9 (by omega) (by omega) (by omega)] at y
        exact (h.low y).keep fun c j a b => g c j (by omega) (by omega) (by omega)
      · rw [g 0 15 (by omega) (by omega) (by omega)] at y
        exact ⟨(h.imp y).1.keep fun c j a b => g c j (by omega) (by omega) (by omega), (h.imp y).2.keep fun c j a b => g c j (by omega) (by omega) (by omega)⟩
      · rw [g 100 14 (by omega) (by omega) (by omega)] at b
        rw [g 106 k (by omega) (by omega) (by omega)]
        exact h.bk k a b
    · have p2 := hS ok (by omega)
      have n18 := ok.1
      have t24 : ∀ (m : Nat) (l : ab_l) (k : Int), l 0 = 0 → l 1 = row → l 3 = n → l 4 = k → 0 ≤ k → k ≤ n → (n - k).toNat = m → jT_mP_feed X (d + 13 + 6) 24 l [] μ (fun ex => (ex = 0 ∧ P 1 μ) ∨ (ex = 1 ∧ P 2 μ)) := by
        intro m
        induction m with
        | zero =>
          intro l k l0 l1 l3 l4 a b e
          refine bT_mP_feed_24 l0 ?_
          rw [l1, l3, l4, show ab_w (μ 0 1 + n) = μ 0 1 + n from ab_wi (by omega) (by omega)]
          exact ⟨fun _ => ⟨fun y => by omega, fun _ => Or.inr ⟨rfl, p2⟩⟩, fun y => by omega⟩
        | succ m ih =>
          intro l k l0 l1 l3 l4 a b e
          have fk := ok.2 k a (by omega)
          refine bT_mP_feed_24 l0 ?_
          rw [l1, l3, l4, show ab_w (8 * k) = 8 * k from ab_wi (by omega) (by omega), show ab_w (k + 1) = k + 1 from ab_wi (by omega) (by omega)]
          have go : ∀ x, jT_mP_feed X (d + 13 + 6) 24 (ab_up (ab_up l 5 x) 4 (k + 1)) [] μ (fun ex => (ex = 0 ∧ P 1 μ) ∨ (ex = 1 ∧ P 2 μ)) := fun x => ih _ (k + 1) l0 l1 l3 rfl (by omega) (by omega) (by omega)
          have fk' : pdB row k = 10 ∨ (32 ≤ pdB row k ∧ pdB row k ≤ 126) := fk
          unfold pdB at fk'
          exact ⟨fun y => by omega, fun _ => ⟨fun _ => go _, fun y1 => ⟨fun y => by omega, fun _ => ⟨fun _ => go _, fun y => by omega⟩⟩⟩⟩
      exact bw_feed_t (bT_mP_feed_0 rfl ⟨fun y => absurd n18.1 (Int.not_le.mpr y), fun _ => ⟨fun _ => t24 _ _ 0 rfl rfl rfl rfl (Int.le_refl _) (by omega) rfl, fun y => absurd n18.2 (Int.not_le.mpr y)⟩⟩)
  · have p1 := hB ok
    have t24 : ∀ (m : Nat) (l : ab_l) (k : Int), l 0 = 0 → l 1 = row → l 3 = n → l 4 = k → 1 ≤ n → n ≤ 8 → 0 ≤ k → k ≤ n → (∀ j, 0 ≤ j → j < k → fdF (pdB row j)) → (n - k).toNat = m → jT_mP_feed X (d + 13 + 6) 24 l [] μ (fun ex => (ex = 0 ∧ P 1 μ) ∨ (ex = 1 ∧ P 2 μ)) := by
      intro m
      induction m with
      | zero =>
        intro l k l0 l1 l3 l4 n1 n8 a b hf e
        exact absurd ⟨⟨n1, n8⟩, fun j x y => hf j x (by omega)⟩ ok
      | succ m ih =>
        intro l k l0 l1 l3 l4 n1 n8 a b hf e
        refine bT_mP_feed_24 l0 ?_
        rw [l1, l3, l4, show ab_w (8 * k) = 8 * k from ab_wi (by omega) (by omega), show ab_w (k + 1) = k + 1 from ab_wi (by omega) (by omega)]
        have go : ∀ x, fdF (pdB row k) → jT_mP_feed X (d + 13 + 6) 24 (ab_up (ab_up l 5 x) 4 (k + 1)) [] μ (fun ex => (ex = 0 ∧ P 1 μ) ∨ (ex = 1 ∧ P 2 μ)) := fun x fk => ih _ (k + 1) l0 l1 l3 rfl n1 n8 (by omega) (by omega) (fun j x y => by
          by_cases q : j = k
          · rw [q]; exact fk
          · exact hf j x (by omega)) (by omega)
        exact ⟨fun y => by omega, fun _ => ⟨fun y => go _ (Or.inl y), fun _ => ⟨fun _ => Or.inl ⟨rfl, p1⟩, fun y1 => ⟨fun y2 => go _ (Or.inr ⟨y1, y2⟩), fun _ => Or.inl ⟨rfl, p1⟩⟩⟩⟩⟩
    exact bw_feed_t (bT_mP_feed_0 rfl ⟨fun _ => Or.inl ⟨rfl, p1⟩, fun n1 => ⟨fun n8 => t24 _ _ 0 rfl rfl rfl rfl n1 n8 (Int.le_refl _) (Int.le_trans (by decide) n1) (fun j x y => by omega) rfl, fun _ => Or.inl ⟨rfl, p1⟩⟩⟩)
theorem gR.gq (h : gR μ) (f : gQ μ μ') : gR μ' := ⟨h.c.same (fun j _ => f 109 j (by decide) (by decide)) (fun c j q => f c j (by omega) (by omega)), by rw [f 109 2 (by decide) (by decide)]; exact h.tp, by rw [f 109 53 (by decide) (by decide)]; exact h.inp, by rw [f 109 56 (by decide) (by decide)]; exact h.pr⟩
theorem gP.go (h : gP μ) (f : gOf μ μ') : gP μ' := h.same (fun c j q => by unfold gZ at q; exact f c j (by omega)) (fun c j q => by unfold gY at q; exact f c j (by omega))
end L2
/-- what stands between two calls of the law -/
def gI (μ : ab_m) : Prop := (gP μ) ∧ (gR μ) ∧ (μ 100 1 = μ 109 53)
theorem gI.p {μ : ab_m} (h'' : gI μ) : gP μ := h''.1
theorem gI.r {μ : ab_m} (h'' : gI μ) : gR μ := h''.2.1
theorem gI.i {μ : ab_m} (h'' : gI μ) : μ 100 1 = μ 109 53 := h''.2.2
section L2
variable {X : jm_X} {d : Nat} {P : Int → ab_m → Prop} {μ μ' : ab_m}
theorem gI.kk {μ1 : ab_m} (h : gI μ) (a : gPp μ μ1) (b : gKp μ1 μ') : gI μ' := ⟨a.p.go b.o, b.r, by rw [b.o 100 1 (by omega), a.i, b.i, a.q 109 53 (by decide) (by decide)]; exact h.i⟩
theorem s_lower {K : Int → Int → ab_m → Prop} (h : gI μ) (hK : ∀ r s μ', gI μ' → K r s μ') : jw_ X mL_lower (d + 100) [(2, 0), (2, 179)] μ (fun r μ1 => jj_mM_lower X (d + 100) 0 (ab_la [109]) [] μ1 (K r)) := w_lower h.p fun r μ1 a => g_lower (h.r.gq a.q) fun s μ2 b => hK r s μ2 (h.kk a b)
theorem s_improve {K : Int → Int → ab_m → Prop} (h : gI μ) (hK : ∀ r s μ', gI μ' → K r s μ') : jw_ X mL_improve (d + 100) [(2, 0), (2, 179)] μ (fun r μ1 => jj_mM_improve X (d + 100) 0 (ab_la [109]) [] μ1 (K r)) := w_improve h.p fun r μ1 a => g_improve (h.r.gq a.q) fun s μ2 b => hK r s μ2 (h.kk a b)
theorem s_place {K : Int → Int → ab_m → Prop} (h : gI μ) (hK : ∀ r s μ', gI μ' → K r s μ') : jj_mP_place X (d + 100) 0 (ab_la [0]) [] μ (fun r μ1 => jj_mM_place X (d + 100) 0 (ab_la [109]) [] μ1 (K r)) := p_place h.p fun r μ1 a => g_place (h.r.gq a.q) fun s μ2 b => hK r s μ2 (h.kk a b)
theorem s_read {K : Int → Int → ab_m → Prop} (h : gI μ) (hK : ∀ r s μ', gI μ' → μ' 0 1 = 0 → μ' 109 2 = 0 → K r s μ') : jj_mP_read X (d + 100) 0 (ab_la [0]) [] μ (fun r μ1 => jj_mM_read X (d + 100) 0 (ab_la [109]) [] μ1 (K r)) := p_read h.p fun r μ1 a1 a2 _ a4 a5 => g_read (h.r.gq a2) fun s μ2 b1 b2 b3 b4 => hK r s μ2 ⟨a1.go b2, b1, by rw [b2 100 1 (by omega), a4, b3, a2 109 53 (by decide) (by decide)]; exact h.i⟩ (by rw [b2 0 1 (by omega)]; exact a5) b4
theorem s_clear {K : Int → Int → ab_m → Prop} (h : gI μ) (hK : ∀ μ', gI μ' → μ' 0 1 = μ 0 1 → μ' 109 2 = μ 109 2 → K (μ 100 1) (μ 109 53) μ') : jj_mP_clear X (d + 100) 0 (ab_la [0]) [] μ (fun r μ1 => jj_mM_clear X (d + 100) 0 (ab_la [109]) [] μ1 (K r)) := p_clear h.p fun μ1 a1 a2 _ a4 a5 => g_clear (h.r.gq a2) fun μ2 b1 b2 b3 b4 => by
  rw [a2 109 53 (by decide) (by decide)]
  exact hK μ2 ⟨a1.go b2, b1, by rw [b2 100 1 (by omega), a4, b3]⟩ (by rw [b2 0 1 (by omega)]; exact a5) (by rw [b4, a2 109 2 (by decide) (by decide)])
theorem s_known {K : Int → Int → ab_m → Prop} {a b : Int} (h : gI μ) (hK : ∀ r s μ', gI μ' → K r s μ') (r : Int) (μ1 : ab_m) (g : gPp μ μ1) : jj_mM_known X (d + 100) 0 (ab_la [109, a, b]) [] μ1 (K r) := g_known (h.r.gq g.q) fun s μ2 b => hK r s μ2 (h.kk g b)
theorem s_isKnown {K : Int → Int → ab_m → Prop} {a b : Int} (h : gI μ) (hK : ∀ r s μ', gI μ' → K r s μ') (r : Int) (μ1 : ab_m) (g : gPp μ μ1) : jj_mM_isKnown X (d + 100) 0 (ab_la [109, a, b]) [] μ1 (K r) := g_isKnown (h.r.gq g.q) fun s μ2 b => hK r s μ2 (h.kk g b)
theorem s_code {K : Int → Int → ab_m → Prop} {a b c : Int} (h : gI μ) (hK : ∀ r s μ', gI μ' → K r s μ') (r : Int) (μ1 : ab_m) (g : gPp μ μ1) : jj_mM_code X (d + 100) 0 (ab_la [109, a, b, c]) [] μ1 (K r) := g_code (h.r.gq g.q) fun s μ2 b => hK r s μ2 (h.kk g b)
theorem s_isLive {K : Int → Int → ab_m → Prop} {a b c : Int} (h : gI μ) (hK : ∀ r s μ', gI μ' → K r s μ') (r : Int) (μ1 : ab_m) (g : gPp μ μ1) : jj_mM_isLive X (d + 100) 0 (ab_la [109, a, b, c]) [] μ1 (K r) := g_isLive (h.r.gq g.q) fun s μ2 b => hK r s μ2 (h.kk g b)
theorem s_colour {K : Int → Int → ab_m → Prop} {a : Int} (h : gI μ) (hK : ∀ r s μ', gI μ' → K r s μ') (r : Int) (μ1 : ab_m) (g : gPp μ μ1) : jj_mM_colour X (d + 100) 0 (ab_la [109, a]) [] μ1 (K r) := g_colour (h.r.gq g.q) fun s μ2 b => hK r s μ2 (h.kk g b)
theorem s_printed {K : Int → Int → ab_m → Prop} {a : Int} (h : gI μ) (hK : ∀ r s μ', gI μ' → K r s μ') (r : Int) (μ1 : ab_m) (g : gPp μ μ1) : jj_mM_printed X (d + 100) 0 (ab_la [109, a]) [] μ1 (K r) := g_printed (h.r.gq g.q) fun s μ2 b => hK r s μ2 (h.kk g b)
theorem s_told {K : Int → Int → ab_m → Prop} {a : Int} (h : gI μ) (hK : ∀ r s μ', gI μ' → K r s μ') (r : Int) (μ1 : ab_m) (g : gPp μ μ1) : jj_mM_told X (d + 100) 0 (ab_la [109, a]) [] μ1 (K r) := g_told (h.r.gq g.q) fun s μ2 b => hK r s μ2 (h.kk g b)
theorem s_run {K : Int → Int → ab_m → Prop} {a b : Int} (h : gI μ) (hK : ∀ r s μ', gI μ' → K r s μ') (r : Int) (μ1 : ab_m) (g : gPp μ μ1) : jj_mM_run X (d + 100) 0 (ab_la [109, a, b]) [] μ1 (K r) := g_run (h.r.gq g.q) fun s μ2 b => hK r s μ2 (h.kk g b)
/-- the reference is fed -/
theorem s_feed {K : Int → Int → ab_m → Prop} {row n : Int} (h : gI μ) (hK : ∀ r s μ', gI μ' → K r s μ') (r : Int) (μ1 : ab_m) (g : gP μ1) (q : gQ μ μ1) (i : μ1 100 1 = μ 100 1) : jj_mM_feed X (d + 100) 0 (ab_la [109, row, 0, n]) [] μ1 (K r) := by
  have e : ∀ μ2, gP μ2 → gR μ2 → μ2 100 1 = μ1 100 1 → μ2 109 53 = μ1 109 53 → gI μ2 := fun μ2 p r e1 e2 => ⟨p, r, by rw [e1, i, e2, q 109 53 (by decide) (by decide)]; exact h.i⟩
  exact g_feed (h.r.gq q) (fun _ μ2 b _ => hK r _ μ2 (e μ2 (g.go b.o) b.r (b.o 100 1 (by omega)) b.i)) (fun _ _ μ2 b _ => hK r _ μ2 (e μ2 (g.go b.o) b.r (b.o 100 1 (by omega)) b.i)) fun _ _ μ2 b1 b2 _ b4 _ => hK r _ μ2 (e μ2 (g.go b2) b1 (b2 100 1 (by omega)) b4)
theorem w_feed' {row n : Int} (h : gP μ) (hP : ∀ r μ', gP μ' → gQ μ μ' → μ' 100 1 = μ 100 1 → P r μ') : jw_ X mL_feed (d + 20) [(2, 0), (1, row), (0, n), (2, 179)] μ P := w_feed h (fun _ => hP 1 μ h (fun _ _ _ _ => rfl) rfl) (fun _ _ => hP 2 μ h (fun _ _ _ _ => rfl) rfl) fun _ _ μ' a b c _ _ => hP 0 μ' a b c
end L2

/-! THE LAW, part l6: input where nobody compares it -/
section L6
variable {X : jm_X} {d : Nat} {P : Int → ab_m → Prop} {μ μ' : ab_m}
theorem s_input0 {K : Int → Int → ab_m → Prop} {a : Int} (h : gI μ) (hK : ∀ r s μ', gI μ' → μ' 0 1 = μ 0 1 → μ' 109 2 = μ 109 2 → K r s μ') : jw_ X mL_input (d + 100) [(2, 0), (0, a), (2, 179)] μ (fun r μ1 => jj_mM_input X (d + 100) 0 (ab_la [109, a]) [] μ1 (K r)) := by
  have hi := h.i
  refine w_input h.p (fun e => ?_) fun e μ1 a1 a2 a3 a4 a5 => ?_
  · exact g_input h.r (fun _ μ2 b b0 => hK 1 _ μ2 (h.kk (.rf h.p) b) (b.o 0 1 (by omega)) b.t) fun y => by omega
  · have e53 := a2 109 53 (by decide) (by decide)
    refine g_input (h.r.gq a2) (fun y => by omega) fun y μ2 b1 b2 b3 b4 b5 => hK 0 _ μ2 ⟨a1.go b2, b1, by rw [b2 100 1 (by omega), a3, b4]; omega⟩ (by rw [b2 0 1 (by omega)]; exact a4) (by rw [b5, a2 109 2 (by decide) (by decide)])
end L6

/-! THE LAW, part l3: its loop -/
section L3
variable {X : jm_X} {d : Nat} {μ : ab_m}
set_option maxHeartbeats 1000000 in
theorem law_loop (hX : X.1 ≤ 2048) : ∀ (m : Nat) (l : ab_l) (μ : ab_m) (i : Int), l 0 = 1000000 → l 1 = 0 → l 2 = 109 → l 3 = 179 → l 4 = i → 0 ≤ i → i ≤ 4096 → (X.1 : Int) - i < 4 * ((m : Int) + 1) → gI μ → jL_ X (d + 100 + 1) (m + 1) l μ := by
  intro m
  induction m with
  | zero =>
    intro l μ i l0 l1 l2 l3 l4 i0 i4 hm h
    refine bL_ hX l0 l1 l2 l3 ?_
    rw [l4, show ab_w ((X.1 : Int) - 4) = (X.1 : Int) - 4 from ab_wi (by omega) (by omega)]
    exact ⟨fun _ => trivial, fun y => by simp at hm; omega⟩
  | succ m ih =>
    intro l μ i l0 l1 l2 l3 l4 i0 i4 hm h
    have hm' : (X.1 : Int) - i < 4 * ((m : Int) + 1 + 1) := hm
    refine bL_ hX l0 l1 l2 l3 ?_
    have w1 : ab_w (i + 1) = i + 1 := ab_wi (by omega) (by omega)
    have w2 : ab_w (i + 2) = i + 2 := ab_wi (by omega) (by omega)
    have w3 : ab_w (i + 3) = i + 3 := ab_wi (by omega) (by omega)
    have w4 : ab_w (i + 4) = i + 4 := ab_wi (by omega) (by omega)
    have wX : ab_w ((X.1 : Int) - 4) = (X.1 : Int) - 4 := ab_wi (by omega) (by omega)
    simp only [l4, w1, w2, w3, w4, wX]
    refine ⟨fun _ => trivial, fun y => ?_⟩
    have g0 : 0 ≤ i ∧ i < (X.1 : Int) := by omega
    have g1 : 0 ≤ i + 1 ∧ i + 1 < (X.1 : Int) := by omega
    have g2 : 0 ≤ i + 2 ∧ i + 2 < (X.1 : Int) := by omega
    have g3 : 0 ≤ i + 3 ∧ i + 3 < (X.1 : Int) := by omega
    have go1 : ∀ μ', gI μ' → jL_ X (d + 100 + 1) (m + 1) (ab_up l 4 (i + 4)) μ' := fun μ' h' => ih _ μ' (i + 4) l0 l1 l2 l3 rfl (by omega) (by omega) (by omega) h'
    have go : ∀ r s μ', gI μ' → jL_ X (d + 100 + 1) (m + 1) (ab_up (ab_up (ab_up l 5 r) 6 s) 4 (i + 4)) μ' := fun r s μ' h' => ih _ μ' (i + 4) l0 l1 l2 l3 rfl (by omega) (by omega) (by omega) h'
    refine ⟨g0, ⟨fun _ => ⟨g1, g2, g3, ?_⟩, fun _ => ?_, fun _ => ?_, fun _ => ?_, fun _ => ?_, fun _ => ⟨g1, fun _ => ⟨g2, g3, ?_⟩, fun _ => ⟨g2, g3, ?_⟩⟩, fun _ => ⟨g1, g2, ?_⟩, fun _ => ⟨g1, g2, ?_⟩, fun _ => ⟨g1, fun _ => ⟨g2, g3, ?_⟩, fun _ => ⟨g2, g3, ?_⟩⟩, fun _ => ⟨g1, ?_⟩, fun _ => ⟨g1, ?_⟩, fun _ => ?_, fun _ => ⟨g1, g2, ?_⟩, fun _ => ⟨g1, ?_⟩, fun _ => ⟨g1, ?_⟩, trivial⟩, fun _ => go1 μ h⟩
    · exact w_feed' h.p fun r μ1 a b c => ⟨g1, g2, g3, s_feed h go r μ1 a b c⟩
    · exact s_read (K := fun _ _ μ' => jL_ X (d + 100 + 1) (m + 1) (ab_up l 4 (i + 4)) μ') h fun _ _ μ' h' _ _ => go1 μ' h'
    · exact s_place (K := fun _ _ μ' => jL_ X (d + 100 + 1) (m + 1) (ab_up l 4 (i + 4)) μ') h fun _ _ μ' h' => go1 μ' h'
    · exact s_lower h go
    · exact s_improve h go
    · exact w_code h.p fun r μ1 a => ⟨g1, fun _ => ⟨g2, g3, s_code h go r μ1 a⟩, fun _ => ⟨g2, g3, s_code h go r μ1 a⟩⟩
    · exact w_code h.p fun r μ1 a => ⟨g1, fun _ => ⟨g2, g3, s_code h go r μ1 a⟩, fun _ => ⟨g2, g3, s_code h go r μ1 a⟩⟩
    · exact w_isKnown h.p fun r μ1 a => ⟨g1, g2, s_isKnown h go r μ1 a⟩
    · exact w_known h.p fun r μ1 a => ⟨g1, g2, s_known h go r μ1 a⟩
    · exact w_isLive h.p fun r μ1 a => ⟨g1, fun _ => ⟨g2, g3, s_isLive h go r μ1 a⟩, fun _ => ⟨g2, g3, s_isLive h go r μ1 a⟩⟩
    · exact w_isLive h.p fun r μ1 a => ⟨g1, fun _ => ⟨g2, g3, s_isLive h go r μ1 a⟩, fun _ => ⟨g2, g3, s_isLive h go r μ1 a⟩⟩
    · exact w_colour h.p fun r μ1 a => ⟨g1, s_colour h go r μ1 a⟩
    · exact jw_mono (s_input0 (K := fun r s μ' => jL_ X (d + 100 + 1) (m + 1) (ab_up (ab_up (ab_up l 5 r) 6 s) 4 (i + 4)) μ') h fun r s μ' h' _ _ => go r s μ' h') fun r μ1 k => ⟨g1, k⟩
    · exact s_clear (K := fun r s μ' => (r = s → jL_ X (d + 100 + 1) (m + 1) (ab_up l 4 (i + 4)) μ') ∧ (r ≠ s → False)) h fun μ' h' _ _ => ⟨fun _ => go1 μ' h', fun z => absurd h.i z⟩
    · exact w_run h.p fun r μ1 a => ⟨g1, g2, s_run h go r μ1 a⟩
    · exact w_printed h.p fun r μ1 a => ⟨g1, s_printed h go r μ1 a⟩
    · exact w_told h.p fun r μ1 a => ⟨g1, s_told h go r μ1 a⟩
end L3

