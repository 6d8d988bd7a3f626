/-! THE CLASS, part k19: make -/
section K19
variable {X : jm_X} {d : Nat} {P : Int → ab_m → Prop} {μ μ' μ0 : ab_m} {s N dn : Int} {Γ : scG}
theorem c_mCo_fits {o : Int} (ho : ab_is 1 o) (h0 : ¬ (μ o 7 = 0 ∧ μ o 6 ≤ 300) → P 0 μ) (h1 : μ o 7 = 0 → μ o 6 ≤ 300 → P 1 μ) : jj_mCo_fits X d 0 (ab_la [o]) [] μ P := by
  refine bk_mCo_fits_0 ho ?_
  simp only [la0]
  exact ⟨fun z => h0 (by omega), fun z => ⟨fun z2 => h0 (by omega), fun z2 => h1 z z2⟩⟩
theorem cJ.kw {w : Int → Int} (h : cJ μ w) (w0 : ∀ i, w i = 0) (r : μ 45 6 ≤ 300) : kW μ 45 := by
  refine ⟨h.n, ⟨h.r, r⟩, fun i a b => ?_⟩
  obtain ⟨h1, h2, h3, h4, h5, h6, h7, h8, h9⟩ := h.i i a b
  have lt : ∀ {q : Int}, cR μ q → 0 ≤ q ∧ q < 300 := fun z => ⟨z.1, by have := z.2; omega⟩
  exact ⟨h1, h2, fun y => lt (h3 y), fun y => lt (h4 y), fun y => lt (h5 y), fun y => (h6 y).resolve_left fun z => z (w0 i), h7, h8, h9⟩
def fMa (μ μ' : ab_m) : Prop := ∀ c j, ¬ (37 ≤ c ∧ c ≤ 50) → ¬ (c = 36 ∧ (j = 2 ∨ j = 9 ∨ j = 12)) → μ' c j = μ c j
theorem scU.into (t : scW μ s Γ N dn) {L : List Int} {pc b y T : Int} (r : Γ.2.1 (pc + 1) = Γ.2.1 pc) (ss : μ (s + 1) pc ≠ 30) (b0 : 0 ≤ b) (bN : b < N) (rb : Γ.2.1 b = T) (zb : Γ.2.2.1 b = b) (h : scU μ s Γ dn b ((pc + 1) :: L) y) : scU μ s Γ dn pc L y ∨ (μ (s + 8) T ≤ y ∧ y < μ (s + 8) T + μ (s + 9) T) := by
  rcases h with h | ⟨x, hx, h⟩
  · rcases h with h | h | ⟨j, j0, j1, j2, j3, j4⟩
    · exact Or.inl (Or.inl (Or.inl h))
    · rw [rb] at h; exact Or.inr h.2
    · exact (t.first j0 j1 bN j2 zb).elim
  · rcases List.mem_cons.mp hx with e | e
    · subst e
      rcases scU.on (L := L) r (Or.inl h) with z | z
      · exact Or.inl z
      · exact absurd z.1 ss
    · exact Or.inl (Or.inr ⟨x, e, h⟩)
theorem scV.into (t : scW μ s Γ N dn) {L : List Int} {pc b y : Int} (r : Γ.2.1 (pc + 1) = Γ.2.1 pc) (b0 : 0 ≤ b) (bN : b < N) (zb : Γ.2.2.1 b = b) (h : scV Γ b ((pc + 1) :: L) y) : scV Γ pc L y ∨ y ∈ Γ.2.2.2.2 pc := by
  rcases h with ⟨j, j0, j1, j2, j3⟩ | ⟨x, hx, h⟩
  · exact (t.first j0 j1 bN j2 zb).elim
  · rcases List.mem_cons.mp hx with e | e
    · subst e; exact scV.on r (Or.inl h)
    · exact Or.inl (Or.inr ⟨x, e, h⟩)
set_option maxHeartbeats 4000000 in
theorem c_mMa_make97 (hs : ab_is 10 s) (t : scW μ0 s Γ N dn) (h51 : ∀ j, 0 ≤ j → j < 8 → μ0 51 j = μ0 (s + 5) j) (hP : ∀ r μ', (r = 0 ∨ r = 1) → fMa μ0 μ' → (∀ t, 0 ≤ t → t < 3002 → 0 ≤ μ' 37 t) → (r ≠ 0 → kW μ' 45) → P r μ') : ∀ (q : Nat) (l : ab_l) (μ1 : ab_m) (L : List Int) (v pc lf : Int), l 0 = 36 → l 1 = s → l 2 = 45 → l 3 ≠ 0 → l 4 = lf → lf ≤ 1000000 → lf.toNat = q → 0 ≤ pc → pc < N → scFr Γ N dn L (Γ.2.1 pc) v → scBk μ1 L → fMa μ0 μ1 → mS s μ1 μ1 300 pc (v + Γ.1 pc) L.length (scU μ0 s Γ dn pc L) (scV Γ pc L) (scF Γ N pc L) → μ1 45 7 = 0 → 1000000 - lf ≤ 200 * μ1 45 5 + scPs μ0 s Γ dn (pc :: L) + 10 → jj_mMa_make X (d + 5) 97 l [] μ1 P := by
  have hs' : s = 16 ∨ s = 26 := hs
  have ex : ∀ (l : ab_l) (μ2 : ab_m), l 0 = 36 → l 1 = s → l 2 = 45 → l 3 = 0 → fMa μ0 μ2 → μ2 36 1 = 45 → (∀ t, 0 ≤ t → t < 3002 → 0 ≤ μ2 37 t) → (μ2 45 7 = 0 → μ2 45 6 ≤ 300 → kW μ2 45) → jj_mMa_make X (d + 5) 97 l [] μ2 P := by
    intro l μ2 l0 l1 l2 l3 fr s1 bg hk
    refine bk_mMa_make_97 l0 (by rw [l1]; exact hs) (by rw [l2]; exact Or.inl rfl) ?_
    rw [s1, l3]
    have ft : jj_mCo_fits X (d + 4) 0 (ab_la [45]) [] μ2 (fun r μ1 => (0 ≤ r ∧ r ≤ 1) ∧ P r μ1) := c_mCo_fits (Or.inl rfl) (fun _ => ⟨by omega, hP 0 μ2 (Or.inl rfl) fr bg fun y => absurd rfl y⟩) fun z1 z2 => ⟨by omega, hP 1 μ2 (Or.inr rfl) fr bg fun _ => hk z1 z2⟩
    exact ⟨fun _ => ⟨Or.inl rfl, ft⟩, fun _ => ⟨fun _ => ⟨Or.inl rfl, ft⟩, fun y => absurd rfl y⟩⟩
  intro q
  induction q using Nat.strongRecOn with
  | ind q ih =>
    intro l μ1 L v pc lf l0 l1 l2 l3 l4 lf1 em p0 pN hL hB fr hS h7 hpot
    have lq : 0 < lf → (lf - 1).toNat < q := fun z => by omega
    clear em
    have N3 := t.n.2
    have d15 := t.d
    obtain ⟨v0, vb, Ll⟩ := hL.le t
    have vk := vb pc p0 pN rfl
    obtain ⟨hh0, hhz, hz0, hzk, hr0⟩ := t.tr p0 pN
    have rd := t.rd p0 pN
    have nr := hS.nr
    have ph := t.ph p0 pN
    have pl := scPs_le t hL
    have tk := t.k pc p0 pN
    have e4 : μ1 s 4 = N := by rw [fr s 4 (by omega) (by omega)]; exact t.n.1
    have pe : scPs μ0 s Γ dn (pc :: L) = scP μ0 s Γ dn pc + scPs μ0 s Γ dn L := rfl
    refine bk_mMa_make_97 l0 (by rw [l1]; exact hs) (by rw [l2]; exact Or.inl rfl) ?_
    rw [l4, hS.s0.1, hS.s0.2, e4, hS.at']
    refine ⟨fun z => by omega, fun lp => ⟨fun y => absurd y l3, fun _ => ⟨hs, fun y => by omega, fun _ => ?_⟩⟩⟩
    refine c_mMa_arrive hs hS (by omega) (by omega) (L0 := Γ.2.2.2.2 pc) (by
      have : ∀ (L : List Int) (x : Int), sDc μ0 s L x → sDc μ1 s L x := by
        intro L
        induction L with
        | nil => intro x h; exact h
        | cons y r ih =>
          intro x h
          refine ⟨h.1, h.2.1, h.2.2.1, h.2.2.2.1, ?_⟩
          rw [fr (s + 4) y (by omega) (by omega)]
          exact ih _ h.2.2.2.2
      rw [fr (s + 3) pc (by omega) (by omega)]
      exact this _ _ tk.wr) fun μ2 h2 ln2 => ?_
    have fr2 : fMa μ0 μ2 := fun c j y1 y2 => by rw [h2.fr c j (by omega) y2]; exact fr c j y1 y2
    have y6 : ∀ j, μ2 (s + 6) j = μ0 (s + 6) j := fun j => fr2 (s + 6) j (by omega) (by omega)
    have y7 : ∀ j, μ2 (s + 7) j = μ0 (s + 7) j := fun j => fr2 (s + 7) j (by omega) (by omega)
    have y8 : ∀ j, μ2 (s + 8) j = μ0 (s + 8) j := fun j => fr2 (s + 8) j (by omega) (by omega)
    have y9 : ∀ j, μ2 (s + 9) j = μ0 (s + 9) j := fun j => fr2 (s + 9) j (by omega) (by omega)
    have B2 : scBk μ2 L := hB.same fun j _ _ => h2.fr 43 j (by omega) (by omega)
    rw [h2.s0.1, h2.at', fr2 (s + 1) pc (by omega) (by omega), fr2 (s + 2) pc (by omega) (by omega)]
    refine ⟨hs, by omega, by omega, ?_⟩
    have h2s := h2.self
    have n2 := h2.nr
    have jp := tk.jp
    have tr := tk.tr
    have okU : μ0 (s + 1) pc = 1 ∨ μ0 (s + 1) pc = 23 ∨ μ0 (s + 1) pc = 29 → scU μ0 s Γ dn pc L (μ0 (s + 2) pc) := fun y => Or.inl (tk.td y)
    have onU : ∀ y, Γ.2.1 (pc + 1) = Γ.2.1 pc → scU μ0 s Γ dn (pc + 1) L y → scU μ0 s Γ dn pc L y ∨ (μ0 (s + 1) pc = 30 ∧ y = μ0 (s + 2) pc) := fun y r h => scU.on r h
    have pst : pc + 1 < N → μ0 (s + 1) pc ≠ 34 → scP μ0 s Γ dn pc ≤ scP μ0 s Γ dn (pc + 1) + 60 ∧ (μ0 (s + 1) pc = 0 ∨ μ0 (s + 1) pc = 31 ∨ μ0 (s + 1) pc = 35 → scP μ0 s Γ dn pc + 1 ≤ scP μ0 s Γ dn (pc + 1)) := fun a b => t.pst p0 a b
    have inU : ∀ {c y T : Int}, Γ.2.1 (pc + 1) = Γ.2.1 pc → μ0 (s + 1) pc ≠ 30 → 0 ≤ c → c < N → Γ.2.1 c = T → Γ.2.2.1 c = c → scU μ0 s Γ dn c ((pc + 1) :: L) y → scU μ0 s Γ dn pc L y ∨ (μ0 (s + 8) T ≤ y ∧ y < μ0 (s + 8) T + μ0 (s + 9) T) := fun r ss c0 cN rc zc h => scU.into t r ss c0 cN rc zc h
    have mv := tk.mv
    have nm := tk.nm
    have rw' := tk.rw
    have cl := tk.cl
    have rt := tk.rt
    have la := t.la
    have p34 : μ0 (s + 1) pc = 34 → Γ.2.1 pc < dn → scP μ0 s Γ dn pc ≤ Γ.1 pc + Γ.2.2.2.1 pc - 40 := fun a b => by
      unfold scP
      rw [if_neg (by omega), if_pos b]; omega
    have qq := tk.q
    have la' : μ0 (s + 1) pc = 28 → pc = N - 1 := fun z => by
      by_cases e : pc = N - 1
      · exact e
      · exact absurd z (t.ns pc p0 (by omega))
    clear tk
    generalize hSS : μ0 (s + 1) pc = S at *
    generalize hTT : μ0 (s + 2) pc = T at *
    have w4 : ab_w (lf + -1) = lf - 1 := ab_wi (by omega) (by omega)
    rw [w4]
    have mx : v + Γ.1 pc ≤ 3000 := hS.m0.2
    -- the next step
    have kc : S ≠ 28 → ∀ (μ3 : ab_m) (L' : List Int) (v' pc' b3 : Int), mS s μ3 μ3 b3 (pc' - 1) (v' + Γ.1 pc') L'.length (scU μ0 s Γ dn pc' L') (scV Γ pc' L') (scF Γ N pc' L') → b3 ≤ 100000 → fMa μ0 μ3 → scBk μ3 L' → scFr Γ N dn L' (Γ.2.1 pc') v' → 0 ≤ pc' → pc' < N → (μ3 45 7 = 0 → 1000001 - lf ≤ 200 * μ3 45 5 + scPs μ0 s Γ dn (pc' :: L') + 10) → ∀ μ21, μ21 = ab_mu μ3 36 2 (ab_w (μ3 36 2 + 1)) → (S = 28 → jj_mMa_make X (d + 5) 97 (ab_up (ab_up (ab_up l 5 S) 3 0) 4 (lf - 1)) [] μ21 P) ∧ (S ≠ 28 → ab_is 1 (μ21 36 1) ∧ jj_mCo_fits X (d + 4) 0 (ab_la [μ21 36 1]) [] μ21 (fun r23 μ22 => (r23 = 0 → jj_mMa_make X (d + 5) 97 (ab_up (ab_up (ab_up l 5 S) 3 0) 4 (lf - 1)) [] μ22 P) ∧ (r23 ≠ 0 → jj_mMa_make X (d + 5) 97 (ab_up (ab_up (ab_up l 5 S) 3 1) 4 (lf - 1)) [] μ22 P))) := by
      intro n28 μ3 L' v' pc' b3 h3 hb3 f3 B3 hL3 q0 qN pot μ4 e4'
      rw [h3.at', show ab_w (pc' - 1 + 1) = pc' by rw [ab_wi (by omega) (by omega)]; omega] at e4'
      have g4 : ∀ c j, ¬ (c = 36 ∧ j = 2) → μ4 c j = μ3 c j := fun c j y => by rw [e4', ab_mud, if_neg y]
      have f4 : fMa μ0 μ4 := fun c j y1 y2 => by rw [g4 c j (by omega)]; exact f3 c j y1 y2
      have s4 : μ4 36 1 = 45 := by rw [g4 36 1 (by omega)]; exact h3.s0.2
      refine ⟨fun y => absurd y n28, fun _ => ?_⟩
      rw [s4]
      obtain ⟨w, Q, ft⟩ := h3.q
      have bg4 : ∀ t, 0 ≤ t → t < 3002 → 0 ≤ μ4 37 t := fun t a b => by rw [g4 37 t (by omega)]; exact Q.bg t a b
      refine ⟨Or.inl rfl, c_mCo_fits (Or.inl rfl) (fun z => ⟨fun _ => ex _ μ4 l0 l1 l2 rfl f4 s4 bg4 fun a b => absurd ⟨a, b⟩ z, fun y => absurd rfl y⟩) fun z1 z2 => ⟨fun y => absurd y (by decide), fun _ => ?_⟩⟩
      refine ih _ (lq lp) _ μ4 L' v' pc' (lf - 1) l0 l1 l2 (show (1 : Int) ≠ 0 by decide) rfl (by omega) rfl q0 qN hL3 (B3.same fun j _ _ => g4 43 j (by omega)) f4 ?_ z1 (by have := pot (by rw [← g4 45 7 (by omega)]; exact z1); rw [g4 45 5 (by omega)]; omega)
      refine ⟨fun _ _ _ _ => rfl, by rw [g4 36 0 (by omega), g4 36 1 (by omega)]; exact h3.s0, by rw [e4', ab_mud, if_pos ⟨rfl, rfl⟩], by rw [g4 36 9 (by omega)]; exact h3.m9, by rw [g4 36 12 (by omega)]; exact h3.cl, z2, h3.m0, ?_⟩
      exact ⟨w, Q.fr (fun c i z => g4 c i (by omega)) (g4 45 5 (by omega)) (by rw [g4 45 6 (by omega)]; exact Int.le_refl _) (Int.le_refl _), ft⟩
    have lt7 : ∀ {μ3 : ab_m}, mLn μ2 μ3 → μ1 45 5 ≤ μ3 45 5 := fun h => Int.le_trans ln2.2 h.2
    -- on in the same def: U' what is known then, emitting or not
    have on : ∀ (h' : Int), (S ≠ 28 ∧ S ≠ 34 ∧ S ≠ 32) → Γ.1 (pc + 1) = h' → Γ.2.1 (pc + 1) = Γ.2.1 pc → pc + 1 < N → ∀ (μ3 : ab_m) (b3 : Int) (U3 : Int → Prop), mS s μ2 μ3 b3 pc (v + h') L.length U3 (fun y => scV Γ pc L y ∨ y ∈ Γ.2.2.2.2 pc) (fun y => scF Γ N pc L y ∧ y ≠ pc) → (∀ y, scU μ0 s Γ dn pc L y ∨ (S = 30 ∧ y = T) → U3 y) → b3 ≤ 100000 → (mEt μ2 μ3 ∨ (mLn μ2 μ3 ∧ (S = 0 ∨ S = 31 ∨ S = 35))) → ∀ μ21, μ21 = ab_mu μ3 36 2 (ab_w (μ3 36 2 + 1)) → (S = 28 → jj_mMa_make X (d + 5) 97 (ab_up (ab_up (ab_up l 5 S) 3 0) 4 (lf - 1)) [] μ21 P) ∧ (S ≠ 28 → ab_is 1 (μ21 36 1) ∧ jj_mCo_fits X (d + 4) 0 (ab_la [μ21 36 1]) [] μ21 (fun r23 μ22 => (r23 = 0 → jj_mMa_make X (d + 5) 97 (ab_up (ab_up (ab_up l 5 S) 3 0) 4 (lf - 1)) [] μ22 P) ∧ (r23 ≠ 0 → jj_mMa_make X (d + 5) 97 (ab_up (ab_up (ab_up l 5 S) 3 1) 4 (lf - 1)) [] μ22 P))) := by
      intro h' hS3 eh er n1 μ3 b3 U3 h3 hU hb3 hem
      obtain ⟨ps1, ps2⟩ := pst n1 hS3.2.1
      have f3 : fMa μ0 μ3 := fun c j y1 y2 => by rw [h3.fr c j (by omega) y2]; exact fr2 c j y1 y2
      have pe3 : scPs μ0 s Γ dn ((pc + 1) :: L) = scP μ0 s Γ dn (pc + 1) + scPs μ0 s Γ dn L := rfl
      refine kc hS3.1 μ3 L v (pc + 1) b3 ?_ hb3 f3 (B2.same fun j _ _ => h3.fr 43 j (by omega) (by omega)) (by rw [er]; exact hL) (by omega) n1 fun z7 => ?_
      · rw [show pc + 1 - 1 = pc by omega, eh]
        refine h3.self.sub (fun y hy => hU y (onU y er hy)) (fun y hy => scV.on er hy) fun y hy => ?_
        rcases hy with ⟨hy | hy, hn⟩
        · exact Or.inl ⟨by rw [hy.1, er], by omega, hy.2.2⟩
        · exact Or.inr hy
      · rw [pe3]
        rcases hem with hem | ⟨hln, hne⟩
        · have a1 := hem.2 z7
          have a2 := ln2.2
          omega
        · have a1 := lt7 hln
          have a2 := ps2 hne
          omega
    have gp : S ≠ 34 → S ≠ 28 → scHv S (μ0 (s + 9) T) (Γ.1 pc) (Γ.1 (pc + 1)) ∧ Γ.2.1 (pc + 1) = Γ.2.1 pc ∧ pc + 1 < N := fun a b => by
      rcases mv with h | h | h
      · exact absurd h.1 a
      · exact absurd h.1 b
      · exact ⟨h.1, h.2.1, h.2.2.2.1⟩
    have kRr : S = 21 ∨ S = 22 → kR μ2 45 T := fun z y1 y2 => by
      show μ2 51 T ≤ 100
      rw [fr2 51 T (by omega) (by omega), h51 T y1 y2]
      exact rw' z y1 y2
    have fut : ∀ y, pc < y → y < N → Γ.2.1 y = Γ.2.1 pc → scF Γ N pc L y ∧ y ≠ pc := fun y a b c => ⟨Or.inl ⟨c, by omega, b⟩, by omega⟩
    obtain ⟨w2, Q2, ft2⟩ := h2.q
    have U30 : S ≠ 30 → ∀ y, scU μ0 s Γ dn pc L y ∨ (S = 30 ∧ y = T) → scU μ0 s Γ dn pc L y := fun z y h => h.resolve_right fun h => z h.1
    refine bk_mMa_takeStep_0 rfl ?_
    show (S < 2 → _) ∧ (2 ≤ S → (22 < S → _) ∧ (S ≤ 22 → _))
    have s18 : S < 2 ∨ 22 < S → jj_mMa_takeStep X (d + 4) 18 (ab_la [36, S, T]) [] μ2 (fun _ μ18 => ∀ μ21, μ21 = ab_mu μ18 36 2 (ab_w (μ18 36 2 + 1)) → (S = 28 → jj_mMa_make X (d + 5) 97 (ab_up (ab_up (ab_up l 5 S) 3 0) 4 (lf - 1)) [] μ21 P) ∧ (S ≠ 28 → ab_is 1 (μ21 36 1) ∧ jj_mCo_fits X (d + 4) 0 (ab_la [μ21 36 1]) [] μ21 (fun r23 μ22 => (r23 = 0 → jj_mMa_make X (d + 5) 97 (ab_up (ab_up (ab_up l 5 S) 3 0) 4 (lf - 1)) [] μ22 P) ∧ (r23 ≠ 0 → jj_mMa_make X (d + 5) 97 (ab_up (ab_up (ab_up l 5 S) 3 1) 4 (lf - 1)) [] μ22 P)))) := by
      intro out
      refine bk_mMa_takeStep_18 rfl ?_
      simp only [la1, la2]
      have mx1 : Γ.2.1 (pc + 1) = Γ.2.1 pc → pc + 1 < N → v + Γ.1 (pc + 1) ≤ 3000 := fun a c => by
        have a1 := vb (pc + 1) (by omega) c a
        have a2 := t.tr (k := pc + 1) (by omega) c
        omega
      have J : ∀ (h' : Int), (S ≠ 28 ∧ S ≠ 34 ∧ S ≠ 32) → S ≠ 30 → Γ.1 (pc + 1) = h' → Γ.2.1 (pc + 1) = Γ.2.1 pc → pc + 1 < N → ∀ (μ3 : ab_m) (b3 : Int), mS s μ2 μ3 b3 pc (v + h') L.length (scU μ0 s Γ dn pc L) (fun y => scV Γ pc L y ∨ y ∈ Γ.2.2.2.2 pc) (fun y => scF Γ N pc L y ∧ y ≠ pc) → b3 ≤ 100000 → (mEt μ2 μ3 ∨ (mLn μ2 μ3 ∧ (S = 0 ∨ S = 31 ∨ S = 35))) → jj_mMa_takeStep X (d + 4) 373 (ab_la [36, S, T]) [] μ3 (fun _ μ18 => ∀ μ21, μ21 = ab_mu μ18 36 2 (ab_w (μ18 36 2 + 1)) → (S = 28 → jj_mMa_make X (d + 5) 97 (ab_up (ab_up (ab_up l 5 S) 3 0) 4 (lf - 1)) [] μ21 P) ∧ (S ≠ 28 → ab_is 1 (μ21 36 1) ∧ jj_mCo_fits X (d + 4) 0 (ab_la [μ21 36 1]) [] μ21 (fun r23 μ22 => (r23 = 0 → jj_mMa_make X (d + 5) 97 (ab_up (ab_up (ab_up l 5 S) 3 0) 4 (lf - 1)) [] μ22 P) ∧ (r23 ≠ 0 → jj_mMa_make X (d + 5) 97 (ab_up (ab_up (ab_up l 5 S) 3 1) 4 (lf - 1)) [] μ22 P)))) := fun h' a1 a2 a3 a4 a5 μ3 b3 a6 a7 a8 => bk_mMa_takeStep_373 rfl (on h' a1 a3 a4 a5 μ3 b3 _ a6 (U30 a2) a7 a8)
      have e21 := h2.s0.2
      rw [e21]
      have tst : ∀ k2 : Int, (k2 = 26 ∨ k2 = 27) → (S = 26 ∨ S = 27 ∨ S = 36 ∨ S = 37) → jj_mMa_test X (d + 3) 0 (ab_la [36, k2, T]) [] μ2 (fun _ μ3 => jj_mMa_takeStep X (d + 4) 373 (ab_la [36, S, T]) [] μ3 (fun _ μ18 => ∀ μ21, μ21 = ab_mu μ18 36 2 (ab_w (μ18 36 2 + 1)) → (S = 28 → jj_mMa_make X (d + 5) 97 (ab_up (ab_up (ab_up l 5 S) 3 0) 4 (lf - 1)) [] μ21 P) ∧ (S ≠ 28 → ab_is 1 (μ21 36 1) ∧ jj_mCo_fits X (d + 4) 0 (ab_la [μ21 36 1]) [] μ21 (fun r23 μ22 => (r23 = 0 → jj_mMa_make X (d + 5) 97 (ab_up (ab_up (ab_up l 5 S) 3 0) 4 (lf - 1)) [] μ22 P) ∧ (r23 ≠ 0 → jj_mMa_make X (d + 5) 97 (ab_up (ab_up (ab_up l 5 S) 3 1) 4 (lf - 1)) [] μ22 P))))) := fun k2 hk2 hk => by
        obtain ⟨hv, er, n1⟩ := gp (by omega) (by omega)
        have u7 := hv.2.2.2.2.2.2.1 (by omega)
        obtain ⟨j1, j2, j3⟩ := jp (by omega)
        exact c_mMa_test h2s (by omega) hk2 (by omega) (fun y => fut T y j2 (by omega)) fun μ3 h3 e3 => J (Γ.1 pc - 1) (by omega) (by omega) u7.2 er n1 μ3 _ (by rw [show v + (Γ.1 pc - 1) = v + Γ.1 pc - 1 by omega]; exact h3) (by omega) (Or.inl e3)
      refine ⟨⟨fun e => ?_, fun e => ?_, fun e => by omega, fun e => by omega, fun e => by omega, fun e => by omega, fun e => by omega, fun e => by omega, fun e => by omega, fun e => by omega, fun e => by omega, fun e => by omega, fun e => by omega, fun e => by omega, fun e => by omega, fun e => by omega, fun e => by omega, fun e => by omega, fun e => by omega, fun e => by omega, fun e => by omega, fun e => by omega, fun e => by omega, fun e => ?_, fun e => ?_, fun e => ?_, fun e => tst 26 (Or.inl rfl) (by omega), fun e => tst 27 (Or.inr rfl) (by omega), fun e => ?_, fun e => ?_, fun e => ?_, fun e => ?_, fun e => ?_, fun e => ?_, fun e => ?_, fun e => ?_, fun e => tst 26 (Or.inl rfl) (by omega), fun e => tst 27 (Or.inr rfl) (by omega), fun e => ?_, trivial⟩, fun e => ?_⟩
      · -- PUSH_NUMBER
        obtain ⟨hv, er, n1⟩ := gp (by omega) (by omega)
        have u := hv.2.1 (Or.inl e)
        have m1 := mx1 er n1
        exact c_mMa_push h2s (by omega) (Or.inr rfl) fun μ3 h3 g3 => J (Γ.1 pc + 1) (by omega) (by omega) u er n1 μ3 _ (by rw [show v + (Γ.1 pc + 1) = v + Γ.1 pc + 1 by omega]; exact h3) (by omega) (Or.inr ⟨mLn.of (g3 45 7 (by omega) (by decide) (by decide)) (g3 45 5 (by omega) (by decide) (by decide)), Or.inl e⟩)
      · -- PUSH_NAME
        obtain ⟨hv, er, n1⟩ := gp (by omega) (by omega)
        have u := hv.2.1 (Or.inr e)
        have m1 := mx1 er n1
        exact ⟨nm (by omega), c_mMa_pushCopy h2s (by omega) (by omega) (Q2.u T (okU (Or.inl e))) fun μ3 h3 e3 => J (Γ.1 pc + 1) (by omega) (by omega) u er n1 μ3 _ (by rw [show v + (Γ.1 pc + 1) = v + Γ.1 pc + 1 by omega]; exact h3) (by omega) (Or.inl e3)⟩
      · -- TAKE
        obtain ⟨hv, er, n1⟩ := gp (by omega) (by omega)
        have u := hv.2.2.2.2.2.1 (by omega)
        exact ⟨nm (by omega), Or.inl rfl, c_ma_add h2s ⟨by omega, by omega, fun y => by omega, fun y => by omega, fun _ => Q2.u T (okU (by omega)), fun y => by omega, fun y => by omega, fun y => by omega⟩ (fun y => by omega) fun r μ3 h3 e3 _ _ => J (Γ.1 pc) (by omega) (by omega) u er n1 μ3 _ h3 (by omega) (Or.inl e3)⟩
      · -- SHOW
        obtain ⟨hv, er, n1⟩ := gp (by omega) (by omega)
        have u7 := hv.2.2.2.2.2.2.1 (by omega)
        exact c_mMa_show h2s (by omega) fun μ3 h3 e3 => J (Γ.1 pc - 1) (by omega) (by omega) u7.2 er n1 μ3 _ (by rw [show v + (Γ.1 pc - 1) = v + Γ.1 pc - 1 by omega]; exact h3) (by omega) (Or.inl e3)
      · -- JUMP
        obtain ⟨hv, er, n1⟩ := gp (by omega) (by omega)
        have u := hv.2.2.2.2.2.1 (by omega)
        obtain ⟨j1, j2, j3⟩ := jp (by omega)
        exact c_mMa_leap h2s (Or.inl rfl) (by omega) (fun t' => ⟨by omega, by omega, fun y => by omega, fun y => by omega, fun y => by omega, fun y => by omega, fun y => by omega, fun y => by omega⟩) (fun y => fut T y j2 (by omega)) fun μ3 h3 e3 => J (Γ.1 pc) (by omega) (by omega) u er n1 μ3 _ h3 (by omega) (Or.inl e3)
      · -- HALT
        have pe' := la' e
        refine ⟨Or.inl rfl, c_ma_add h2s ⟨by omega, by omega, fun y => by omega, fun y => by omega, fun y => by omega, fun y => by omega, fun y => by omega, fun y => by omega⟩ (fun y => by omega) fun r μ3 h3 e3 _ _ => bk_mMa_takeStep_373 rfl fun μ4 e4' => ⟨fun _ => ?_, fun y => absurd e y⟩⟩
        have g4 : ∀ c j, ¬ (c = 36 ∧ j = 2) → μ4 c j = μ3 c j := fun c j y => by rw [e4', ab_mud, if_neg y]
        have f3 : fMa μ0 μ3 := fun c j y1 y2 => by rw [h3.fr c j (by omega) y2]; exact fr2 c j y1 y2
        have rpc : Γ.2.1 pc = dn := by rw [pe']; exact la.2
        obtain ⟨w, Q, ft⟩ := h3.q
        refine ex _ μ4 l0 l1 l2 rfl (fun c j y1 y2 => by rw [g4 c j (by omega)]; exact f3 c j y1 y2) (by rw [g4 36 1 (by omega)]; exact h3.s0.2) (fun t a b => by rw [g4 37 t (by omega)]; exact Q.bg t a b) fun z1 z2 => ?_
        have w0 : ∀ i, w i = 0 := fun i => by
          by_cases z : w i = 0
          · exact z
          · obtain ⟨f1, f2⟩ := ft i z
            cases L with
            | cons c cs =>
              obtain ⟨c1, c2, c3, -⟩ := hL
              have := t.rd (show 0 ≤ c by omega) c2
              omega
            | nil =>
              rcases f1 with f1 | ⟨c, hc, -⟩
              · omega
              · exact absurd hc List.not_mem_nil
        have Q4 : cQ μ4 w (v + Γ.1 pc) L.length (scU μ0 s Γ dn pc L) (fun y => scV Γ pc L y ∨ y ∈ Γ.2.2.2.2 pc) := Q.fr (fun c i z => g4 c i (by omega)) (g4 45 5 (by omega)) (by rw [g4 45 6 (by omega)]; exact Int.le_refl _) (Int.le_refl _)
        exact Q4.j.kw w0 z2
      · -- ASSIGN
        obtain ⟨hv, er, n1⟩ := gp (by omega) (by omega)
        have u7 := hv.2.2.2.2.2.2.1 (by omega)
        exact ⟨nm (by omega), c_mMa_lay h2s (by omega) (Q2.u T (okU (by omega))) fun μ3 h3 e3 _ => J (Γ.1 pc - 1) (by omega) (by omega) u7.2 er n1 μ3 _ (by rw [show v + (Γ.1 pc - 1) = v + Γ.1 pc - 1 by omega]; exact h3) (by omega) (Or.inl e3)⟩
      · -- TELL_INT
        obtain ⟨hv, er, n1⟩ := gp (by omega) (by omega)
        have u := hv.2.2.2.2.2.1 (by omega)
        exact c_mMa_tellInt h2s (by omega) (nm (by omega)) fun μ3 h3 e3 => bk_mMa_takeStep_373 rfl (on (Γ.1 pc) (by omega) u er n1 μ3 _ _ h3 (fun y hy => hy.imp (fun z => z) fun z => z.2) (by omega) (Or.inl e3))
      · -- TICK
        obtain ⟨hv, er, n1⟩ := gp (by omega) (by omega)
        have u := hv.2.2.2.2.2.1 (by omega)
        exact J (Γ.1 pc) (by omega) (by omega) u er n1 μ2 _ h2s (by omega) (Or.inr ⟨mLn.rf, by omega⟩)
      · -- CALL
        obtain ⟨hv, er, n1⟩ := gp (by omega) (by omega)
        have u8 := hv.2.2.2.2.2.2.2 e
        obtain ⟨c1, c2, c3⟩ := cl e
        obtain ⟨d1, d2, d3, d4, d5, d6, d7, d8, d9⟩ := t.df T c1 c3
        have x6 := y6 T
        have x8 := y8 T
        have x9 := y9 T
        have ln : (((pc + 1) :: L : List Int).length : Int) = L.length + 1 := by simp
        refine c_mMa_call (n := μ0 (s + 9) T) (U' := scU μ0 s Γ dn (μ0 (s + 6) T) ((pc + 1) :: L)) hs h2s (by omega) (by omega) x9 d8 (by omega) (by rw [x8]; omega) (by rw [x6]; omega) (by omega) p0 (fun y hy => by rw [x8]; exact inU er (by omega) d1.1 d1.2 d2 d4 hy) fun μ3 f3 h3 e3 b43 o43 => bk_mMa_takeStep_373 rfl ?_
        have f3' : fMa μ0 μ3 := fun c j y1 y2 => by rw [f3 c j y1 y2]; exact fr2 c j y1 y2
        have ps := (pst n1 (by omega)).1
        have pb := (t.ph d1.1 d1.2).2
        refine kc (by omega) μ3 ((pc + 1) :: L) (v + Γ.1 pc - μ0 (s + 9) T) (μ0 (s + 6) T) _ ?_ (show (300 + 3002 + 7 : Int) ≤ 100000 by omega) f3' ⟨by rw [b43]; omega, B2.same fun j j0 j1 => o43 j (by omega)⟩ ⟨by omega, n1, by omega, by omega, v, by omega, by rw [er]; exact hL⟩ d1.1 d1.2 fun z7 => ?_
        · rw [ln, d3, ← x6, show v + Γ.1 pc - μ0 (s + 9) T + 0 = v + Γ.1 pc - μ0 (s + 9) T by omega]
          refine h3.sub (fun y hy => by rw [x6] at hy; exact hy) (fun y hy => by rw [x6] at hy; exact scV.into t er d1.1 d1.2 d4 hy) fun y hy => ?_
          rcases hy with ⟨hy | ⟨c, hc, hy⟩, hn⟩
          · exact Or.inr ⟨pc + 1, List.mem_cons_self .., by rw [er]; exact hy.1, by omega, hy.2.2⟩
          · exact Or.inr ⟨c, List.mem_cons_of_mem _ hc, hy⟩
        · have a1 := e3.2 z7
          have a2 := ln2.2
          show 1000001 - lf ≤ 200 * μ3 45 5 + (scP μ0 s Γ dn (μ0 (s + 6) T) + (scP μ0 s Γ dn (pc + 1) + scPs μ0 s Γ dn L)) + 10
          omega
      · -- RETURN
        obtain ⟨hv, er, n1⟩ := gp (by omega) (by omega)
        have u7 := hv.2.2.2.2.2.2.1 (by omega)
        obtain ⟨r1, r2⟩ := rt e
        obtain ⟨d1, d2, d3, d4, d5, d6, d7, d8, d9⟩ := t.df T (by rw [r1]; exact hr0) (by rw [r1]; exact r2)
        have x7 := y7 T
        have Lp : 1 ≤ (L.length : Int) := by
          cases L with
          | nil => have := hL.1; omega
          | cons c cs => simp; omega
        exact c_mMa_giveBack hs h2s (by omega) (by omega) (by omega) (by rw [x7]; omega) (fun y => by rw [x7] at y ⊢; exact fut _ y d5.2 (by omega)) fun μ3 h3 e3 => J (Γ.1 pc - 1) (by omega) (by omega) u7.2 er n1 μ3 _ (by rw [show v + (Γ.1 pc - 1) = v + Γ.1 pc - 1 by omega]; exact h3) (by omega) (Or.inl e3)
      · -- DEF_END
        obtain ⟨h0', r1, n1⟩ : Γ.1 pc = 0 ∧ Γ.2.1 (pc + 1) = Γ.2.1 pc + 1 ∧ pc + 1 < N := by
          rcases mv with h | h | h
          · exact ⟨h.2.1, h.2.2.2.1, h.2.2.2.2.2⟩
          · have := h.1; omega
          · have := h.1.1; omega
        have rn := t.rd (k := pc + 1) (by omega) n1
        cases L with
        | nil => have := hL.1; omega
        | cons c cs =>
          have ln : ((c :: cs : List Int).length : Int) = cs.length + 1 := by simp
          obtain ⟨c0, cN, pc', hc1, v', ev, hL'⟩ := hL
          obtain ⟨B21, B22⟩ := B2
          obtain ⟨v0', vb', Ll'⟩ := hL'.le t
          have vc := vb' c (by omega) cN rfl
          have tc := t.tr (show 0 ≤ c by omega) cN
          have b43 : μ2 43 (((c :: cs : List Int).length : Int) - 1) = c - 1 := by rw [ln, show (cs.length : Int) + 1 - 1 = cs.length by omega]; exact B21
          refine c_mMa_endCall h2s (by omega) (by omega) fun μ3 f3 h3 ln3 => bk_mMa_takeStep_373 rfl ?_
          have f3' : fMa μ0 μ3 := fun a j y1 y2 => by rw [f3 a j (by omega) y2]; exact fr2 a j y1 y2
          have pp := p34 e (by omega)
          rw [b43, ln, show (cs.length : Int) + 1 - 1 = cs.length by omega] at h3
          refine kc (by omega) μ3 cs v' c _ ?_ (show (300 + 3002 : Int) ≤ 100000 by omega) f3' (B22.same fun j _ _ => f3 43 j (by omega) (by omega)) hL' (by omega) cN fun z7 => ?_
          · rw [show v' + Γ.1 c = v + Γ.1 pc + 1 by omega]
            refine h3.sub (fun y hy => Or.inr (hy.elim (fun q => ⟨c, List.mem_cons_self .., q⟩) fun ⟨a, a1, a2⟩ => ⟨a, List.mem_cons_of_mem _ a1, a2⟩)) (fun y hy => Or.inl (Or.inr (hy.elim (fun q => ⟨c, List.mem_cons_self .., q⟩) fun ⟨a, a1, a2⟩ => ⟨a, List.mem_cons_of_mem _ a1, a2⟩))) fun y hy => ?_
            rcases hy with ⟨hy | ⟨a, ha, hy⟩, hn⟩
            · have := (t.le (k := pc + 1) (k' := y) (by omega) (by omega) hy.2.2).1
              omega
            · rcases List.mem_cons.mp ha with q | q
              · subst q; exact Or.inl hy
              · exact Or.inr ⟨a, q, hy⟩
          · have a1 := lt7 ln3
            have pe2 : scPs μ0 s Γ dn (pc :: c :: cs) = scP μ0 s Γ dn pc + scPs μ0 s Γ dn (c :: cs) := rfl
            omega
      · -- DROP
        obtain ⟨hv, er, n1⟩ := gp (by omega) (by omega)
        have u7 := hv.2.2.2.2.2.2.1 (by omega)
        exact c_mMa_pop h2s (by omega) fun μ3 h3 f3 => J (Γ.1 pc - 1) (by omega) (by omega) u7.2 er n1 μ3 _ (by rw [show v + (Γ.1 pc - 1) = v + Γ.1 pc - 1 by omega]; exact h3) (by omega) (Or.inr ⟨mS.ln f3, by omega⟩)
      · -- TRUTH
        obtain ⟨hv, er, n1⟩ := gp (by omega) (by omega)
        have u := hv.2.2.2.1 (Or.inr e)
        obtain ⟨t1, j, j0, j1, j2, j3⟩ := tr e
        exact ⟨t1, c_mMa_endTruth h2s (by omega) (Q2.v T (Or.inl (Or.inl ⟨j, j0, j1, j2, j3⟩))) fun μ3 h3 e3 => J (Γ.1 pc) (by omega) (by omega) u.2 er n1 μ3 _ h3 (by omega) (Or.inl e3)⟩
      · have := (gp (by omega) (by omega)).1.1
        omega
    refine ⟨fun z => s18 (by omega), fun z => ⟨fun z2 => s18 (by omega), fun z2 => ?_⟩⟩
    obtain ⟨hv, er, n1⟩ := gp (by omega) (by omega)
    unfold scHv at hv
    obtain ⟨u1, u2, u3, u4, u5, -⟩ := hv
    have u6 : 1 ≤ Γ.1 pc ∧ (S ≤ 17 ∨ S = 22 → 2 ≤ Γ.1 pc) := by
      by_cases a : S ≤ 17
      · have := u3 ⟨z, a⟩; exact ⟨by omega, fun _ => by omega⟩
      · by_cases a2 : S = 22
        · have := u5 a2; exact ⟨by omega, fun _ => by omega⟩
        · have := u4 (Or.inl ⟨by omega, by omega⟩); exact ⟨by omega, fun y => by omega⟩
    refine c_mMa_takeWork h2s (by omega) ⟨z, z2⟩ ⟨by omega, fun y => by have := u6.2 y; omega⟩ kRr fun μ3 h3 e3 => ?_
    refine on (if S ≤ 17 then Γ.1 pc - 1 else if S = 22 then Γ.1 pc - 2 else Γ.1 pc) (by omega) ?_ er n1 μ3 (300 + 3002 + 1) _ ?_ (U30 (by omega)) (by omega) (Or.inl e3)
    · by_cases a : S ≤ 17
      · rw [if_pos a]; omega
      · rw [if_neg a]
        by_cases a2 : S = 22
        · rw [if_pos a2]; omega
        · rw [if_neg a2]; omega
    · have e : v + (if S ≤ 17 then Γ.1 pc - 1 else if S = 22 then Γ.1 pc - 2 else Γ.1 pc) = (if S ≤ 17 then v + Γ.1 pc - 1 else if S = 22 then v + Γ.1 pc - 2 else v + Γ.1 pc) := by
        split
        · omega
        · split <;> omega
      rw [e]; exact h3
end K19

/-! THE CLASS, part k20: make whole -/
section K20
variable {X : jm_X} {d : Nat} {P : Int → ab_m → Prop} {μ μ' μ0 : ab_m} {s N dn : Int} {Γ : scG}
theorem sDc.same {L : List Int} : ∀ {L : List Int} {x : Int}, sDc μ s L x → (∀ y, μ' (s + 4) y = μ (s + 4) y) → sDc μ' s L x
  | [], _, a, _ => a
  | y :: r, x, a, e => ⟨a.1, a.2.1, a.2.2.1, a.2.2.2.1, by rw [e y]; exact (sDc.same (L := L) a.2.2.2.2 e)⟩
theorem scOk.same {k x : Int} (h : scOk μ s Γ dn k x) (f : ∀ c j, s ≤ c → c ≤ s + 9 → μ' c j = μ c j) : scOk μ' s Γ dn k x := by
  unfold scOk
  rw [f s 6 (by omega) (by omega), f (s + 8) _ (by omega) (by omega), f (s + 9) _ (by omega) (by omega)]
  rcases h with h | h | ⟨j, j0, j1, j2, j3, j4⟩
  · exact Or.inl h
  · exact Or.inr (Or.inl h)
  · exact Or.inr (Or.inr ⟨j, j0, j1, j2, by rw [f (s + 1) j (by omega) (by omega)]; exact j3, by rw [f (s + 2) j (by omega) (by omega)]; exact j4⟩)
theorem scW.same (t : scW μ s Γ N dn) (f : ∀ c j, s ≤ c → c ≤ s + 9 → μ' c j = μ c j) : scW μ' s Γ N dn := by
  have f1 : ∀ j, μ' (s + 1) j = μ (s + 1) j := fun j => f _ j (by omega) (by omega)
  have f2 : ∀ j, μ' (s + 2) j = μ (s + 2) j := fun j => f _ j (by omega) (by omega)
  have f3 : ∀ j, μ' (s + 3) j = μ (s + 3) j := fun j => f _ j (by omega) (by omega)
  have f5 : ∀ j, μ' (s + 5) j = μ (s + 5) j := fun j => f _ j (by omega) (by omega)
  have f6 : ∀ j, μ' (s + 6) j = μ (s + 6) j := fun j => f _ j (by omega) (by omega)
  have f7 : ∀ j, μ' (s + 7) j = μ (s + 7) j := fun j => f _ j (by omega) (by omega)
  have f8 : ∀ j, μ' (s + 8) j = μ (s + 8) j := fun j => f _ j (by omega) (by omega)
  have f9 : ∀ j, μ' (s + 9) j = μ (s + 9) j := fun j => f _ j (by omega) (by omega)
  refine ⟨by rw [f s 4 (by omega) (by omega)]; exact t.n, by rw [f s 6 (by omega) (by omega)]; exact t.g, t.d, t.b0, fun k a b => ?_, by rw [f s 5 (by omega) (by omega)]; exact t.st, fun x a b => by rw [f6, f7, f8, f9]; exact t.df x a b, by rw [f1]; exact t.la, fun k a b => by rw [f1]; exact t.ns k a b⟩
  obtain ⟨k1, k2, k3, k4, k5, k6, k7, k8, k9, k10, k11⟩ := t.k k a b
  refine ⟨by rw [f1, f2, f9]; exact k1, k2, by rw [f1, f2]; exact k3, fun y => ?_, by rw [f1, f2]; exact k5, by rw [f1, f2, f5]; exact k6, by rw [f1, f2]; exact k7, by rw [f1, f2]; exact k8, by rw [f1, f2]; exact k9, by rw [f1, f1]; exact k10, ?_⟩
  · rw [f1] at y; rw [f2]; exact (k4 y).same f
  · rw [f3]; exact sDc.same (L := []) k11 fun y => f _ y (by omega) (by omega)
/-- a well-made script is fit to run -/
theorem scW.run (t : scW μ s Γ N dn) : scO μ s := by
  have n := t.n
  refine ⟨by omega, t.st.1.1, fun k a b => ?_⟩
  have tk := t.k k a (by omega)
  refine ⟨tk.nm, fun y => (tk.jp y).1, tk.rw, fun y => ?_⟩
  obtain ⟨c1, c2, c3⟩ := tk.cl y
  have d := t.d
  obtain ⟨d1, d2, d3, d4, d5, d6, d7, d8, d9⟩ := t.df _ c1 c3
  exact ⟨⟨c1, by omega⟩, d1.1, d7, d8, d9⟩
set_option maxHeartbeats 1000000 in
theorem c_mMa_make (hs : ab_is 10 s) (t : scW μ s Γ N dn) (hbg : ∀ t, 0 ≤ t → t < 3002 → 0 ≤ μ 37 t) (hP : ∀ r μ', (r = 0 ∨ r = 1) → (∀ c j, ¬ (36 ≤ c ∧ c ≤ 51) → μ' c j = μ c j) → (∀ t, 0 ≤ t → t < 3002 → 0 ≤ μ' 37 t) → (r ≠ 0 → kW μ' 45) → P r μ') : jj_mMa_make X (d + 5) 0 (ab_la [36, s, 45]) [] μ P := by
  have hs' : s = 16 ∨ s = 26 := hs
  have gl := t.g
  refine bk_mMa_make_0 rfl hs (Or.inl rfl) fun μ1 e1 μ2 e2 => ?_
  have e1 : μ1 = ab_mu μ 36 0 s := e1
  have e2 : μ2 = ab_mu μ1 36 1 45 := e2
  have v0 : μ2 36 0 = s := by rw [e2, ab_mud, if_neg (by omega), e1, ab_mud, if_pos ⟨rfl, rfl⟩]
  have v1 : μ2 36 1 = 45 := by rw [e2, ab_mud, if_pos ⟨rfl, rfl⟩]
  have g2 : ∀ c j, c ≠ 36 → μ2 c j = μ c j := fun c j y => by rw [e2, mu_ne y, e1, mu_ne y]
  rw [v0, v1]
  refine ⟨hs, Or.inl rfl, c_mCo_begin (Or.inl rfl) (sc5 hs) (by omega) fun μ3 f3 n3 r3 i3 s3 μ4 e4 μ5 e5 => ?_⟩
  have f3 : ∀ c j, ¬ (c = 45 ∧ (j = 5 ∨ j = 6 ∨ j = 7)) → c ≠ 51 → μ3 c j = μ2 c j := fun c j y1 y2 => f3 c j y1 (by omega)
  have s3 : ∀ j, 0 ≤ j → j < 8 → μ3 51 j = μ2 (s + 5) j := s3
  refine c_mArr_fill (n := 3002) ⟨38, rfl, by decide, by decide⟩ (by decide) fun μ6 f6 v6 => ?_
  have g6 : ∀ c j, c ≠ 38 → ¬ (c = 36 ∧ (j = 9 ∨ j = 12)) → μ6 c j = μ3 c j := fun c j y1 y2 => by rw [f6 c j y1, e5, ab_mud, if_neg (by omega), e4, ab_mud, if_neg (by omega)]
  have v60 : μ6 36 0 = s := by rw [g6 36 0 (by decide) (by omega), f3 36 0 (by omega) (by decide)]; exact v0
  have v61 : μ6 36 1 = 45 := by rw [g6 36 1 (by decide) (by omega), f3 36 1 (by omega) (by decide)]; exact v1
  have fr6 : ∀ c j, ¬ (36 ≤ c ∧ c ≤ 51) → μ6 c j = μ c j := fun c j y => by rw [g6 c j (by omega) (by omega), f3 c j (by omega) (by omega)]; exact g2 c j (by omega)
  have t6 : scW μ6 s Γ N dn := t.same fun c j a b => fr6 c j (by omega)
  have h51 : ∀ j, 0 ≤ j → j < 8 → μ6 51 j = μ6 (s + 5) j := fun j a b => by
    rw [g6 51 j (by decide) (by omega), s3 j a b, fr6 (s + 5) j (by omega)]; exact g2 _ j (by omega)
  obtain ⟨b1, b2, b3, b4⟩ := t6.st
  have e56 : ∀ j, j = 5 ∨ j = 6 ∨ j = 7 → μ6 45 j = 0 := fun j z => by
    rw [g6 45 j (by decide) (by omega)]
    rcases z with z | z | z <;> rw [z]
    · exact n3
    · exact r3
    · exact i3
  have h37 : ∀ t, 0 ≤ t → t < 3002 → 0 ≤ μ6 37 t := fun t a b => by
    rw [g6 37 t (by decide) (by omega), f3 37 t (by omega) (by decide), g2 37 t (by decide)]; exact hbg t a b
  have hP' : ∀ r μ', (r = 0 ∨ r = 1) → fMa μ6 μ' → (∀ t, 0 ≤ t → t < 3002 → 0 ≤ μ' 37 t) → (r ≠ 0 → kW μ' 45) → P r μ' := fun r μ' a f c e => hP r μ' a (fun c j y => by rw [f c j (by omega) (by omega)]; exact fr6 c j y) c e
  -- the globals
  have s44 : ∀ (q : Nat) (l : ab_l) (μ7 : ab_m) (k : Int), l 0 = 36 → l 1 = s → l 2 = 45 → l 3 = k → 0 ≤ k → k ≤ μ6 s 6 → (μ6 s 6 - k).toNat = q → (∀ c j, ¬ (c = 45 ∧ j = 6) → c ≠ 40 → μ7 c j = μ6 c j) → μ7 45 6 = k → (∀ y, 0 ≤ y → y < k → cR μ7 (μ7 40 y)) → jj_mMa_make X (d + 5) 44 l [] μ7 P := by
    intro q
    induction q with
    | zero =>
      intro l μ7 k l0 l1 l2 l3 k0 k1 eq f v6' hu
      have x0 : μ7 36 0 = s := by rw [f 36 0 (by omega) (by decide)]; exact v60
      refine bk_mMa_make_44 l0 (by rw [l1]; exact hs) (by rw [l2]; exact Or.inl rfl) ?_
      rw [x0, f s 6 (by omega) (by omega), f s 5 (by omega) (by omega), l3]
      refine ⟨hs, fun _ μ8 e8 => ?_, fun y => by omega⟩
      have g8 : ∀ c j, ¬ (c = 36 ∧ j = 2) → μ8 c j = μ7 c j := fun c j y => by rw [e8, ab_mud, if_neg y]
      have x1 : μ8 36 1 = 45 := by rw [g8 36 1 (by omega), f 36 1 (by omega) (by decide)]; exact v61
      have fr8 : fMa μ6 μ8 := fun c j y1 y2 => by rw [g8 c j (by omega)]; exact f c j (by omega) (by omega)
      have h8 : ∀ t, 0 ≤ t → t < 3002 → 0 ≤ μ8 37 t := fun t a b => by rw [g8 37 t (by omega), f 37 t (by omega) (by decide)]; exact h37 t a b
      have i7 : μ8 45 7 = 0 := by rw [g8 45 7 (by omega), f 45 7 (by omega) (by decide)]; exact e56 7 (by omega)
      have i5 : μ8 45 5 = 0 := by rw [g8 45 5 (by omega), f 45 5 (by omega) (by decide)]; exact e56 5 (by omega)
      have i6 : μ8 45 6 = k := by rw [g8 45 6 (by omega)]; exact v6'
      rw [x1]
      refine ⟨Or.inl rfl, c_mCo_fits (Or.inl rfl) (fun z => ?_) fun z1 z2 => ?_⟩
      · -- too many ints
        refine bk_mMa_make_97 l0 (by show ab_is 10 (l 1); rw [l1]; exact hs) (by show ab_is 1 (l 2); rw [l2]; exact Or.inl rfl) ?_
        rw [x1]
        have ft : jj_mCo_fits X (d + 4) 0 (ab_la [45]) [] μ8 (fun r μ1 => (0 ≤ r ∧ r ≤ 1) ∧ P r μ1) := c_mCo_fits (Or.inl rfl) (fun _ => ⟨by omega, hP' 0 μ8 (Or.inl rfl) fr8 h8 fun y => absurd rfl y⟩) fun a b => absurd ⟨a, b⟩ z
        exact ⟨fun _ => ⟨Or.inl rfl, ft⟩, fun _ => ⟨fun _ => ⟨Or.inl rfl, ft⟩, fun y => absurd rfl y⟩⟩
      · refine c_mMa_make97 hs t6 h51 hP' _ _ μ8 [] 0 (μ6 s 5) 1000000 l0 l1 l2 (show (1 : Int) ≠ 0 by decide) rfl (by omega) rfl b1.1 b1.2 ⟨b2, rfl⟩ trivial fr8 ?_ i7 ?_
        · refine ⟨fun _ _ _ _ => rfl, by rw [g8 36 0 (by omega)]; exact ⟨x0, x1⟩, by rw [e8, ab_mud, if_pos ⟨rfl, rfl⟩], ?_, ?_, z2, by rw [b3]; omega, fun _ => 0, ⟨⟨by omega, by omega, fun i a b => by omega, fun i z => absurd rfl z, fun t a b => ⟨[], ?_, fun i => ⟨fun z => by have z : (0 : Int) = t + 1 := z; omega, fun z => absurd z List.not_mem_nil⟩⟩⟩, fun j a b => ?_, fun y hy => ?_, fun y hy => ?_, fun i a b => by simp at b; omega, h8⟩, fun i z => absurd rfl z⟩
          · rw [b3, g8 36 9 (by omega), f 36 9 (by omega) (by decide), f6 36 9 (by decide), e5, ab_mud, if_neg (by omega), e4, ab_mud, if_pos ⟨rfl, rfl⟩]; rfl
          · rw [g8 36 12 (by omega), f 36 12 (by omega) (by decide), f6 36 12 (by decide), e5, ab_mud, if_pos ⟨rfl, rfl⟩]; rfl
          · show μ8 38 t = -1
            rw [g8 38 t (by omega), f 38 t (by omega) (by decide)]; exact v6 t a b
          · rw [b3] at b; omega
          · rcases hy with hy | ⟨x, hx, -⟩
            · rcases hy with hy | hy | ⟨j, j0, j1, j2, j3, j4⟩
              · have := hu y hy.1 (by omega)
                rw [g8 40 y (by omega)]
                exact this.le (by rw [i6]; omega)
              · rw [b2] at hy; have := hy.1; omega
              · exact (t6.first j0 j1 b1.2 j2 b4).elim
            · exact absurd hx List.not_mem_nil
          · rcases hy with ⟨j, j0, j1, j2, j3⟩ | ⟨x, hx, -⟩
            · exact (t6.first j0 j1 b1.2 j2 b4).elim
            · exact absurd hx List.not_mem_nil
        · have p1 := (t6.ph b1.1 b1.2).2
          have q1 := (t6.k _ b1.1 b1.2).q
          have dr := (t6.k _ b1.1 b1.2).dr
          show (1000000 : Int) - 1000000 ≤ 200 * μ8 45 5 + (scP μ6 s Γ dn (μ6 s 5) + 0) + 10
          have : -2 ≤ scP μ6 s Γ dn (μ6 s 5) := by
            unfold scP
            rw [b2, b3, if_neg (show ¬ dn < dn by omega)]
            split <;> omega
          omega
    | succ q ih =>
      intro l μ7 k l0 l1 l2 l3 k0 k1 eq f v6' hu
      have x0 : μ7 36 0 = s := by rw [f 36 0 (by omega) (by decide)]; exact v60
      have x1 : μ7 36 1 = 45 := by rw [f 36 1 (by omega) (by decide)]; exact v61
      have g1499 : μ6 s 6 ≤ 1499 := t6.g.2
      refine bk_mMa_make_44 l0 (by rw [l1]; exact hs) (by rw [l2]; exact Or.inl rfl) ?_
      rw [x0, x1, f s 6 (by omega) (by omega), l3]
      refine ⟨hs, fun y => by omega, fun z => ⟨Or.inl rfl, bk_mCo_takeRegister_0 (Or.inl rfl) fun μ8 e8 => ?_⟩⟩
      have e8 : μ8 = ab_mu μ7 45 6 (ab_w (μ7 45 6 + 1)) := e8
      rw [v6', show ab_w (k + 1) = k + 1 from ab_wi (by omega) (by omega)] at e8
      have v8 : μ8 45 6 = k + 1 := by rw [e8, ab_mud, if_pos ⟨rfl, rfl⟩]
      show (0 ≤ k ∧ k < 3000) ∧ ∀ μ12, μ12 = ab_mu μ8 40 k (ab_w (μ8 45 6 - 1)) → _
      rw [v8, show ab_w (k + 1 - 1) = k by rw [ab_wi (by omega) (by omega)]; omega, show ab_w (k + 1) = k + 1 from ab_wi (by omega) (by omega)]
      refine ⟨by omega, fun μ9 e9 => ih _ μ9 (k + 1) l0 l1 l2 rfl (by omega) (by omega) (by omega) (fun c j y1 y2 => by rw [e9, mu_ne y2, e8, ab_mud, if_neg y1]; exact f c j y1 y2) (by rw [e9, mu_ne (by decide)]; exact v8) fun y y0 y1 => ?_⟩
      have v9 : μ9 45 6 = k + 1 := by rw [e9, mu_ne (by decide)]; exact v8
      by_cases e : y = k
      · rw [e, e9, ab_mud, if_pos ⟨rfl, rfl⟩]; exact ⟨k0, by rw [mu_ne (by decide), v8]; omega⟩
      · rw [e9, ab_mud, if_neg (fun q => e q.2), e8, mu_ne (by decide)]
        have := hu y y0 (by omega)
        exact ⟨this.1, by rw [mu_ne (by decide)]; have h2 := this.2; rw [v6'] at h2; rw [show (ab_mu μ7 45 6 (k + 1)) 45 6 = k + 1 from by rw [ab_mud, if_pos ⟨rfl, rfl⟩]]; omega⟩
  exact s44 _ _ μ6 0 rfl rfl rfl rfl (by omega) (by rw [fr6 s 6 (by omega)]; exact gl.1) rfl (fun _ _ _ _ => rfl) (e56 6 (by omega)) fun y a b => by omega
end K20

/-! THE CLASS, part k21: Words -/
section K21
variable {X : jm_X} {d : Nat} {P : Int → ab_m → Prop} {μ μ' μ0 : ab_m}
/-- the bytes that a word has at least -/
def wt (k : Int) : Int := if k = 21 ∨ k = 22 ∨ k = 47 then 2 else 1
theorem wt1 (k : Int) : 1 ≤ wt k ∧ wt k ≤ 2 := by unfold wt; split <;> decide
end K21
/-- C words, up to place a -/
def wP (μ : ab_m) (C a : Int) : Prop := (0 ≤ C ∧ C ≤ a) ∧ (∀ i, 0 ≤ i → i < C → 0 ≤ μ 5 i ∧ μ 5 i + wt (μ 4 i) ≤ (if i + 1 < C then μ 5 (i + 1) else a) ∧ (2 ≤ μ 4 i ∧ μ 4 i ≤ 47 ∧ μ 4 i ≠ 34 ∧ μ 4 i ≠ 35))
theorem wP.c {μ : ab_m} {C a : Int} (h'' : wP μ C a) : 0 ≤ C ∧ C ≤ a := h''.1
theorem wP.p {μ : ab_m} {C a : Int} (h'' : wP μ C a) : ∀ i, 0 ≤ i → i < C → 0 ≤ μ 5 i ∧ μ 5 i + wt (μ 4 i) ≤ (if i + 1 < C then μ 5 (i + 1) else a) ∧ (2 ≤ μ 4 i ∧ μ 4 i ≤ 47 ∧ μ 4 i ≠ 34 ∧ μ 4 i ≠ 35) := h''.2
section K21
variable {X : jm_X} {d : Nat} {P : Int → ab_m → Prop} {μ μ' μ0 : ab_m}
end K21
/-- all words of a tape -/
def wW (μ : ab_m) (C : Int) : Prop := (1 ≤ C ∧ C ≤ 3001) ∧ (∀ i, 0 ≤ i → i < C - 1 → 0 ≤ μ 5 i ∧ μ 5 i + wt (μ 4 i) ≤ μ 5 (i + 1) ∧ (2 ≤ μ 4 i ∧ μ 4 i ≤ 47 ∧ μ 4 i ≠ 34 ∧ μ 4 i ≠ 35)) ∧ ((μ 4 (C - 1) = 34 ∨ μ 4 (C - 1) = 35) ∧ 0 ≤ μ 5 (C - 1) ∧ μ 5 (C - 1) ≤ 3000)
theorem wW.c {μ : ab_m} {C : Int} (h'' : wW μ C) : 1 ≤ C ∧ C ≤ 3001 := h''.1
theorem wW.p {μ : ab_m} {C : Int} (h'' : wW μ C) : ∀ i, 0 ≤ i → i < C - 1 → 0 ≤ μ 5 i ∧ μ 5 i + wt (μ 4 i) ≤ μ 5 (i + 1) ∧ (2 ≤ μ 4 i ∧ μ 4 i ≤ 47 ∧ μ 4 i ≠ 34 ∧ μ 4 i ≠ 35) := h''.2.1
theorem wW.l {μ : ab_m} {C : Int} (h'' : wW μ C) : (μ 4 (C - 1) = 34 ∨ μ 4 (C - 1) = 35) ∧ 0 ≤ μ 5 (C - 1) ∧ μ 5 (C - 1) ≤ 3000 := h''.2.2
section K21
variable {X : jm_X} {d : Nat} {P : Int → ab_m → Prop} {μ μ' μ0 : ab_m}
/-- nothing but words -/
def fWo (μ μ' : ab_m) : Prop := ∀ c j, ¬ (4 ≤ c ∧ c ≤ 6) → ¬ (c = 3 ∧ j = 3) → μ' c j = μ c j
theorem c_mWo_add {k p v z : Int} (h : 0 ≤ μ 3 3 ∧ μ 3 3 < 3001) (hP : ∀ μ', fWo μ μ' → μ' 3 3 = μ 3 3 + 1 → μ' 4 (μ 3 3) = k → μ' 5 (μ 3 3) = p → (∀ c j, c = 4 ∨ c = 5 → j ≠ μ 3 3 → μ' c j = μ c j) → P 0 μ') : jj_mWo_add X d 0 (ab_la [3, k, p, v, z]) [] μ P := by
  refine bk_mWo_add_0 rfl ⟨fun y => by omega, fun _ => ⟨h, fun μ1 e1 => ?_⟩⟩
  have g1 : μ1 3 3 = μ 3 3 := by rw [e1, mu_ne (by decide)]
  rw [g1]
  refine ⟨h, fun μ2 e2 => ?_⟩
  have g2 : μ2 3 3 = μ 3 3 := by rw [e2, mu_ne (by decide)]; exact g1
  rw [g2]
  refine ⟨h, fun μ3 e3 μ4 e4 => ?_⟩
  have g3 : μ3 3 3 = μ 3 3 := by rw [e3, mu_ne (by decide)]; exact g2
  rw [g3, show ab_w (μ 3 3 + 1) = μ 3 3 + 1 from ab_wi (by omega) (by omega)] at e4
  refine hP μ4 (fun c j y1 y2 => ?_) ?_ ?_ ?_ fun c j y1 y2 => ?_
  · rw [e4, ab_mud, if_neg y2, e3, ab_mud, if_neg (by omega), e2, ab_mud, if_neg (by omega), e1, ab_mud, if_neg (by omega)]
  · rw [e4, ab_mud, if_pos ⟨rfl, rfl⟩]
  · rw [e4, mu_ne (by decide), e3, mu_ne (by decide), e2, mu_ne (by decide), e1, ab_mud, if_pos ⟨rfl, rfl⟩]; rfl
  · rw [e4, mu_ne (by decide), e3, mu_ne (by decide), e2, ab_mud, if_pos ⟨rfl, rfl⟩]; rfl
  · rw [e4, ab_mud, if_neg (by omega), e3, ab_mud, if_neg (by omega), e2, ab_mud, if_neg (by omega), e1, ab_mud, if_neg (by omega)]
/-- the state of a split: so many words, up to a; or it has come to its end -/
def wJ (μ : ab_m) (S a : Int) : Prop := (0 ≤ a ∧ a ≤ S) ∧ ((wP μ (μ 3 3) a) ∨ (a = S ∧ wW μ (μ 3 3) ∧ μ 4 (μ 3 3 - 1) = 35))
theorem wP.more {C a k a' : Int} (h : wP μ C a) (e3 : μ' 3 3 = C + 1) (e4 : μ' 4 C = k) (e5 : μ' 5 C = a) (f : ∀ c j, c = 4 ∨ c = 5 → j ≠ C → μ' c j = μ c j) (hk : 2 ≤ k ∧ k ≤ 47 ∧ k ≠ 34 ∧ k ≠ 35) (ha : a + wt k ≤ a') : wP μ' (μ' 3 3) a' := by
  have c := h.c
  have w := wt1 k
  rw [e3]
  refine ⟨by omega, fun i a0 a1 => ?_⟩
  by_cases e : i = C
  · subst e; rw [e4, e5, if_neg (by omega)]; exact ⟨by omega, ha, hk⟩
  · rw [f 4 i (by omega) e, f 5 i (by omega) e, if_pos (by omega)]
    obtain ⟨p1, p2, p3⟩ := h.p i a0 (by omega)
    refine ⟨p1, ?_, p3⟩
    by_cases e2 : i + 1 = C
    · rw [e2, e5]; rw [if_neg (by omega)] at p2; exact p2
    · rw [f 5 (i + 1) (by omega) e2]; rw [if_pos (by omega)] at p2; exact p2
/-- the last word: END or BAD -/
theorem wP.fin {C a k p : Int} (h : wP μ C a) (e3 : μ' 3 3 = C + 1) (e4 : μ' 4 C = k) (e5 : μ' 5 C = p) (f : ∀ c j, c = 4 ∨ c = 5 → j ≠ C → μ' c j = μ c j) (hk : k = 34 ∨ k = 35) (hp : a ≤ p ∧ p ≤ 3000) : wW μ' (μ' 3 3) := by
  have c := h.c
  rw [e3]
  refine ⟨by omega, fun i a0 a1 => ?_, ?_⟩
  · rw [f 4 i (by omega) (by omega), f 5 i (by omega) (by omega)]
    obtain ⟨p1, p2, p3⟩ := h.p i a0 (by omega)
    refine ⟨p1, ?_, p3⟩
    by_cases e2 : i + 1 = C
    · rw [e2, e5]; rw [if_neg (by omega)] at p2; omega
    · rw [f 5 (i + 1) (by omega) e2]; rw [if_pos (by omega)] at p2; exact p2
  · rw [show C + 1 - 1 = C by omega, e4, e5]; omega
theorem c_mWo_stopAt {S a : Int} (h5 : μ 3 5 = S) (S3 : S ≤ 3000) (h : wP μ (μ 3 3) a) (ha : 0 ≤ a ∧ a ≤ S) (hP : ∀ μ', fWo μ μ' → wJ μ' S S → P S μ') : jj_mWo_stopAt X (d + 1) 0 (ab_la [3, a]) [] μ P := by
  have c := h.c
  refine bk_mWo_stopAt_0 rfl (c_mWo_add (by omega) fun μ1 f1 e3 e4 e5 g => ?_)
  rw [f1 3 5 (by omega) (by omega), h5]
  exact hP μ1 f1 ⟨by omega, Or.inr ⟨rfl, h.fin e3 e4 e5 g (Or.inr rfl) (by show a ≤ a ∧ a ≤ 3000; omega), by rw [e3, show μ 3 3 + 1 - 1 = μ 3 3 by omega]; exact e4⟩⟩
theorem c_mWo_isLetter {x : Int} (h1 : 97 ≤ x → x ≤ 122 → P 1 μ) (h0 : P 0 μ) : jj_mWo_isLetter X d 0 (ab_la [x]) [] μ P := by
  refine bk_mWo_isLetter_0 ?_
  simp only [la0]
  exact ⟨fun _ => h0, fun z => ⟨fun _ => h0, fun z2 => h1 z z2⟩⟩
theorem c_mWo_isFigure {x : Int} (h1 : 48 ≤ x → x ≤ 57 → P 1 μ) (h0 : P 0 μ) : jj_mWo_isFigure X d 0 (ab_la [x]) [] μ P := by
  refine bk_mWo_isFigure_0 ?_
  simp only [la0]
  exact ⟨fun _ => h0, fun z => ⟨fun _ => h0, fun z2 => h1 z z2⟩⟩
theorem lor1 {x : Int} (h : 48 ≤ x ∧ x ≤ 122) : ab_lorL (ab_shlL 0 8) x = x := by
  have k : ∀ k : Fin 128, ab_lorL (ab_shlL 0 8) (k.val : Int) = (k.val : Int) := by decide +kernel
  have := k ⟨x.toNat, by omega⟩
  rwa [show ((x.toNat : Nat) : Int) = x by omega] at this
theorem key11 : ab_key 11 > 1000 := by decide +kernel
set_option maxHeartbeats 1000000 in
theorem c_mWo_takeName {S a : Int} (h4 : μ 3 4 = 1) (h5 : μ 3 5 = S) (S3 : S ≤ 3000) (h : wP μ (μ 3 3) a) (ha : 0 ≤ a ∧ a < S) (hl : 97 ≤ μ 1 a ∧ μ 1 a ≤ 122) (hP : ∀ r μ', fWo μ μ' → a < r → wJ μ' S r → P r μ') : jj_mWo_takeName X (d + 2) 0 (ab_la [3, a]) [] μ P := by
  have c := h.c
  have arr : ab_arr 0 3000 1 := ⟨1, rfl, by decide, by decide⟩
  have s76 : ∀ (m : Nat) (l : ab_l) (t i k x : Int), l 0 = 3 → l 1 = a → l 2 = t → l 3 = x → l 5 = k → l 6 = i → 0 ≤ i → i ≤ 12 → (12 - i).toNat = m → a < t → t ≤ S → (t = a + 1 → x ≤ 122) → (33 ≤ k ∧ k ≤ 47 ∧ k ≠ 34 ∧ k ≠ 35) → (k = 47 → a + 2 ≤ t) → jj_mWo_takeName X (d + 2) 76 l [] μ P := by
    intro m
    induction m using Nat.strongRecOn with
    | ind m ih =>
      intro l t i k x l0 l1 l2 l3 l5 l6 i0 i1 em t0 t1 hx hk h47
      refine bk_mWo_takeName_76 l0 ?_
      rw [l1, l2, l3, l5, l6, show ab_w (i + 1) = i + 1 from ab_wi (by omega) (by omega), show ab_w (36 + i) = 36 + i from ab_wi (by omega) (by omega)]
      refine ⟨fun _ => c_mWo_add (by omega) fun μ1 f1 e3 e4 e5 g => hP t μ1 f1 t0 ⟨by omega, Or.inl (h.more e3 e4 e5 g (by show 2 ≤ k ∧ k ≤ 47 ∧ k ≠ 34 ∧ k ≠ 35; omega) ?_)⟩, fun z => ⟨by omega, fun _ => ih _ (by omega) _ t (i + 1) k x l0 l1 l2 l3 l5 rfl (by omega) (by omega) rfl t0 t1 hx hk h47, fun y => ih _ (by omega) _ t (i + 1) (36 + i) x l0 l1 l2 l3 rfl rfl (by omega) (by omega) rfl t0 t1 hx (by omega) fun z => ?_⟩⟩
      · show a + wt k ≤ t
        unfold wt
        by_cases q : k = 47
        · rw [if_pos (by omega)]; exact h47 q
        · rw [if_neg (by omega)]; omega
      · have i11 : i = 11 := by omega
        rw [i11] at y
        have k11 := key11
        by_cases q : t = a + 1
        · have := hx q; omega
        · omega
  have s55 : ∀ (l : ab_l) (t x : Int), l 0 = 3 → l 1 = a → l 2 = t → l 3 = x → a < t → t ≤ S → (t = a + 1 → x ≤ 122) → jj_mWo_takeName X (d + 2) 55 l [] μ P := by
    intro l t x l0 l1 l2 l3 t0 t1 hx
    refine bk_mWo_takeName_55 l0 ?_
    rw [l1]
    exact ⟨fun _ => s76 _ _ t 0 33 x l0 l1 l2 l3 rfl rfl (by omega) (by omega) rfl t0 t1 hx (by omega) (by omega), fun _ => c_mWo_stopAt h5 S3 h (by omega) fun μ1 f1 j1 => hP S μ1 f1 (by omega) j1⟩
  have s4 : ∀ (m : Nat) (l : ab_l) (t x : Int), l 0 = 3 → l 1 = a → l 2 = t → l 3 = x → a ≤ t → t ≤ S → (S - t).toNat = m → (t = a → x = 0) → (t = a + 1 → x ≤ 122) → jj_mWo_takeName X (d + 2) 4 l [] μ P := by
    intro m
    induction m using Nat.strongRecOn with
    | ind m ih =>
      intro l t x l0 l1 l2 l3 t0 t1 em hx0 hx1
      refine bk_mWo_takeName_4 l0 ?_
      rw [l2, l3, h5, h4, show ab_w (t + 1) = t + 1 from ab_wi (by omega) (by omega)]
      refine ⟨fun z => s55 _ t x l0 l1 l2 l3 (by omega) t1 hx1, fun z => ⟨3000, arr, by omega, ?_⟩⟩
      have on : ∀ {b : Int}, b = μ 1 t → 48 ≤ b → b ≤ 122 → jj_mWo_takeName X (d + 2) 4 (ab_up (ab_up l 3 (ab_lorL (ab_shlL x 8) (μ 1 t))) 2 (t + 1)) [] μ P := fun {b} eb b0 b1 => ih _ (by omega) _ (t + 1) _ l0 l1 rfl rfl (by omega) (by omega) rfl (fun y => by omega) fun y => by
        have et : t = a := by omega
        rw [hx0 et, ← eb, lor1 ⟨b0, b1⟩]; exact b1
      have no : jj_mWo_isFigure X (d + 1) 0 (ab_la [μ 1 t]) [] μ (fun r6 μ5 => (r6 = 0 → jj_mWo_takeName X (d + 2) 55 l [] μ5 P) ∧ (r6 ≠ 0 → ∃ n8, ab_arr 0 n8 (μ5 3 4) ∧ (0 ≤ t ∧ t < n8) ∧ jj_mWo_takeName X (d + 2) 4 (ab_up (ab_up l 3 (ab_lorL (ab_shlL x 8) (μ5 (μ5 3 4) t))) 2 (t + 1)) [] μ5 P)) ∨ t = a := by
        by_cases q : t = a
        · exact Or.inr q
        · refine Or.inl (c_mWo_isFigure (fun b0 b1 => ⟨fun y => absurd y (by decide), fun _ => ?_⟩) ⟨fun _ => s55 _ t x l0 l1 l2 l3 (by omega) t1 hx1, fun y => absurd rfl y⟩)
          rw [h4]
          exact ⟨3000, arr, by omega, on rfl (by omega) (by omega)⟩
      by_cases q : t = a
      · refine bk_mWo_isLetter_0 ?_
        simp only [la0]
        have hl' : 97 ≤ μ 1 t ∧ μ 1 t ≤ 122 := by rw [q]; exact hl
        refine ⟨fun y => by omega, fun y => ⟨fun y => by omega, fun _ => ⟨fun _ => ?_, fun y => absurd y (by decide)⟩⟩⟩
        rw [h4]
        exact ⟨3000, arr, by omega, on rfl (by omega) (by omega)⟩
      · refine c_mWo_isLetter (fun b0 b1 => ⟨fun _ => ?_, fun y => absurd y (by decide)⟩) ⟨fun y => absurd rfl y, fun _ => ?_⟩
        · rw [h4]
          exact ⟨3000, arr, by omega, on rfl (by omega) (by omega)⟩
        · rw [h4]
          exact ⟨3000, arr, by omega, no.resolve_right q⟩
  exact bk_mWo_takeName_0 rfl (s4 _ _ a 0 rfl rfl rfl rfl (by omega) (by omega) rfl (fun _ => rfl) fun y => by omega)
theorem c_mWo_takeNumber {S a : Int} (h4 : μ 3 4 = 1) (h5 : μ 3 5 = S) (S3 : S ≤ 3000) (h : wP μ (μ 3 3) a) (ha : 0 ≤ a ∧ a < S) (hl : 48 ≤ μ 1 a ∧ μ 1 a ≤ 57) (hP : ∀ r μ', fWo μ μ' → a < r → wJ μ' S r → P r μ') : jj_mWo_takeNumber X (d + 2) 0 (ab_la [3, a]) [] μ P := by
  have c := h.c
  have arr : ab_arr 0 3000 1 := ⟨1, rfl, by decide, by decide⟩
  have fin : ∀ (t x : Int), a < t → t ≤ S → jj_mWo_add X (d + 1) 0 (ab_la [3, 32, a, x, 0]) [] μ (fun _ μ1 => P t μ1) := fun t x t0 t1 => c_mWo_add (by omega) fun μ1 f1 e3 e4 e5 g => hP t μ1 f1 t0 ⟨by omega, Or.inl (h.more e3 e4 e5 g (by decide) (by show a + wt 32 ≤ t; unfold wt; rw [if_neg (by decide)]; omega))⟩
  have s4 : ∀ (m : Nat) (l : ab_l) (t x : Int), l 0 = 3 → l 1 = a → l 2 = t → l 3 = x → a ≤ t → t ≤ S → (S - t).toNat = m → jj_mWo_takeNumber X (d + 2) 4 l [] μ P := by
    intro m
    induction m using Nat.strongRecOn with
    | ind m ih =>
      intro l t x l0 l1 l2 l3 t0 t1 em
      refine bk_mWo_takeNumber_4 l0 ?_
      rw [l1, l2, l3, h5, h4, show ab_w (t + 1) = t + 1 from ab_wi (by omega) (by omega)]
      refine ⟨fun z => fin t x (by omega) t1, fun z => ⟨3000, arr, by omega, ?_⟩⟩
      refine bk_mWo_isFigure_0 ?_
      show (μ 1 t < 48 → _) ∧ (48 ≤ μ 1 t → (57 < μ 1 t → _) ∧ (μ 1 t ≤ 57 → _))
      have ok : ∀ r5 : Int, r5 = 1 → (r5 = 0 → jj_mWo_add X (d + 1) 0 (ab_la [3, 32, a, x, 0]) [] μ (fun _ μ7 => P t μ7)) ∧ (r5 ≠ 0 → ∃ n15, ab_arr 0 n15 (μ 3 4) ∧ (0 ≤ t ∧ t < n15) ∧ (ab_W (ab_W (x * 10) + ab_w (μ (μ 3 4) t - 48)) ≤ 2147483647 → jj_mWo_takeNumber X (d + 2) 4 (ab_up (ab_up l 3 (ab_W (ab_W (x * 10) + ab_w (μ (μ 3 4) t - 48)))) 2 (t + 1)) [] μ P) ∧ (2147483647 < ab_W (ab_W (x * 10) + ab_w (μ (μ 3 4) t - 48)) → jj_mWo_stopAt X (d + 1) 0 (ab_la [3, a]) [] μ (fun r11 μ10 => P r11 μ10))) := fun r5 e => ⟨fun y => by omega, fun _ => by
        rw [h4]
        exact ⟨3000, arr, by omega, fun _ => ih _ (by omega) _ (t + 1) _ l0 l1 rfl rfl (by omega) (by omega) rfl, fun _ => c_mWo_stopAt h5 S3 h (by omega) fun μ1 f1 j1 => hP S μ1 f1 (by omega) j1⟩⟩
      have ne : ∀ r5 : Int, r5 = 0 → a < t → (r5 = 0 → jj_mWo_add X (d + 1) 0 (ab_la [3, 32, a, x, 0]) [] μ (fun _ μ7 => P t μ7)) ∧ (r5 ≠ 0 → ∃ n15, ab_arr 0 n15 (μ 3 4) ∧ (0 ≤ t ∧ t < n15) ∧ (ab_W (ab_W (x * 10) + ab_w (μ (μ 3 4) t - 48)) ≤ 2147483647 → jj_mWo_takeNumber X (d + 2) 4 (ab_up (ab_up l 3 (ab_W (ab_W (x * 10) + ab_w (μ (μ 3 4) t - 48)))) 2 (t + 1)) [] μ P) ∧ (2147483647 < ab_W (ab_W (x * 10) + ab_w (μ (μ 3 4) t - 48)) → jj_mWo_stopAt X (d + 1) 0 (ab_la [3, a]) [] μ (fun r11 μ10 => P r11 μ10))) := fun r5 e lt => ⟨fun _ => fin t x lt t1, fun y => absurd e y⟩
      have lt : μ 1 t < 48 ∨ 57 < μ 1 t → a < t := fun y => by
        by_cases q : t = a
        · rw [q] at y; omega
        · omega
      exact ⟨fun y => ne 0 rfl (lt (Or.inl y)), fun _ => ⟨fun y => ne 0 rfl (lt (Or.inr y)), fun _ => ok 1 rfl⟩⟩
  exact bk_mWo_takeNumber_0 rfl (s4 _ _ a 0 rfl rfl rfl rfl (by omega) (by omega) rfl)
end K21

/-! THE CLASS, part k22: Words whole; names; steps -/
section K22
variable {X : jm_X} {d : Nat} {P : Int → ab_m → Prop} {μ μ' μ0 : ab_m} {s : Int}
theorem c_mWo_longSign {x y : Int} (h : ∀ r, r = -1 ∨ (y ≠ 0 ∧ ((10 ≤ r ∧ r ≤ 17) ∨ r = 21 ∨ r = 22)) → P r μ) : jj_mWo_longSign X d 0 (ab_la [x, y]) [] μ P := by
  refine bk_mWo_longSign_0 ?_
  show (y ≠ 61 → (x = y → _) ∧ (x ≠ y → _)) ∧ (y = 61 → _)
  exact ⟨fun _ => ⟨fun e => ⟨⟨fun (z : x = 38) => h _ (by omega), fun (z : x = 60) => h _ (by omega), fun (z : x = 62) => h _ (by omega), fun (z : x = 124) => h _ (by omega), trivial⟩, fun _ => h _ (Or.inl rfl)⟩, fun _ => h _ (Or.inl rfl)⟩, fun e => ⟨⟨fun _ => h _ (by omega), fun _ => h _ (by omega), fun _ => h _ (by omega), fun _ => h _ (by omega), trivial⟩, fun _ => h _ (Or.inl rfl)⟩⟩
theorem c_mWo_shortSign {x : Int} (h : ∀ r, r = -1 ∨ (2 ≤ r ∧ r ≤ 31 ∧ r ≠ 21 ∧ r ≠ 22) → P r μ) : jj_mWo_shortSign X d 0 (ab_la [x]) [] μ P :=
  bk_mWo_shortSign_0 ⟨⟨fun _ => h _ (by omega), fun _ => h _ (by omega), fun _ => h _ (by omega), fun _ => h _ (by omega), fun _ => h _ (by omega), fun _ => h _ (by omega), fun _ => h _ (by omega), fun _ => h _ (by omega), fun _ => h _ (by omega), fun _ => h _ (by omega), fun _ => h _ (by omega), fun _ => h _ (by omega), fun _ => h _ (by omega), fun _ => h _ (by omega), fun _ => h _ (by omega), fun _ => h _ (by omega), fun _ => h _ (by omega), fun _ => h _ (by omega), fun _ => h _ (by omega), fun _ => h _ (by omega), fun _ => h _ (by omega), fun _ => h _ (by omega), fun _ => h _ (by omega), fun _ => h _ (by omega), fun _ => h _ (by omega), fun _ => h _ (by omega), fun _ => h _ (by omega), fun _ => h _ (by omega), fun _ => h _ (by omega), fun _ => h _ (by omega), fun _ => h _ (by omega), fun _ => h _ (by omega), fun _ => h _ (by omega), fun _ => h _ (by omega), fun _ => h _ (by omega), fun _ => h _ (by omega), fun _ => h _ (by omega), fun _ => h _ (by omega), fun _ => h _ (by omega), fun _ => h _ (by omega), fun _ => h _ (by omega), fun _ => h _ (by omega), fun _ => h _ (by omega), fun _ => h _ (by omega), fun _ => h _ (by omega), fun _ => h _ (by omega), fun _ => h _ (by omega), fun _ => h _ (by omega), fun _ => h _ (by omega), fun _ => h _ (by omega), fun _ => h _ (by omega), fun _ => h _ (by omega), fun _ => h _ (by omega), fun _ => h _ (by omega), fun _ => h _ (by omega), fun _ => h _ (by omega), fun _ => h _ (by omega), fun _ => h _ (by omega), fun _ => h _ (by omega), fun _ => h _ (by omega), fun _ => h _ (by omega), fun _ => h _ (by omega), fun _ => h _ (by omega), fun _ => h _ (by omega), fun _ => h _ (by omega), fun _ => h _ (by omega), fun _ => h _ (by omega), fun _ => h _ (by omega), fun _ => h _ (by omega), fun _ => h _ (by omega), fun _ => h _ (by omega), fun _ => h _ (by omega), fun _ => h _ (by omega), fun _ => h _ (by omega), fun _ => h _ (by omega), fun _ => h _ (by omega), fun _ => h _ (by omega), fun _ => h _ (by omega), fun _ => h _ (by omega), fun _ => h _ (by omega), fun _ => h _ (by omega), fun _ => h _ (by omega), fun _ => h _ (by omega), fun _ => h _ (by omega), fun _ => h _ (by omega), fun _ => h _ (by omega), fun _ => h _ (by omega), fun _ => h _ (by omega), fun _ => h _ (by omega), fun _ => h _ (by omega), fun _ => h _ (by omega), fun _ => h _ (by omega), fun _ => h _ (by omega), fun _ => h _ (by omega), trivial⟩, fun _ => h _ (Or.inl rfl)⟩
theorem c_mWo_takeSign {S a : Int} (h4 : μ 3 4 = 1) (h5 : μ 3 5 = S) (S3 : S ≤ 3000) (h : wP μ (μ 3 3) a) (ha : 0 ≤ a ∧ a < S) (hP : ∀ r μ', fWo μ μ' → a < r → wJ μ' S r → P r μ') : jj_mWo_takeSign X (d + 2) 0 (ab_la [3, a]) [] μ P := by
  have c := h.c
  have arr : ab_arr 0 3000 1 := ⟨1, rfl, by decide, by decide⟩
  have s22 : ∀ y : Int, (y ≠ 0 → a + 1 < S) → jj_mWo_takeSign X (d + 2) 22 (ab_la [3, a]) [(0, y)] μ P := by
    intro y hy
    refine bk_mWo_takeSign_22 rfl ?_
    rw [h4]
    refine ⟨3000, arr, by show 0 ≤ a ∧ a < 3000; omega, c_mWo_longSign fun r hr => ⟨fun e => ?_, fun e => ?_⟩⟩
    · rw [h4]
      refine ⟨3000, arr, by show 0 ≤ a ∧ a < 3000; omega, c_mWo_shortSign fun q hq => ⟨fun e2 => c_mWo_add (by omega) fun μ1 f1 e3 e4 e5 g => ?_, fun e2 => c_mWo_stopAt (a := a) h5 S3 h (by omega) fun μ1 f1 j1 => hP S μ1 f1 (by omega) j1⟩⟩
      show P (ab_w (a + 1)) μ1
      rw [show ab_w (a + 1) = a + 1 from ab_wi (by omega) (by omega)]
      refine hP (a + 1) μ1 f1 (by omega) ⟨by omega, Or.inl (h.more e3 e4 e5 g (by omega) ?_)⟩
      show a + wt q ≤ a + 1
      unfold wt
      rw [if_neg (by omega)]; omega
    · refine c_mWo_add (by omega) fun μ1 f1 e3 e4 e5 g => ?_
      show P (ab_w (a + 2)) μ1
      rw [show ab_w (a + 2) = a + 2 from ab_wi (by omega) (by omega)]
      have := hy (by omega)
      have w := wt1 r
      exact hP (a + 2) μ1 f1 (by omega) ⟨by omega, Or.inl (h.more e3 e4 e5 g (by omega) (by show a + wt r ≤ a + 2; omega))⟩
  refine bk_mWo_takeSign_0 rfl ?_
  show (μ 3 5 ≤ ab_w (a + 1) → _) ∧ (ab_w (a + 1) < μ 3 5 → ∃ n1, ab_arr 0 n1 (μ 3 4) ∧ (0 ≤ ab_w (a + 1) ∧ ab_w (a + 1) < n1) ∧ _)
  rw [show ab_w (a + 1) = a + 1 from ab_wi (by omega) (by omega), h5, h4]
  exact ⟨fun _ => s22 0 fun y => absurd rfl y, fun z => ⟨3000, arr, by omega, s22 _ fun _ => z⟩⟩
set_option maxHeartbeats 1000000 in
theorem c_mWo_split {S : Int} (S0 : 0 ≤ S ∧ S ≤ 3000) (hP : ∀ μ', (∀ c j, ¬ (4 ≤ c ∧ c ≤ 6) → ¬ (c = 3 ∧ (3 ≤ j ∧ j ≤ 5)) → μ' c j = μ c j) → wW μ' (μ' 3 3) → P 0 μ') : jj_mWo_split X (d + 3) 0 (ab_la [3, 1, S]) [] μ P := by
  have arr : ab_arr 0 3000 1 := ⟨1, rfl, by decide, by decide⟩
  have s110 : ∀ (l : ab_l) (μ1 : ab_m) (a : Int), l 0 = 3 → l 1 = 1 → (∀ c j, ¬ (4 ≤ c ∧ c ≤ 6) → ¬ (c = 3 ∧ (3 ≤ j ∧ j ≤ 5)) → μ1 c j = μ c j) → μ1 3 5 = S → wJ μ1 S a → jj_mWo_split X (d + 3) 110 l [] μ1 P := by
    intro l μ1 a l0 l1 f h5 hj
    obtain ⟨a0, hj⟩ := hj
    refine bk_mWo_split_110 (n1 := 3000) l0 (by rw [l1]; exact arr) ?_
    rw [h5]
    have ad : ∀ {p : wP μ1 (μ1 3 3) a}, jj_mWo_add X (d + 2) 0 (ab_la [3, 34, S, 0, 0]) [] μ1 (fun _ μ2 => P 0 μ2) := fun {p} => by
      have c := p.c
      exact c_mWo_add (by omega) fun μ2 f2 e3 e4 e5 g => hP μ2 (fun c j y1 y2 => by rw [f2 c j y1 (by omega)]; exact f c j y1 y2) (p.fin e3 e4 e5 g (Or.inl rfl) (by show a ≤ S ∧ S ≤ 3000; omega))
    rcases hj with hj | ⟨e, hj, hb⟩
    · have c := hj.c
      refine ⟨fun _ => ad (p := hj), fun z => ?_⟩
      rw [show ab_w (μ1 3 3 - 1) = μ1 3 3 - 1 from ab_wi (by omega) (by omega)]
      refine ⟨by omega, fun y => ?_, fun _ => ad (p := hj)⟩
      exact absurd y (hj.p (μ1 3 3 - 1) (by omega) (by omega)).2.2.2.2.2
    · have c := hj.c
      refine ⟨fun z => by omega, fun z => ?_⟩
      rw [show ab_w (μ1 3 3 - 1) = μ1 3 3 - 1 from ab_wi (by omega) (by omega)]
      exact ⟨by omega, fun _ => hP μ1 f hj, fun y => absurd hb y⟩
  have s23 : ∀ (m : Nat) (l : ab_l) (μ1 : ab_m) (a lf : Int), l 0 = 3 → l 1 = 1 → l 3 = a → l 4 = lf → lf ≤ 3000 → lf.toNat = m → (∀ c j, ¬ (4 ≤ c ∧ c ≤ 6) → ¬ (c = 3 ∧ (3 ≤ j ∧ j ≤ 5)) → μ1 c j = μ c j) → μ1 3 5 = S → μ1 3 4 = 1 → wJ μ1 S a → jj_mWo_split X (d + 3) 23 l [] μ1 P := by
    intro m
    induction m using Nat.strongRecOn with
    | ind m ih =>
      intro l μ1 a lf l0 l1 l3 l4 lf1 em f h5 h4 hj
      refine bk_mWo_split_23 (n1 := 3000) l0 (by rw [l1]; exact arr) ?_
      rw [l3, l4, h5, h4]
      refine ⟨fun _ => s110 _ μ1 a l0 l1 f h5 hj, fun z => ⟨fun _ => s110 _ μ1 a l0 l1 f h5 hj, fun y => ⟨3000, arr, ?_⟩⟩⟩
      obtain ⟨a0, hj'⟩ := hj
      have p : wP μ1 (μ1 3 3) a := hj'.resolve_right fun q => by omega
      rw [show ab_w (a + 1) = a + 1 from ab_wi (by omega) (by omega), show ab_w (lf + -1) = lf - 1 from ab_wi (by omega) (by omega)]
      have pc := p.c
      have sp : wJ μ1 S (a + 1) := ⟨by omega, Or.inl ⟨by omega, fun i i0 i1 => by
        obtain ⟨q1, q2, q3⟩ := p.p i i0 i1
        refine ⟨q1, ?_, q3⟩
        by_cases e : i + 1 < μ1 3 3
        · rw [if_pos e] at q2 ⊢; exact q2
        · rw [if_neg e] at q2 ⊢; omega⟩⟩
      have go : ∀ (l' : ab_l) (r : Int) (μ2 : ab_m), l' 0 = 3 → l' 1 = 1 → l' 3 = r → l' 4 = lf - 1 → fWo μ1 μ2 → wJ μ2 S r → jj_mWo_split X (d + 3) 23 l' [] μ2 P := fun l' r μ2 b0 b1 b3 b4 f2 j2 => ih _ (by omega) l' μ2 r (lf - 1) b0 b1 b3 b4 (by omega) rfl (fun c j y1 y2 => by rw [f2 c j y1 (by omega)]; exact f c j y1 y2) (by rw [f2 3 5 (by omega) (by omega)]; exact h5) (by rw [f2 3 4 (by omega) (by omega)]; exact h4) j2
      refine ⟨by omega, fun _ => go _ (a + 1) μ1 l0 l1 rfl rfl (fun _ _ _ _ => rfl) sp, fun _ => ⟨fun _ => c_mWo_isLetter (fun b0 b1 => ⟨fun y => absurd y (by decide), fun _ => c_mWo_takeName h4 h5 S0.2 p ⟨a0.1, y⟩ ⟨b0, b1⟩ fun r μ2 f2 _ j2 => go _ r μ2 l0 l1 rfl rfl f2 j2⟩) ⟨fun _ => c_mWo_isFigure (fun b0 b1 => ⟨fun y => absurd y (by decide), fun _ => c_mWo_takeNumber h4 h5 S0.2 p ⟨a0.1, y⟩ ⟨b0, b1⟩ fun r μ2 f2 _ j2 => go _ r μ2 l0 l1 rfl rfl f2 j2⟩) ⟨fun _ => c_mWo_takeSign h4 h5 S0.2 p ⟨a0.1, y⟩ fun r μ2 f2 _ j2 => go _ r μ2 l0 l1 rfl rfl f2 j2, fun y => absurd rfl y⟩, fun y => absurd rfl y⟩, fun _ => go _ (a + 1) μ1 l0 l1 rfl rfl (fun _ _ _ _ => rfl) sp⟩⟩
  refine bk_mWo_split_0 (n1 := 3000) rfl arr fun μ1 e1 μ2 e2 μ3 e3 => ?_
  have e1 : μ1 = ab_mu μ 3 4 1 := e1
  have e2 : μ2 = ab_mu μ1 3 5 S := e2
  have h5 : μ3 3 5 = S := by rw [e3, ab_mud, if_neg (by omega), e2, ab_mud, if_pos ⟨rfl, rfl⟩]
  have h4 : μ3 3 4 = 1 := by rw [e3, ab_mud, if_neg (by omega), e2, ab_mud, if_neg (by omega), e1, ab_mud, if_pos ⟨rfl, rfl⟩]
  have h3 : μ3 3 3 = 0 := by rw [e3, ab_mud, if_pos ⟨rfl, rfl⟩]
  rw [h5]
  exact s23 _ _ μ3 0 S rfl rfl rfl rfl S0.2 rfl (fun c j y1 y2 => by rw [e3, ab_mud, if_neg (by omega), e2, ab_mud, if_neg (by omega), e1, ab_mud, if_neg (by omega)]) h5 h4 ⟨by omega, Or.inl ⟨by omega, fun i a b => by omega⟩⟩
end K22

/-! THE CLASS, part k23: what the Reader keeps -/
section K23
variable {X : jm_X} {d : Nat} {P : Int → ab_m → Prop} {μ μ' μ0 μ1 : ab_m} {s t τ ζ δ b H H' κ κ' : Int} {Z Z' : Int → Prop} {Γ : scG}
end K23
/-- the state of a reader; t: by how much the steps may be ahead of the bytes, τ: twice the locals -/
def zI (μ : ab_m) (s t τ : Int) : Prop := (μ 2 2 = s) ∧ (ab_is 10 s) ∧ (wW μ (μ 3 3)) ∧ (0 ≤ μ 2 3 ∧ μ 2 3 < μ 3 3) ∧ (μ 2 4 ≠ 0 ∨ μ 2 7 = 0 → μ 2 5 ≠ 0) ∧ (0 ≤ μ s 4 ∧ μ s 4 ≤ 3002) ∧ (μ 2 4 = 0 → μ s 4 ≤ μ 5 (μ 2 3) + t ∧ 2 * μ s 7 ≤ μ 5 (μ 2 3) + τ ∧ 0 ≤ μ 2 8 ∧ μ 2 8 ≤ 24) ∧ ((0 ≤ μ s 6 ∧ μ s 6 ≤ 1499) ∧ (0 ≤ μ s 7 ∧ μ s 7 ≤ 1499) ∧ (0 ≤ μ s 8 ∧ μ s 8 ≤ 8) ∧ (0 ≤ μ s 10 ∧ μ s 10 ≤ 15)) ∧ ((0 ≤ μ 7 3 ∧ μ 7 3 ≤ 1500) ∧ 0 ≤ μ 7 4) ∧ (∀ i, 0 ≤ i → i < μ 7 3 → μ 9 i = 2 → 0 ≤ μ 10 i ∧ μ 10 i < 15) ∧ (0 ≤ μ 2 11 ∧ μ 2 11 ≤ 1) ∧ (-1 ≤ μ 2 10 ∧ μ 2 10 < 15)
theorem zI.sc {μ : ab_m} {s t τ : Int} (h'' : zI μ s t τ) : μ 2 2 = s := h''.1
theorem zI.hs {μ : ab_m} {s t τ : Int} (h'' : zI μ s t τ) : ab_is 10 s := h''.2.1
theorem zI.ww {μ : ab_m} {s t τ : Int} (h'' : zI μ s t τ) : wW μ (μ 3 3) := h''.2.2.1
theorem zI.a {μ : ab_m} {s t τ : Int} (h'' : zI μ s t τ) : 0 ≤ μ 2 3 ∧ μ 2 3 < μ 3 3 := h''.2.2.2.1
theorem zI.sf {μ : ab_m} {s t τ : Int} (h'' : zI μ s t τ) : μ 2 4 ≠ 0 ∨ μ 2 7 = 0 → μ 2 5 ≠ 0 := h''.2.2.2.2.1
theorem zI.n {μ : ab_m} {s t τ : Int} (h'' : zI μ s t τ) : 0 ≤ μ s 4 ∧ μ s 4 ≤ 3002 := h''.2.2.2.2.2.1
theorem zI.ph {μ : ab_m} {s t τ : Int} (h'' : zI μ s t τ) : μ 2 4 = 0 → μ s 4 ≤ μ 5 (μ 2 3) + t ∧ 2 * μ s 7 ≤ μ 5 (μ 2 3) + τ ∧ 0 ≤ μ 2 8 ∧ μ 2 8 ≤ 24 := h''.2.2.2.2.2.2.1
theorem zI.nu {μ : ab_m} {s t τ : Int} (h'' : zI μ s t τ) : (0 ≤ μ s 6 ∧ μ s 6 ≤ 1499) ∧ (0 ≤ μ s 7 ∧ μ s 7 ≤ 1499) ∧ (0 ≤ μ s 8 ∧ μ s 8 ≤ 8) ∧ (0 ≤ μ s 10 ∧ μ s 10 ≤ 15) := h''.2.2.2.2.2.2.2.1
theorem zI.nc {μ : ab_m} {s t τ : Int} (h'' : zI μ s t τ) : (0 ≤ μ 7 3 ∧ μ 7 3 ≤ 1500) ∧ 0 ≤ μ 7 4 := h''.2.2.2.2.2.2.2.2.1
theorem zI.nk {μ : ab_m} {s t τ : Int} (h'' : zI μ s t τ) : ∀ i, 0 ≤ i → i < μ 7 3 → μ 9 i = 2 → 0 ≤ μ 10 i ∧ μ 10 i < 15 := h''.2.2.2.2.2.2.2.2.2.1
theorem zI.bo {μ : ab_m} {s t τ : Int} (h'' : zI μ s t τ) : 0 ≤ μ 2 11 ∧ μ 2 11 ≤ 1 := h''.2.2.2.2.2.2.2.2.2.2.1
theorem zI.dw {μ : ab_m} {s t τ : Int} (h'' : zI μ s t τ) : -1 ≤ μ 2 10 ∧ μ 2 10 < 15 := h''.2.2.2.2.2.2.2.2.2.2.2
section K23
variable {X : jm_X} {d : Nat} {P : Int → ab_m → Prop} {μ μ' μ0 μ1 : ab_m} {s t τ ζ δ b H H' κ κ' : Int} {Z Z' : Int → Prop} {Γ : scG}
end K23
/-- what statements leave as it was -/
def zF (s : Int) (μ0 μ : ab_m) : Prop := (∀ c j, c ≠ 2 → ¬ (7 ≤ c ∧ c ≤ 15) → ¬ (s ≤ c ∧ c ≤ s + 4) → μ c j = μ0 c j) ∧ (∀ j, ¬ (3 ≤ j ∧ j ≤ 9) → j ≠ 12 → j ≠ 13 → j ≠ 19 → μ 2 j = μ0 2 j) ∧ (∀ j, j ≠ 4 → j ≠ 7 → μ s j = μ0 s j) ∧ (∀ k, 0 ≤ k → k < μ0 s 4 → k ≤ 3000 → μ (s + 1) k = μ0 (s + 1) k ∧ μ (s + 2) k = μ0 (s + 2) k) ∧ (μ0 s 4 ≤ μ s 4) ∧ (μ0 2 3 ≤ μ 2 3) ∧ (μ0 7 3 ≤ μ 7 3) ∧ (μ 7 4 = μ0 7 4) ∧ (μ0 2 5 ≠ 0 → μ 2 5 ≠ 0) ∧ (μ0 2 4 ≠ 0 → μ 2 4 ≠ 0)
theorem zF.o {s : Int} {μ0 μ : ab_m} (h'' : zF s μ0 μ) : ∀ c j, c ≠ 2 → ¬ (7 ≤ c ∧ c ≤ 15) → ¬ (s ≤ c ∧ c ≤ s + 4) → μ c j = μ0 c j := h''.1
theorem zF.f {s : Int} {μ0 μ : ab_m} (h'' : zF s μ0 μ) : ∀ j, ¬ (3 ≤ j ∧ j ≤ 9) → j ≠ 12 → j ≠ 13 → j ≠ 19 → μ 2 j = μ0 2 j := h''.2.1
theorem zF.g {s : Int} {μ0 μ : ab_m} (h'' : zF s μ0 μ) : ∀ j, j ≠ 4 → j ≠ 7 → μ s j = μ0 s j := h''.2.2.1
theorem zF.p {s : Int} {μ0 μ : ab_m} (h'' : zF s μ0 μ) : ∀ k, 0 ≤ k → k < μ0 s 4 → k ≤ 3000 → μ (s + 1) k = μ0 (s + 1) k ∧ μ (s + 2) k = μ0 (s + 2) k := h''.2.2.2.1
theorem zF.n {s : Int} {μ0 μ : ab_m} (h'' : zF s μ0 μ) : μ0 s 4 ≤ μ s 4 := h''.2.2.2.2.1
theorem zF.a {s : Int} {μ0 μ : ab_m} (h'' : zF s μ0 μ) : μ0 2 3 ≤ μ 2 3 := h''.2.2.2.2.2.1
theorem zF.c {s : Int} {μ0 μ : ab_m} (h'' : zF s μ0 μ) : μ0 7 3 ≤ μ 7 3 := h''.2.2.2.2.2.2.1
theorem zF.b {s : Int} {μ0 μ : ab_m} (h'' : zF s μ0 μ) : μ 7 4 = μ0 7 4 := h''.2.2.2.2.2.2.2.1
theorem zF.ft {s : Int} {μ0 μ : ab_m} (h'' : zF s μ0 μ) : μ0 2 5 ≠ 0 → μ 2 5 ≠ 0 := h''.2.2.2.2.2.2.2.2.1
theorem zF.st {s : Int} {μ0 μ : ab_m} (h'' : zF s μ0 μ) : μ0 2 4 ≠ 0 → μ 2 4 ≠ 0 := h''.2.2.2.2.2.2.2.2.2
section K23
variable {X : jm_X} {d : Nat} {P : Int → ab_m → Prop} {μ μ' μ0 μ1 : ab_m} {s t τ ζ δ b H H' κ κ' : Int} {Z Z' : Int → Prop} {Γ : scG}
theorem zF.refl : zF s μ μ := ⟨fun _ _ _ _ _ => rfl, fun _ _ _ _ _ => rfl, fun _ _ _ => rfl, fun _ _ _ _ => ⟨rfl, rfl⟩, Int.le_refl _, Int.le_refl _, Int.le_refl _, rfl, id, id⟩
theorem zF.trans (h : zF s μ0 μ1) (h' : zF s μ1 μ) : zF s μ0 μ := by
  obtain ⟨a1, a2, a3, a4, a5, a6, a7, a8, a9, a10⟩ := h
  obtain ⟨b1, b2, b3, b4, b5, b6, b7, b8, b9, b10⟩ := h'
  refine ⟨fun c j x y z => by rw [b1 c j x y z, a1 c j x y z], fun j x y z w => by rw [b2 j x y z w, a2 j x y z w], fun j x y => by rw [b3 j x y, a3 j x y], fun k x y z => ?_, by omega, by omega, by omega, by rw [b8, a8], fun x => b9 (a9 x), fun x => b10 (a10 x)⟩
  have q1 := a4 k x y z
  have q2 := b4 k x (by omega) z
  rw [q2.1, q2.2]
  exact q1
/-- jumps that wait for one aim -/
def zDc (μ : ab_m) (s : Int) : List Int → Int → Prop
  | [], x => x = -1
  | y :: r, x => x = y ∧ 0 ≤ y ∧ y ≤ 3000 ∧ y < μ s 4 ∧ μ (s + 1) y = 25 ∧ (∀ z ∈ r, z < y) ∧ zDc μ s r (μ (s + 2) y)
theorem zDc.same : ∀ {L : List Int} {x : Int}, zDc μ s L x → μ s 4 ≤ μ' s 4 → (∀ y ∈ L, μ' (s + 1) y = μ (s + 1) y ∧ μ' (s + 2) y = μ (s + 2) y) → zDc μ' s L x
  | [], _, a, _, _ => a
  | y :: r, x, a, n, e => by
    have q := e y (List.mem_cons_self ..)
    have a4 := a.2.2.2.1
    refine ⟨a.1, a.2.1, a.2.2.1, by omega, by rw [q.1]; exact a.2.2.2.2.1, a.2.2.2.2.2.1, ?_⟩
    rw [q.2]
    exact a.2.2.2.2.2.2.same n fun z hz => e z (List.mem_cons_of_mem _ hz)
theorem zDc.mem : ∀ {L : List Int} {x : Int}, zDc μ s L x → ∀ y ∈ L, 0 ≤ y ∧ y ≤ 3000 ∧ y < μ s 4 ∧ μ (s + 1) y = 25
  | [], _, _, y, hy => by simp at hy
  | z :: r, x, a, y, hy => by
    rcases List.mem_cons.mp hy with e | e
    · subst e; exact ⟨a.2.1, a.2.2.1, a.2.2.2.1, a.2.2.2.2.1⟩
    · exact a.2.2.2.2.2.2.mem y e
theorem zDc.len : ∀ {L : List Int} {x : Int}, zDc μ s L x → (L.length : Int) ≤ x + 1 ∧ x ≤ 3000 ∧ -1 ≤ x
  | [], x, a => by have : x = -1 := a; subst this; simp
  | y :: r, x, a => by
    obtain ⟨a1, a2, a3, a4, a5, a6, a7⟩ := a
    have ih := a7.len
    have l : ((y :: r : List Int).length : Int) = r.length + 1 := by simp
    refine ⟨?_, by omega, by omega⟩
    cases r with
    | nil => simp; omega
    | cons z r' =>
      have h1 := a7.1
      have h2 := a6 z (List.mem_cons_self ..)
      omega
end K23
def zCc (μ : ab_m) (s : Int) (Lb Ln : List Int) : Prop := (zDc μ s Lb (μ 2 12)) ∧ (zDc μ s Ln (μ 2 13)) ∧ (∀ x ∈ Lb, x ∉ Ln)
theorem zCc.b {μ : ab_m} {s : Int} {Lb Ln : List Int} (h'' : zCc μ s Lb Ln) : zDc μ s Lb (μ 2 12) := h''.1
theorem zCc.n {μ : ab_m} {s : Int} {Lb Ln : List Int} (h'' : zCc μ s Lb Ln) : zDc μ s Ln (μ 2 13) := h''.2.1
theorem zCc.d {μ : ab_m} {s : Int} {Lb Ln : List Int} (h'' : zCc μ s Lb Ln) : ∀ x ∈ Lb, x ∉ Ln := h''.2.2
section K23
variable {X : jm_X} {d : Nat} {P : Int → ab_m → Prop} {μ μ' μ0 μ1 : ab_m} {s t τ ζ δ b H H' κ κ' : Int} {Z Z' : Int → Prop} {Γ : scG}
theorem zCc.same {Lb Ln : List Int} (h : zCc μ s Lb Ln) (n : μ s 4 ≤ μ' s 4) (e : ∀ y, 0 ≤ y → y < μ s 4 → y ≤ 3000 → μ' (s + 1) y = μ (s + 1) y ∧ μ' (s + 2) y = μ (s + 2) y) (eb : μ' 2 12 = μ 2 12) (en : μ' 2 13 = μ 2 13) : zCc μ' s Lb Ln := by
  have gb := h.b.same n fun y hy => by have q := h.b.mem y hy; exact e y q.1 q.2.2.1 q.2.1
  have gn := h.n.same n fun y hy => by have q := h.n.mem y hy; exact e y q.1 q.2.2.1 q.2.1
  exact ⟨by rw [eb]; exact gb, by rw [en]; exact gn, h.d⟩
/-- x is among the && and || that begin at j -/
def wOn (μ : ab_m) (s j x : Int) : Prop := ∃ L, sDc μ s L (μ (s + 3) j) ∧ (∀ y ∈ L, y < μ s 4) ∧ x ∈ L
def wOk (μ : ab_m) (s j : Int) : Prop := ∃ L, sDc μ s L (μ (s + 3) j) ∧ ∀ y ∈ L, y < μ s 4
theorem sDc.on : ∀ {L : List Int} {x : Int}, sDc μ s L x → (∀ y ∈ L, μ' (s + 4) y = μ (s + 4) y) → sDc μ' s L x
  | [], _, a, _ => a
  | y :: r, x, a, e => ⟨a.1, a.2.1, a.2.2.1, a.2.2.2.1, by
      rw [e y (List.mem_cons_self ..)]
      exact a.2.2.2.2.on fun z hz => e z (List.mem_cons_of_mem _ hz)⟩
theorem sDc.un : ∀ {L L' : List Int} {x : Int}, sDc μ s L x → sDc μ s L' x → L = L'
  | [], [], _, _, _ => rfl
  | [], y :: r, x, a, c => by have a1 : x = -1 := a; have := c.1; have := c.2.1; omega
  | y :: r, [], x, a, c => by have a1 : x = -1 := c; have := a.1; have := a.2.1; omega
  | y :: r, y' :: r', x, a, c => by
    have e : y = y' := by rw [← a.1, c.1]
    subst e
    rw [a.2.2.2.2.un c.2.2.2.2]
/-- the region at hand: its def, or the program -/
def rho (μ : ab_m) (s δ : Int) : Int := if δ = -1 then μ s 10 else δ
end K23
def zK (μ : ab_m) (s : Int) (Γ : scG) (k : Int) : Prop := ((μ (s + 1) k = 34 ∧ Γ.1 k = 0 ∧ Γ.1 (k + 1) = 0 ∧ Γ.2.1 (k + 1) = Γ.2.1 k + 1 ∧ Γ.2.2.1 (k + 1) = k + 1) ∨ (scHv (μ (s + 1) k) (μ (s + 9) (μ (s + 2) k)) (Γ.1 k) (Γ.1 (k + 1)) ∧ Γ.2.1 (k + 1) = Γ.2.1 k ∧ Γ.2.2.1 (k + 1) = Γ.2.2.1 k ∧ (μ (s + 1) k = 31 → Γ.2.2.2.1 (k + 1) = Γ.2.2.2.1 k + 1) ∧ (μ (s + 1) k = 0 ∨ μ (s + 1) k = 35 → Γ.2.2.2.1 (k + 1) = Γ.2.2.2.1 k))) ∧ (0 ≤ Γ.2.2.2.1 k ∧ Γ.2.2.2.1 k ≤ 30) ∧ (μ (s + 1) k = 1 ∨ μ (s + 1) k = 23 ∨ μ (s + 1) k = 29 ∨ μ (s + 1) k = 30 → 0 ≤ μ (s + 2) k ∧ μ (s + 2) k < 3000) ∧ (μ (s + 1) k = 1 ∨ μ (s + 1) k = 23 ∨ μ (s + 1) k = 29 → scOk μ s Γ (μ s 10) k (μ (s + 2) k)) ∧ ((25 ≤ μ (s + 1) k ∧ μ (s + 1) k ≤ 27) ∨ μ (s + 1) k = 36 ∨ μ (s + 1) k = 37 → -1 ≤ μ (s + 2) k ∧ μ (s + 2) k ≤ μ s 4 ∧ (μ (s + 2) k ≤ k ∨ Γ.2.1 (μ (s + 2) k) = Γ.2.1 k)) ∧ (μ (s + 1) k = 21 ∨ μ (s + 1) k = 22 → 0 ≤ μ (s + 2) k ∧ μ (s + 2) k < μ s 8) ∧ (μ (s + 1) k = 32 → 0 ≤ μ (s + 2) k ∧ μ (s + 2) k < Γ.2.1 k) ∧ (μ (s + 1) k = 33 → μ (s + 2) k = Γ.2.1 k ∧ Γ.2.1 k < μ s 10) ∧ (μ (s + 1) k = 38 → (0 ≤ μ (s + 2) k ∧ μ (s + 2) k < 3002) ∧ ∃ j, 0 ≤ j ∧ j < k ∧ Γ.2.1 j = Γ.2.1 k ∧ wOn μ s j (μ (s + 2) k)) ∧ (μ (s + 1) k = 35 → 1 ≤ k ∧ μ (s + 1) (k - 1) = 32 ∧ Γ.2.1 (k - 1) = Γ.2.1 k) ∧ (wOk μ s k)
theorem zK.mv {μ : ab_m} {s : Int} {Γ : scG} {k : Int} (h'' : zK μ s Γ k) : (μ (s + 1) k = 34 ∧ Γ.1 k = 0 ∧ Γ.1 (k + 1) = 0 ∧ Γ.2.1 (k + 1) = Γ.2.1 k + 1 ∧ Γ.2.2.1 (k + 1) = k + 1) ∨ (scHv (μ (s + 1) k) (μ (s + 9) (μ (s + 2) k)) (Γ.1 k) (Γ.1 (k + 1)) ∧ Γ.2.1 (k + 1) = Γ.2.1 k ∧ Γ.2.2.1 (k + 1) = Γ.2.2.1 k ∧ (μ (s + 1) k = 31 → Γ.2.2.2.1 (k + 1) = Γ.2.2.2.1 k + 1) ∧ (μ (s + 1) k = 0 ∨ μ (s + 1) k = 35 → Γ.2.2.2.1 (k + 1) = Γ.2.2.2.1 k)) := h''.1
theorem zK.q {μ : ab_m} {s : Int} {Γ : scG} {k : Int} (h'' : zK μ s Γ k) : 0 ≤ Γ.2.2.2.1 k ∧ Γ.2.2.2.1 k ≤ 30 := h''.2.1
theorem zK.nm {μ : ab_m} {s : Int} {Γ : scG} {k : Int} (h'' : zK μ s Γ k) : μ (s + 1) k = 1 ∨ μ (s + 1) k = 23 ∨ μ (s + 1) k = 29 ∨ μ (s + 1) k = 30 → 0 ≤ μ (s + 2) k ∧ μ (s + 2) k < 3000 := h''.2.2.1
theorem zK.td {μ : ab_m} {s : Int} {Γ : scG} {k : Int} (h'' : zK μ s Γ k) : μ (s + 1) k = 1 ∨ μ (s + 1) k = 23 ∨ μ (s + 1) k = 29 → scOk μ s Γ (μ s 10) k (μ (s + 2) k) := h''.2.2.2.1
theorem zK.jp {μ : ab_m} {s : Int} {Γ : scG} {k : Int} (h'' : zK μ s Γ k) : (25 ≤ μ (s + 1) k ∧ μ (s + 1) k ≤ 27) ∨ μ (s + 1) k = 36 ∨ μ (s + 1) k = 37 → -1 ≤ μ (s + 2) k ∧ μ (s + 2) k ≤ μ s 4 ∧ (μ (s + 2) k ≤ k ∨ Γ.2.1 (μ (s + 2) k) = Γ.2.1 k) := h''.2.2.2.2.1
theorem zK.rw {μ : ab_m} {s : Int} {Γ : scG} {k : Int} (h'' : zK μ s Γ k) : μ (s + 1) k = 21 ∨ μ (s + 1) k = 22 → 0 ≤ μ (s + 2) k ∧ μ (s + 2) k < μ s 8 := h''.2.2.2.2.2.1
theorem zK.cl {μ : ab_m} {s : Int} {Γ : scG} {k : Int} (h'' : zK μ s Γ k) : μ (s + 1) k = 32 → 0 ≤ μ (s + 2) k ∧ μ (s + 2) k < Γ.2.1 k := h''.2.2.2.2.2.2.1
theorem zK.rt {μ : ab_m} {s : Int} {Γ : scG} {k : Int} (h'' : zK μ s Γ k) : μ (s + 1) k = 33 → μ (s + 2) k = Γ.2.1 k ∧ Γ.2.1 k < μ s 10 := h''.2.2.2.2.2.2.2.1
theorem zK.tr {μ : ab_m} {s : Int} {Γ : scG} {k : Int} (h'' : zK μ s Γ k) : μ (s + 1) k = 38 → (0 ≤ μ (s + 2) k ∧ μ (s + 2) k < 3002) ∧ ∃ j, 0 ≤ j ∧ j < k ∧ Γ.2.1 j = Γ.2.1 k ∧ wOn μ s j (μ (s + 2) k) := h''.2.2.2.2.2.2.2.2.1
theorem zK.dr {μ : ab_m} {s : Int} {Γ : scG} {k : Int} (h'' : zK μ s Γ k) : μ (s + 1) k = 35 → 1 ≤ k ∧ μ (s + 1) (k - 1) = 32 ∧ Γ.2.1 (k - 1) = Γ.2.1 k := h''.2.2.2.2.2.2.2.2.2.1
theorem zK.wr {μ : ab_m} {s : Int} {Γ : scG} {k : Int} (h'' : zK μ s Γ k) : wOk μ s k := h''.2.2.2.2.2.2.2.2.2.2
section K23
variable {X : jm_X} {d : Nat} {P : Int → ab_m → Prop} {μ μ' μ0 μ1 : ab_m} {s t τ ζ δ b H H' κ κ' : Int} {Z Z' : Int → Prop} {Γ : scG}
end K23
def zDf (μ : ab_m) (s : Int) (Γ : scG) (x : Int) : Prop := ((0 ≤ μ (s + 6) x ∧ μ (s + 6) x < μ s 4) ∧ Γ.2.1 (μ (s + 6) x) = x ∧ Γ.1 (μ (s + 6) x) = 0 ∧ Γ.2.2.1 (μ (s + 6) x) = μ (s + 6) x) ∧ ((0 ≤ μ (s + 7) x ∧ μ (s + 7) x < μ s 4) ∧ Γ.2.1 (μ (s + 7) x) = x) ∧ (0 ≤ μ (s + 8) x ∧ (0 ≤ μ (s + 9) x ∧ μ (s + 9) x ≤ 6) ∧ μ (s + 8) x + μ (s + 9) x ≤ 3000)
theorem zDf.b {μ : ab_m} {s : Int} {Γ : scG} {x : Int} (h'' : zDf μ s Γ x) : (0 ≤ μ (s + 6) x ∧ μ (s + 6) x < μ s 4) ∧ Γ.2.1 (μ (s + 6) x) = x ∧ Γ.1 (μ (s + 6) x) = 0 ∧ Γ.2.2.1 (μ (s + 6) x) = μ (s + 6) x := h''.1
theorem zDf.e {μ : ab_m} {s : Int} {Γ : scG} {x : Int} (h'' : zDf μ s Γ x) : (0 ≤ μ (s + 7) x ∧ μ (s + 7) x < μ s 4) ∧ Γ.2.1 (μ (s + 7) x) = x := h''.2.1
theorem zDf.l {μ : ab_m} {s : Int} {Γ : scG} {x : Int} (h'' : zDf μ s Γ x) : 0 ≤ μ (s + 8) x ∧ (0 ≤ μ (s + 9) x ∧ μ (s + 9) x ≤ 6) ∧ μ (s + 8) x + μ (s + 9) x ≤ 3000 := h''.2.2
section K23
variable {X : jm_X} {d : Nat} {P : Int → ab_m → Prop} {μ μ' μ0 μ1 : ab_m} {s t τ ζ δ b H H' κ κ' : Int} {Z Z' : Int → Prop} {Γ : scG}
/-- the int x may be named now -/
def zNa (μ : ab_m) (s ζ δ x : Int) : Prop := (0 ≤ x ∧ x < μ s 6) ∨ (δ ≠ -1 ∧ μ (s + 8) δ ≤ x ∧ x < μ (s + 8) δ + μ (s + 9) δ) ∨ ∃ j, ζ ≤ j ∧ j < μ s 4 ∧ μ (s + 1) j = 30 ∧ μ (s + 2) j = x
end K23
/-- a name that is told -/
def zNe (μ : ab_m) (s ζ δ b i : Int) : Prop := (μ 9 i = 0 → (0 ≤ μ 10 i ∧ μ 10 i < 3000) ∧ ((0 ≤ μ 10 i ∧ μ 10 i < μ s 6) ∨ (b ≤ i ∧ zNa μ s ζ δ (μ 10 i)))) ∧ (μ 9 i = 1 → 0 ≤ μ 10 i ∧ μ 10 i < μ s 8) ∧ (μ 9 i = 2 → 0 ≤ μ 10 i ∧ μ 10 i < rho μ s δ)
theorem zNe.n {μ : ab_m} {s ζ δ b i : Int} (h'' : zNe μ s ζ δ b i) : μ 9 i = 0 → (0 ≤ μ 10 i ∧ μ 10 i < 3000) ∧ ((0 ≤ μ 10 i ∧ μ 10 i < μ s 6) ∨ (b ≤ i ∧ zNa μ s ζ δ (μ 10 i))) := h''.1
theorem zNe.r {μ : ab_m} {s ζ δ b i : Int} (h'' : zNe μ s ζ δ b i) : μ 9 i = 1 → 0 ≤ μ 10 i ∧ μ 10 i < μ s 8 := h''.2.1
theorem zNe.d {μ : ab_m} {s ζ δ b i : Int} (h'' : zNe μ s ζ δ b i) : μ 9 i = 2 → 0 ≤ μ 10 i ∧ μ 10 i < rho μ s δ := h''.2.2
section K23
variable {X : jm_X} {d : Nat} {P : Int → ab_m → Prop} {μ μ' μ0 μ1 : ab_m} {s t τ ζ δ b H H' κ κ' : Int} {Z Z' : Int → Prop} {Γ : scG}
end K23
def zGG (μ : ab_m) (s : Int) (Γ : scG) (ζ δ b : Int) (Z : Int → Prop) (H κ : Int) : Prop := (0 ≤ ζ ∧ ζ ≤ μ s 4 ∧ Γ.1 ζ = 0) ∧ (Γ.1 0 = 0 ∧ Γ.2.1 0 = 0 ∧ Γ.2.2.1 0 = 0) ∧ (Γ.1 (μ s 4) = H ∧ 0 ≤ H ∧ 0 ≤ Γ.2.2.2.1 (μ s 4) ∧ Γ.2.2.2.1 (μ s 4) ≤ κ) ∧ (∀ k, ζ ≤ k → k ≤ μ s 4 → Γ.2.1 k = rho μ s δ ∧ Γ.2.2.1 k = ζ) ∧ (∀ k, 0 ≤ k → k < ζ → Γ.2.1 k < rho μ s δ) ∧ (∀ k, 0 ≤ k → k < μ s 4 → zK μ s Γ k) ∧ (∀ k, 0 ≤ k → k < μ s 4 → (25 ≤ μ (s + 1) k ∧ μ (s + 1) k ≤ 27) ∨ μ (s + 1) k = 36 ∨ μ (s + 1) k = 37 → 0 ≤ μ (s + 2) k ∨ Z k) ∧ (∀ x, 0 ≤ x → x < rho μ s δ → zDf μ s Γ x) ∧ (δ = -1 ∨ (0 ≤ δ ∧ δ + 1 = μ s 10 ∧ 0 ≤ μ (s + 8) δ ∧ (0 ≤ μ (s + 9) δ ∧ μ (s + 9) δ ≤ 6) ∧ μ (s + 8) δ + μ (s + 9) δ ≤ 3000)) ∧ (∀ i, 0 ≤ i → i < μ 7 3 → zNe μ s ζ δ b i) ∧ (0 ≤ b ∧ b ≤ μ 7 3) ∧ (∀ x, 0 ≤ x → x < μ s 8 → μ (s + 5) x ≤ 100)
theorem zGG.z {μ : ab_m} {s : Int} {Γ : scG} {ζ δ b : Int} {Z : Int → Prop} {H κ : Int} (h'' : zGG μ s Γ ζ δ b Z H κ) : 0 ≤ ζ ∧ ζ ≤ μ s 4 ∧ Γ.1 ζ = 0 := h''.1
theorem zGG.b0 {μ : ab_m} {s : Int} {Γ : scG} {ζ δ b : Int} {Z : Int → Prop} {H κ : Int} (h'' : zGG μ s Γ ζ δ b Z H κ) : Γ.1 0 = 0 ∧ Γ.2.1 0 = 0 ∧ Γ.2.2.1 0 = 0 := h''.2.1
theorem zGG.cu {μ : ab_m} {s : Int} {Γ : scG} {ζ δ b : Int} {Z : Int → Prop} {H κ : Int} (h'' : zGG μ s Γ ζ δ b Z H κ) : Γ.1 (μ s 4) = H ∧ 0 ≤ H ∧ 0 ≤ Γ.2.2.2.1 (μ s 4) ∧ Γ.2.2.2.1 (μ s 4) ≤ κ := h''.2.2.1
theorem zGG.rz {μ : ab_m} {s : Int} {Γ : scG} {ζ δ b : Int} {Z : Int → Prop} {H κ : Int} (h'' : zGG μ s Γ ζ δ b Z H κ) : ∀ k, ζ ≤ k → k ≤ μ s 4 → Γ.2.1 k = rho μ s δ ∧ Γ.2.2.1 k = ζ := h''.2.2.2.1
theorem zGG.rm {μ : ab_m} {s : Int} {Γ : scG} {ζ δ b : Int} {Z : Int → Prop} {H κ : Int} (h'' : zGG μ s Γ ζ δ b Z H κ) : ∀ k, 0 ≤ k → k < ζ → Γ.2.1 k < rho μ s δ := h''.2.2.2.2.1
theorem zGG.st {μ : ab_m} {s : Int} {Γ : scG} {ζ δ b : Int} {Z : Int → Prop} {H κ : Int} (h'' : zGG μ s Γ ζ δ b Z H κ) : ∀ k, 0 ≤ k → k < μ s 4 → zK μ s Γ k := h''.2.2.2.2.2.1
theorem zGG.mi {μ : ab_m} {s : Int} {Γ : scG} {ζ δ b : Int} {Z : Int → Prop} {H κ : Int} (h'' : zGG μ s Γ ζ δ b Z H κ) : ∀ k, 0 ≤ k → k < μ s 4 → (25 ≤ μ (s + 1) k ∧ μ (s + 1) k ≤ 27) ∨ μ (s + 1) k = 36 ∨ μ (s + 1) k = 37 → 0 ≤ μ (s + 2) k ∨ Z k := h''.2.2.2.2.2.2.1
theorem zGG.df {μ : ab_m} {s : Int} {Γ : scG} {ζ δ b : Int} {Z : Int → Prop} {H κ : Int} (h'' : zGG μ s Γ ζ δ b Z H κ) : ∀ x, 0 ≤ x → x < rho μ s δ → zDf μ s Γ x := h''.2.2.2.2.2.2.2.1
theorem zGG.cd {μ : ab_m} {s : Int} {Γ : scG} {ζ δ b : Int} {Z : Int → Prop} {H κ : Int} (h'' : zGG μ s Γ ζ δ b Z H κ) : δ = -1 ∨ (0 ≤ δ ∧ δ + 1 = μ s 10 ∧ 0 ≤ μ (s + 8) δ ∧ (0 ≤ μ (s + 9) δ ∧ μ (s + 9) δ ≤ 6) ∧ μ (s + 8) δ + μ (s + 9) δ ≤ 3000) := h''.2.2.2.2.2.2.2.2.1
theorem zGG.nm {μ : ab_m} {s : Int} {Γ : scG} {ζ δ b : Int} {Z : Int → Prop} {H κ : Int} (h'' : zGG μ s Γ ζ δ b Z H κ) : ∀ i, 0 ≤ i → i < μ 7 3 → zNe μ s ζ δ b i := h''.2.2.2.2.2.2.2.2.2.1
theorem zGG.b {μ : ab_m} {s : Int} {Γ : scG} {ζ δ b : Int} {Z : Int → Prop} {H κ : Int} (h'' : zGG μ s Γ ζ δ b Z H κ) : 0 ≤ b ∧ b ≤ μ 7 3 := h''.2.2.2.2.2.2.2.2.2.2.1
theorem zGG.ro {μ : ab_m} {s : Int} {Γ : scG} {ζ δ b : Int} {Z : Int → Prop} {H κ : Int} (h'' : zGG μ s Γ ζ δ b Z H κ) : ∀ x, 0 ≤ x → x < μ s 8 → μ (s + 5) x ≤ 100 := h''.2.2.2.2.2.2.2.2.2.2.2
section K23
variable {X : jm_X} {d : Nat} {P : Int → ab_m → Prop} {μ μ' μ0 μ1 : ab_m} {s t τ ζ δ b H H' κ κ' : Int} {Z Z' : Int → Prop} {Γ : scG}
def zG (μ : ab_m) (s ζ δ b : Int) (Z : Int → Prop) (H κ : Int) : Prop := ∃ Γ, zGG μ s Γ ζ δ b Z H κ
theorem scHv.n {op n n' h h' : Int} (a : scHv op n h h') (e : op = 32 → n' = n) : scHv op n' h h' := by
  unfold scHv at *
  obtain ⟨a1, a2, a3, a4, a5, a6, a7, a8⟩ := a
  exact ⟨a1, a2, a3, a4, a5, a6, a7, fun x => by rw [e x]; exact a8 x⟩
/-- more ints, rows or defs may be told; the steps stand -/
theorem zGG.grow {δ' b' : Int} (h : zGG μ s Γ ζ δ b Z H κ) (e4 : μ' s 4 = μ s 4) (e6 : μ s 6 ≤ μ' s 6) (e8 : μ s 8 ≤ μ' s 8) (e10 : μ s 10 ≤ μ' s 10) (er : rho μ' s δ' = rho μ s δ) (ea : ∀ c j, s + 1 ≤ c → c ≤ s + 4 → μ' c j = μ c j) (e9 : ∀ c x, s + 6 ≤ c → c ≤ s + 9 → x < rho μ s δ ∨ (ζ < μ s 4 ∧ x = rho μ s δ) → μ' c x = μ c x) (cd : δ' = -1 ∨ (0 ≤ δ' ∧ δ' + 1 = μ' s 10 ∧ 0 ≤ μ' (s + 8) δ' ∧ (0 ≤ μ' (s + 9) δ' ∧ μ' (s + 9) δ' ≤ 6) ∧ μ' (s + 8) δ' + μ' (s + 9) δ' ≤ 3000)) (nm : ∀ i, 0 ≤ i → i < μ' 7 3 → zNe μ' s ζ δ' b' i) (hb : 0 ≤ b' ∧ b' ≤ μ' 7 3) (ro : ∀ x, 0 ≤ x → x < μ' s 8 → μ' (s + 5) x ≤ 100) : zGG μ' s Γ ζ δ' b' Z H κ := by
  obtain ⟨z, b0, cu, rz, rm, st, mi, df, -, -, -, -⟩ := h
  have on : ∀ L x, sDc μ s L x → sDc μ' s L x := fun L x hh => hh.on fun y _ => ea _ y (by omega) (by omega)
  have a1 : ∀ j, μ' (s + 1) j = μ (s + 1) j := fun j => ea _ j (by omega) (by omega)
  have a2 : ∀ j, μ' (s + 2) j = μ (s + 2) j := fun j => ea _ j (by omega) (by omega)
  have a3 : ∀ j, μ' (s + 3) j = μ (s + 3) j := fun j => ea _ j (by omega) (by omega)
  have rle : ∀ k, 0 ≤ k → k < μ s 4 → Γ.2.1 k < rho μ s δ ∨ (ζ < μ s 4 ∧ Γ.2.1 k = rho μ s δ) := fun k x y => by
    by_cases q : k < ζ
    · exact Or.inl (rm k x q)
    · exact Or.inr ⟨by omega, (rz k (by omega) (by omega)).1⟩
  refine ⟨by rw [e4]; exact z, b0, by rw [e4]; exact cu, fun k x y => by rw [er]; exact rz k x (by omega), fun k x y => by rw [er]; exact rm k x y, fun k x y => ?_, fun k x y => by rw [a1, a2]; exact mi k x (by omega), fun x p q => ?_, cd, nm, hb, ro⟩
  · rw [e4] at y
    obtain ⟨mv, q, n', td, jp, rw', cl, rt, tr, dr, wr⟩ := st k x y
    have rl := rle k x y
    refine ⟨?_, q, by rw [a1, a2]; exact n', ?_, by rw [a1, a2, e4]; exact jp, ?_, by rw [a1, a2]; exact cl, ?_, ?_, by rw [a1, a1]; exact dr, ?_⟩
    · rw [a1, a2]
      rcases mv with m | m
      · exact Or.inl m
      · refine Or.inr ⟨m.1.n fun q => ?_, m.2⟩
        have := (cl q).2
        exact e9 _ _ (by omega) (by omega) (Or.inl (by omega))
    · rw [a1, a2]
      intro q
      rcases td q with w | w | ⟨j, w⟩
      · exact Or.inl ⟨w.1, by have := w.2; omega⟩
      · refine Or.inr (Or.inl ?_)
        rw [e9 (s + 8) _ (by omega) (by omega) rl, e9 (s + 9) _ (by omega) (by omega) rl]
        exact ⟨by have := w.1; omega, w.2⟩
      · exact Or.inr (Or.inr ⟨j, by rw [a1, a2]; exact w⟩)
    · rw [a1, a2]; intro q; have := rw' q; omega
    · rw [a1, a2]; intro q; have := rt q; omega
    · rw [a1, a2]
      intro q
      obtain ⟨t1, j, t2, t3, t4, L, t5, t6, t7⟩ := tr q
      exact ⟨t1, j, t2, t3, t4, L, by rw [a3]; exact on _ _ t5, by rw [e4]; exact t6, t7⟩
    · obtain ⟨L, t5, t6⟩ := wr
      exact ⟨L, by rw [a3]; exact on _ _ t5, by rw [e4]; exact t6⟩
  · rw [er] at q
    obtain ⟨b1, b2, b3⟩ := df x p q
    have f : ∀ c, s + 6 ≤ c → c ≤ s + 9 → μ' c x = μ c x := fun c u v => e9 c x u v (Or.inl q)
    refine ⟨?_, ?_, ?_⟩
    · rw [f _ (by omega) (by omega), e4]; exact b1
    · rw [f _ (by omega) (by omega), e4]; exact b2
    · rw [f _ (by omega) (by omega), f _ (by omega) (by omega)]; exact b3
theorem zGG.same (h : zGG μ s Γ ζ δ b Z H κ) (e : ∀ j, j ≠ 5 → j ≠ 7 → μ' s j = μ s j) (ea : ∀ c j, s + 1 ≤ c → c ≤ s + 9 → μ' c j = μ c j) (e7 : μ' 7 3 = μ 7 3) (en : ∀ c j, c = 9 ∨ c = 10 → μ' c j = μ c j) : zGG μ' s Γ ζ δ b Z H κ := by
  have e4 := e 4 (by decide) (by decide)
  have e6 := e 6 (by decide) (by decide)
  have e8 := e 8 (by decide) (by decide)
  have e10 := e 10 (by decide) (by decide)
  have er : rho μ' s δ = rho μ s δ := by unfold rho; rw [e10]
  refine h.grow e4 (by omega) (by omega) (by omega) er (fun c j x y => ea c j x (by omega)) (fun c j x y _ => ea c j (by omega) y) ?_ (fun i x y => ?_) (by rw [e7]; exact h.b) fun x p q => ?_
  · rw [e10, ea _ _ (by omega) (by omega), ea _ _ (by omega) (by omega)]; exact h.cd
  · obtain ⟨n1, n2, n3⟩ := h.nm i x (by omega)
    refine ⟨?_, ?_, ?_⟩
    · rw [en 9 i (Or.inl rfl), en 10 i (Or.inr rfl), e6]
      intro q
      refine ⟨(n1 q).1, ?_⟩
      rcases (n1 q).2 with w | w
      · exact Or.inl w
      · refine Or.inr ⟨w.1, ?_⟩
        unfold zNa
        rw [e6, e4, ea _ _ (by omega) (by omega), ea _ _ (by omega) (by omega)]
        rcases w.2 with v | v | ⟨j, v⟩
        · exact Or.inl v
        · exact Or.inr (Or.inl v)
        · exact Or.inr (Or.inr ⟨j, by rw [ea _ _ (by omega) (by omega), ea _ _ (by omega) (by omega)]; exact v⟩)
    · rw [en 9 i (Or.inl rfl), en 10 i (Or.inr rfl), e8]; exact n2
    · rw [en 9 i (Or.inl rfl), en 10 i (Or.inr rfl), er]; exact n3
  · rw [ea _ _ (by omega) (by omega)]; exact h.ro x p (by omega)
end K23

