/-! THE REFERENCE, part 68: readDef, readDecl, goOver -/
section M68
variable {X : jm_X} {d : Nat} {P : Int → ab_m → Prop} {K : Int → Int} {W g : Int} {s0 : aS} {μ0 μ ν ν' : ab_m} {s s' : aS} {Γ Γ' : tQ} {F F' : Int → List Int} {dd : Int} {Ln : Int → Nat} {G : Int → List Int} {a k n : Int} {many : Int} {e : aE}
theorem c_dL_newInt {w : Int} (hi : rI K W g μ0 μ s) (hO : μ 109 22 = 1 → rO K W g μ s Γ F dd Ln) (u : dL W g μ s ν a many) (hw : 0 ≤ w ∧ w < 3002) (h0 : μ 109 22 = 0 → P 0 ν) (h1 : μ 109 22 = 1 → ∀ ν', uN ν ν' → P (ν 109 30) ν') (hF : ∀ ν', rFt g μ0 ν' → P 0 ν') : jj_mM_newInt X (d + 1) 0 (ab_la [109, w]) [] ν P := by
  have ps : ν 109 22 = μ 109 22 := u.fr 109 22 (by unfold rdW; omega)
  rcases hi.p01 with e | e
  · exact c_mM_newInt0 (by rw [ps]; exact e) (h0 e)
  · obtain ⟨o1, o2, o3, o4, o5, o6⟩ := u.one e
    have nm := (hO e).nm.nm
    have it := (hO e).nm.it
    have W3 := hi.kk.2.1
    have atW := hi.w.atW
    have mn := u.mn
    have ge := u.ge
    have le := u.le
    refine c_mM_newInt (by rw [ps]; exact e) u.ft hw (by rw [o2]; omega) (by rw [o3]; omega) (fun ν1 ν2 m1 m2 m3 => h1 e ν2 ?_) fun ν' m' => hF _ (hi.fault u.fr u.rs m')
    obtain ⟨a1, a2, a3, a4⟩ := m1
    exact ⟨fun c j z1 z2 => by rw [m2 c j (by omega)]; exact a1 c j z1 (by omega), by rw [m2 109 27 (by omega)]; exact a2, m3, by rw [m2 126 _ (by omega)]; exact a3, by rw [m2 127 _ (by omega)]; exact a4⟩
set_option maxHeartbeats 1000000 in
theorem c_rd_readDef (hJ : J K W g s0 μ0 μ s) (hm : s.1 = 0) (hk : K s.2.1 = 11) (hF : ∀ ν', rFt g μ0 ν' → P 0 ν') (hN : ∀ ν' s', J K W g s0 μ0 ν' s' ∧ aMs W s' < aMs W s → P 0 ν') : jj_mM_readDef X (d + 4) 0 (ab_la [109]) [] μ P := by
  obtain ⟨Γ, F, dd, Ln, G, hO, hZ⟩ := hJ.get
  have at0 := hJ.at'
  have W3 := hJ.i.kk.2.1
  have g01 := hJ.i.g01
  have hs := hJ.i.w.m0 hm
  have v0 := hJ.v0 hO
  rw [hm, hs] at v0
  have L1 := aK_lt hJ.i.kk at0.1 at0.2.2 hk (by decide)
  -- the list's end
  have last : ∀ (l : ab_l) (ν : ab_m) (a many : Int), l 0 = 109 → l 3 = 0 → (μ 109 22 = 1 → l 2 = many ∧ μ 109 32 ≠ 15) → dL W g μ s ν a many → K (s.2.1 + 1) = 1 → K (s.2.1 + 2) = 40 → ((if K (s.2.1 + 3) = 41 then some (s.2.1 + 3) else aNm K 3002 (s.2.1 + 3)) = some a) → jj_mM_readDef X (d + 4) 189 l [] ν P := by
    intro l ν a many l0 l3 l2 u k1 k2 ha
    have ge := u.ge
    have le := u.le
    have mn := u.mn
    have kk : ∀ i, ν 111 i = K i := fun i => by rw [u.fr 111 i (by unfold rdW; omega)]; exact hJ.i.K i
    refine bk_mM_readDef_189 l0 ⟨fun _ => ?_, fun w => absurd l3 w⟩
    refine c_R_takeClose u.ft (by rw [u.at']; omega) (fun q1 ν1 f1 a1 => ⟨fun w => absurd w (by decide), fun _ => ?_⟩) (fun ν1 m1 => ⟨fun _ => hF _ (hJ.i.fault u.fr u.rs m1), fun w => absurd rfl w⟩)
    rw [u.at', kk] at q1
    have La := aK_lt hJ.i.kk (by omega) le q1 (by decide)
    rw [u.at'] at a1
    have u1 := u.fld f1 a1 (by omega) La
    have kk1 : ∀ i, ν1 111 i = K i := fun i => by rw [u1.fr 111 i (by unfold rdW; omega)]; exact hJ.i.K i
    refine c_R_takeOpen u1.ft (by rw [u1.at']; omega) (fun q2 ν2 f2 a2 => ⟨fun _ => ?_, fun w => absurd w (by decide)⟩) (fun ν2 m2 => ⟨fun w => absurd rfl w, fun _ => hF _ (hJ.i.fault u1.fr u1.rs m2)⟩)
    rw [u1.at', kk1] at q2
    have La2 := aK_lt hJ.i.kk (by omega) La q2 (by decide)
    rw [u1.at'] at a2
    have u2 := u1.fld f2 a2 (by omega) (by omega)
    have nx : aNext K s = some ((1, a + 1 + 1, s.2.2.1, ⟨3, 0, s.2.1 + 1, 0⟩ :: s.2.2.2), none) := by
      rw [show a + 1 + 1 = a + 2 by omega]
      simp [aNext, aDecl, hm, hk, k1, k2, ha, q1, q2]
    have ps : ν2 109 22 = μ 109 22 := u2.fr 109 22 (by unfold rdW; omega)
    refine ⟨fun n1 ν7 e7 => ?_, fun y1 => ?_⟩
    · have p0 : μ 109 22 = 0 := by have := hJ.i.p01; omega
      have aq := aNext_q hJ.i.kk hJ.i.w _ _ nx
      have f7 : ∀ c j, ¬ (c = 109 ∧ j = 39) → ν7 c j = ν2 c j := fun c j z => by rw [e7, ab_mud, if_neg z]
      have ri := u2.ri hJ hs nx (fun c j z _ => f7 c j z) (fun z => by omega) (fun _ c j z => f7 c j z) (by rw [e7, ab_mud, if_pos ⟨rfl, rfl⟩])
      exact hN _ _ ⟨⟨ri, fun _ => ⟨G, (hZ p0).go hJ.i nx fun c j z => by rw [f7 c j (by omega)]; exact u2.tb c j z⟩, fun z => by rw [f7 109 22 (by omega)] at z; omega⟩, aq.ms⟩
    · have p1 : μ 109 22 = 1 := by omega
      have O := hO p1
      have dnb := O.nm.dn
      have q32 : ν2 109 32 = μ 109 32 := u2.nf 109 32 (by omega)
      have q20 : ν2 109 20 = g := by rw [u2.fr 109 20 (by unfold rdW; omega)]; exact hJ.i.hf
      rw [q20, q32, (l2 p1).1, show ab_w (16 * g) = 16 * g from ab_wi (by omega) (by omega), show ab_w (16 * g + μ 109 32) = 16 * g + μ 109 32 from ab_wi (by omega) (by omega)]
      refine ⟨by omega, fun ν9 e9 => ?_⟩
      have g9 : ∀ j, ν9 109 j = ν2 109 j := fun j => by rw [e9, mu_ne (by decide)]
      rw [g9, g9, g9, q20, q32, show ab_w (16 * g) = 16 * g from ab_wi (by omega) (by omega), show ab_w (16 * g + μ 109 32) = 16 * g + μ 109 32 from ab_wi (by omega) (by omega), u2.nf 109 21 (by omega)]
      refine ⟨by omega, fun ν10 e10 ν11 e11 => ?_⟩
      exact hN _ _ (u2.fin1 hJ p1 O hm (l2 p1).2 nx e9 e10 e11)
  -- the list
  have main : ∀ (m : Nat) (l : ab_l) (ν : ab_m) (a many : Int) (f : Nat), l 0 = 109 → l 3 = 1 → (μ 109 22 = 1 → l 2 = many ∧ μ 109 32 ≠ 15) → dL W g μ s ν a many → K (s.2.1 + 1) = 1 → K (s.2.1 + 2) = 40 → K (s.2.1 + 3) ≠ 41 → aNm K 3002 (s.2.1 + 3) = aNm K f a → 3002 ≤ (f : Int) + a → (W - a).toNat = m → jj_mM_readDef X (d + 4) 189 l [] ν P := by
    intro m
    induction m using Nat.strongRecOn with
    | ind m ih =>
      intro l ν a many f l0 l3 l2 u k1 k2 k3 e hf hmm
      have ge := u.ge
      have le := u.le
      have mn := u.mn
      have kk : ∀ i, ν 111 i = K i := fun i => by rw [u.fr 111 i (by unfold rdW; omega)]; exact hJ.i.K i
      have ps : ν 109 22 = μ 109 22 := u.fr 109 22 (by unfold rdW; omega)
      refine bk_mM_readDef_189 l0 ⟨fun w => by rw [l3] at w; exact absurd w (by decide), fun _ => ?_⟩
      rw [u.at', kk]
      refine ⟨by omega, fun q1 => ?_, fun _ => c_mM_misfit u.ft (by rw [u.at']; omega) fun ν1 m1 => hF _ (hJ.i.fault u.fr u.rs m1)⟩
      have La := aK_lt hJ.i.kk (by omega) le q1 (by decide)
      obtain ⟨f', rfl⟩ : ∃ f', f = f' + 1 := ⟨f - 1, by omega⟩
      have e' : aNm K 3002 (s.2.1 + 3) = if K (a + 1) = 44 then aNm K f' (a + 2) else some (a + 1) := by
        rw [e]
        show (if K a ≠ 1 then none else if K (a + 1) = 44 then aNm K f' (a + 2) else some (a + 1)) = _
        rw [if_neg (by omega)]
      -- behind a name
      have s253 : ∀ (l : ab_l) (ν8 : ab_m) (many' : Int), l 0 = 109 → (μ 109 22 = 1 → ab_w (l 2 + 1) = many' ∧ μ 109 32 ≠ 15) → ν8 109 40 = a → ν8 109 39 ≠ 5 → (∀ ν9, ν9 = ab_mu ν8 109 40 (a + 1) → dL W g μ s ν9 (a + 1) many') → jj_mM_readDef X (d + 4) 253 l [] ν8 P := by
        intro l ν8 many' l0 l2 q40 q39 hu
        refine bk_mM_readDef_253 l0 ⟨fun _ ν9 e9 => ?_, fun z => absurd z q39⟩
        rw [q40, show ab_w (a + 1) = a + 1 from ab_wi (by omega) (by omega)] at e9
        have u9 := hu ν9 e9
        have kk9 : ∀ i, ν9 111 i = K i := fun i => by rw [u9.fr 111 i (by unfold rdW; omega)]; exact hJ.i.K i
        rw [u9.at', kk9]
        refine ⟨by omega, fun n44 => ?_, fun y44 => ?_⟩
        · refine bk_mM_readDef_294 l0 ⟨fun _ ν1 e1 => ?_, fun w => absurd rfl w⟩
          rw [u9.at', Int.add_zero, show ab_w (a + 1) = a + 1 from ab_wi (by omega) (by omega)] at e1
          have : ν1 = ν9 := by
            rw [e1]
            funext c j
            rw [ab_mud]
            split
            · next q => rw [q.1, q.2, u9.at']
            · rfl
          subst this
          exact last _ _ (a + 1) many' l0 rfl l2 u9 k1 k2 (by rw [if_neg k3, e', if_neg n44])
        · have La2 := aK_lt hJ.i.kk (by omega) La y44 (by decide)
          refine bk_mM_readDef_294 l0 ⟨fun w => absurd w (by decide), fun _ ν1 e1 => ?_⟩
          rw [u9.at', show ab_w (a + 1 + 1) = a + 1 + 1 from ab_wi (by omega) (by omega)] at e1
          have u1 := u9.fld (ν' := ν1) (fun c j z => by rw [e1, ab_mud, if_neg (by omega)]) (by rw [e1, ab_mud, if_pos ⟨rfl, rfl⟩]) (by omega) La2
          exact ih _ (by omega) _ ν1 (a + 1 + 1) many' f' l0 rfl l2 u1 k1 k2 k3 (by rw [e', if_pos y44, show a + 1 + 1 = a + 2 by omega]) (by omega) rfl
      have f253 : ∀ (l : ab_l) (ν1 : ab_m), l 0 = 109 → rFt g μ0 ν1 → jj_mM_readDef X (d + 4) 253 l [] ν1 P := fun l ν1 l0 r1 => bk_mM_readDef_253 l0 ⟨fun z => absurd r1.m5 z, fun _ => hF _ r1⟩
      refine c_dL_newInt hJ.i hO u (by omega) (fun z0 => ⟨fun z => by rw [u.md] at z; exact absurd z (by decide), fun _ => ⟨fun _ => ?_, fun z => by omega⟩⟩) (fun w ν4 n4 => ⟨fun z => ?_, fun _ => ⟨fun z => ?_, fun _ => ⟨fun n6 => ?_, fun y6 => ?_⟩⟩⟩) (fun ν1 r1 => ⟨fun _ => f253 _ ν1 l0 r1, fun z => absurd r1.m5 z⟩)
      · exact s253 _ ν many l0 (fun w => by omega) u.at' (by rw [u.md]; decide) fun ν9 e9 => u.fld (fun c j z => by rw [e9, ab_mud, if_neg (by omega)]) (by rw [e9, ab_mud, if_pos ⟨rfl, rfl⟩]) (by omega) La
      · rw [n4.f 109 39 (by omega) (by omega), u.md] at z; exact absurd z (by decide)
      · exact absurd (by rw [n4.f 109 22 (by omega) (by omega), ps]; exact w) z
      · obtain ⟨l2a, l2b⟩ := l2 w
        have mx := (u.one w).1
        refine s253 _ ν4 (many + 1) l0 (fun _ => ⟨?_, l2b⟩) (by rw [n4.f 109 40 (by omega) (by omega)]; exact u.at') (by rw [n4.f 109 39 (by omega) (by omega), u.md]; decide) fun ν9 e9 => u.add w (hO w).nm.nm.1 (by rw [l2a] at n6; exact n6) n4 e9 La
        show ab_w (l 2 + 1) = many + 1
        rw [l2a]; exact ab_wi (by omega) (by omega)
      · refine c_mM_fail (by rw [n4.f 109 43 (by omega) (by omega)]; exact u.ft) (by decide) (by rw [n4.f 109 40 (by omega) (by omega), u.at']; omega) fun ν5 m5 => f253 _ ν5 l0 ?_
        refine hJ.i.fault (μ1 := ν4) (fun c j z => ?_) (fun j => by rw [n4.f 121 j (by omega) (by omega)]; exact u.rs j) m5
        rw [n4.f c j (fun y => z (by unfold rdW; omega)) (fun y => z (by unfold rdW; omega))]; exact u.fr c j z
  have s90 : ∀ (l : ab_l) (ν : ab_m), l 0 = 109 → K (s.2.1 + 1) = 1 → (μ 109 22 = 1 → μ 109 32 ≠ 15) → V g μ Γ dd ν (s.2.1 + 1) 0 (μ 109 46) [] 0 0 0 (hQ s) (sQ F s) (fun _ => False) (qP []) → (∀ c j, ¬ (c = 109 ∧ j = 40) → ν c j = μ c j) → jj_mM_readDef X (d + 4) 90 l [] ν P := by
    intro l ν l0 k1 h15 v fv
    have L2 := aK_lt hJ.i.kk (by omega) L1 k1 (by decide)
    refine bk_mM_readDef_90 l0 fun ν1 e1 => ?_
    have v1 := v.fa1 (by omega) e1
    rw [v.at']
    refine c_R_takeOpen v1.ft (by rw [v1.at']; omega) (fun q2 ν2 f2 a2 => ⟨fun _ => ?_, fun w => absurd w (by decide)⟩) (fun ν2 m2 => ⟨fun w => absurd rfl w, fun _ => hF _ (hJ.i.fault v1.fr v1.rs m2)⟩)
    rw [v1.at', v1.Kk hJ.i, show s.2.1 + 1 + 1 = s.2.1 + 2 by omega] at q2
    have L3 := aK_lt hJ.i.kk (by omega) (by omega) q2 (by decide)
    rw [v1.at', show s.2.1 + 1 + 1 + 1 = s.2.1 + 3 by omega] at a2
    have v2 : V g μ Γ dd ν2 (s.2.1 + 3) 0 (μ 109 46) [] 0 0 0 (hQ s) (sQ F s) (fun _ => False) (qP []) := v1.fld (fun c j z => f2 c j (by omega)) a2 (by rw [f2 109 39 (by omega)]; exact v1.md) (by rw [f2 109 46 (by omega)]; exact v1.op)
    have l2 : ν2 109 38 = 0 := v2.ln
    refine c_mM_push (by rw [l2]; decide) fun ν5 m5 => ?_
    obtain ⟨c1, c2, c3, c4, c5, c6, c7⟩ := m5
    rw [l2] at c1 c2 c3 c4 c5 c6 c7
    rw [c2, show ab_w ((0 : Int) + 1 - 1) = 0 from ab_wi (by decide) (by decide)]
    refine ⟨by decide, fun ν8 e8 => ?_⟩
    refine c_rd_beginBlock (L := 0) (by rw [e8, ab_mud, if_neg (by omega)]; exact c2) (by decide) fun ν9 f9 e9 => ?_
    have f : ∀ c j, ¬ (129 ≤ c ∧ c ≤ 133 ∧ j = 0) → ¬ (c = 109 ∧ (j = 28 ∨ j = 29 ∨ j = 38)) → ν9 c j = ν2 c j := fun c j z1 z2 => by
      rw [f9 c j (by omega) (by omega), e8, ab_mud, if_neg (by omega)]; exact c1 c j (by omega) (by omega)
    have base : ∀ ν14, (∀ c j, ¬ (c = 119 ∧ j = 16 * g + μ 109 32) → ν14 c j = ν9 c j) → (μ 109 22 = 1 → ν14 119 (16 * g + μ 109 32) = μ 109 30 ∧ 0 ≤ μ 109 32 ∧ μ 109 32 < 15) → (μ 109 22 = 0 → ∀ c j, ν14 c j = ν9 c j) → dL W g μ s ν14 (s.2.1 + 3) 0 := fun ν14 f14 h1 h0 => by
      have fe : ∀ c j, ¬ (129 ≤ c ∧ c ≤ 133 ∧ j = 0) → ¬ (c = 109 ∧ (j = 28 ∨ j = 29 ∨ j = 38)) → ¬ (c = 119 ∧ j = 16 * g + μ 109 32) → ν14 c j = ν2 c j := fun c j z1 z2 z3 => by rw [f14 c j z3]; exact f c j z1 z2
      refine ⟨fun c j z => ?_, by rw [fe 109 40 (by omega) (by omega) (by omega)]; exact v2.at', by omega, by omega, by rw [fe 109 39 (by omega) (by omega) (by omega)]; exact v2.md, ?_, ⟨?_, ?_, ?_, ?_⟩, by rw [fe 109 43 (by omega) (by omega) (by omega)]; exact v2.ft, fun c j z => by rw [fe c j (by omega) (by omega) (by omega)]; exact v2.tb c j z, fun j => by rw [fe 121 j (by omega) (by omega) (by omega)]; exact v2.rs j, fun c j z => ?_, by decide, fun w => ⟨by decide, by rw [fe 109 27 (by omega) (by omega) (by omega), v2.nf 109 27 (by omega)]; omega, by rw [fe 109 30 (by omega) (by omega) (by omega), v2.nf 109 30 (by omega)]; omega, (h1 w).1, fun i _ _ => ⟨by rw [fe 126 i (by omega) (by omega) (by omega)]; exact v2.nf 126 i (by omega), by rw [fe 127 i (by omega) (by omega) (by omega)]; exact v2.nf 127 i (by omega)⟩, fun i x y => by omega⟩⟩
      · rcases hJ.i.p01 with p0 | p1
        · rw [h0 p0 c j, f c j (fun y => z (by unfold rdW; omega)) (fun y => z (by unfold rdW; omega))]; exact v2.fr c j z
        · have := h1 p1
          rw [fe c j (fun y => z (by unfold rdW; omega)) (fun y => z (by unfold rdW; omega)) (fun y => z (by unfold rdW; omega))]; exact v2.fr c j z
      · rw [f14 109 38 (by omega), f9 109 38 (by omega) (by omega), e8, ab_mud, if_neg (by omega)]; exact c2
      · rw [f14 129 0 (by omega), f9 129 0 (by omega) (by omega), e8, ab_mud, if_neg (by omega)]; exact c3
      · rw [f14 130 0 (by omega), e9, e8, ab_mud, if_neg (by omega), c1 109 27 (by omega) (by omega)]; exact v2.nf 109 27 (by omega)
      · rw [f14 132 0 (by omega), f9 132 0 (by omega) (by omega), e8, ab_mud, if_neg (by omega)]; exact c6
      · rw [f14 133 0 (by omega), f9 133 0 (by omega) (by omega), e8, ab_mud, if_pos ⟨rfl, rfl⟩]
      · rw [fe c j (by omega) (by omega) (by omega), f2 c j (by omega), e1, ab_mud, if_neg (by omega)]
        exact fv c j (by omega)
    have ps : ν9 109 22 = μ 109 22 := by rw [f 109 22 (by omega) (by omega)]; exact v2.ps
    have go : ∀ ν14, dL W g μ s ν14 (s.2.1 + 3) 0 → ∀ l' : ab_l, l' 0 = 109 → l' 2 = 0 → ((0 : Int) ≤ ν14 109 40 ∧ (ν14 109 40 : Int) < 3002) ∧ (ν14 111 (ν14 109 40) = 41 → jj_mM_readDef X (d + 4) 189 (ab_up l' 3 0) [] ν14 P) ∧ (ν14 111 (ν14 109 40) ≠ 41 → jj_mM_readDef X (d + 4) 189 (ab_up l' 3 1) [] ν14 P) := fun ν14 u l' l0' l2' => by
      have kk : ∀ i, ν14 111 i = K i := fun i => by rw [u.fr 111 i (by unfold rdW; omega)]; exact hJ.i.K i
      rw [u.at', kk]
      refine ⟨by omega, fun y41 => last _ ν14 (s.2.1 + 3) 0 l0' rfl (fun w => ⟨l2', h15 w⟩) u k1 q2 (if_pos y41), fun n41 => main _ _ ν14 (s.2.1 + 3) 0 3002 l0' rfl (fun w => ⟨l2', h15 w⟩) u k1 q2 n41 rfl (by omega) rfl⟩
    refine ⟨fun n1 => go ν9 (base ν9 (fun _ _ _ => rfl) (fun w => absurd (by rw [ps]; exact w) n1) fun _ _ _ => rfl) _ l0 rfl, fun y1 => ?_⟩
    rw [ps] at y1
    have dnb := (hO y1).nm.dn
    have := h15 y1
    have q20 : ν9 109 20 = g := by rw [f 109 20 (by omega) (by omega)]; exact v2.h20
    have q32 : ν9 109 32 = μ 109 32 := by rw [f 109 32 (by omega) (by omega)]; exact v2.nf 109 32 (by omega)
    have q30 : ν9 109 30 = μ 109 30 := by rw [f 109 30 (by omega) (by omega)]; exact v2.nf 109 30 (by omega)
    rw [q20, q32, q30, show ab_w (16 * g) = 16 * g from ab_wi (by omega) (by omega), show ab_w (16 * g + μ 109 32) = 16 * g + μ 109 32 from ab_wi (by omega) (by omega)]
    refine ⟨by omega, fun ν14 e14 => ?_⟩
    exact go ν14 (base ν14 (fun c j z => by rw [e14, ab_mud, if_neg z]) (fun _ => ⟨by rw [e14, ab_mud, if_pos ⟨rfl, rfl⟩], by omega⟩) fun z => by omega) _ l0 rfl
  refine bk_mM_readDef_0 rfl fun ν1 e1 => ?_
  have v1 := v0.fa1 (by omega) e1
  have fv1 : ∀ c j, ¬ (c = 109 ∧ j = 40) → ν1 c j = μ c j := fun c j z => by rw [e1, ab_mud, if_neg z]
  rw [v1.at', v1.Kk hJ.i]
  have s62 : K (s.2.1 + 1) = 1 → ∀ l : ab_l, l 0 = 109 → jj_mM_readDef X (d + 4) 62 l [] ν1 P := by
    intro k1 l l0
    refine bk_mM_readDef_62 l0 ?_
    rw [v1.nf 109 32 (by omega)]
    exact ⟨fun n1 => s90 _ _ l0 k1 (fun w => absurd (by rw [v1.ps]; exact w) n1) v1 fv1, fun _ => ⟨fun n8 => s90 _ _ l0 k1 (fun _ => n8) v1 fv1, fun _ => c_V_fail hJ.i v1 (by decide) (by rw [v1.at']; omega) hF⟩⟩
  refine ⟨by omega, fun k1 => ⟨fun _ => s62 k1 _ rfl, fun y1 => ⟨by omega, ?_⟩⟩, fun _ => c_V_misfit hJ.i v1 (by omega) hF⟩
  rw [v1.ps] at y1
  have nm := (hO y1).nm.nm
  refine c_mM_isTold (by rw [v1.nf 109 27 (by omega)]; omega) fun q hq => ⟨fun _ => s62 k1 _ rfl, fun _ => ?_⟩
  exact c_V_fail hJ.i v1 (by decide) (by rw [v1.at']; omega) hF
end M68

