/-! THE REFERENCE, part 65: readRow -/
section M65
variable {X : jm_X} {d : Nat} {P : Int → ab_m → Prop} {K : Int → Int} {W g : Int} {s0 : aS} {μ0 μ ν μ' : ab_m} {s s' : aS} {Γ Γ' : tQ} {F F' : Int → List Int} {dd : Int} {Ln : Int → Nat} {G : Int → List Int} {a m o : Int} {p r : List aE} {kp k wv hh n dn : Int} {ss : List Int} {ex pd : Int → Prop} {q : Int}
theorem V.fin0 (v : V g μ Γ dd ν s'.2.1 s'.1 o s'.2.2.2 kp k wv hh ss ex q) (hJ : J K W g s0 μ0 μ s) (w0 : μ 109 22 = 0) (hZ : rZ K W s0 μ s G) (e : aNext K s = some (s', none)) (ho : s'.1 = 3 → o = s'.2.2.1) : J K W g s0 μ0 ν s' ∧ aMs W s' < aMs W s := by
  have aq := aNext_q hJ.i.kk hJ.i.w _ _ e
  have e22 : ν 109 22 = μ 109 22 := v.ps
  have ri : rI K W g μ0 ν s' := hJ.i.go e v.fr (fun j _ _ => Or.inl (v.rs j)) (by rw [v.ft, hJ.i.ft]) ⟨v.md, v.at', fun m3 => by rw [v.op]; exact ho m3, v.ln, v.ap⟩
  exact ⟨⟨ri, fun _ => ⟨G, hZ.go hJ.i e v.tb⟩, fun z => by omega⟩, aq.ms⟩
set_option maxHeartbeats 1000000 in
theorem c_rd_readRow (hJ : J K W g s0 μ0 μ s) (hm : s.1 = 0) (hk : K s.2.1 = 20) (hF : ∀ ν', rFt g μ0 ν' → P 0 ν') (hN : ∀ ν' s', J K W g s0 μ0 ν' s' ∧ aMs W s' < aMs W s → P 0 ν') : jj_mM_readRow X (d + 4) 0 (ab_la [109]) [] μ P := by
  obtain ⟨Γ, F, dd, Ln, G, hO, hZ⟩ := hJ.get
  have at0 := hJ.at'
  have W3 := hJ.i.kk.2.1
  have g01 := hJ.i.g01
  have hs := hJ.i.w.m0 hm
  have v0 := hJ.v0 hO
  rw [hm, hQ_m (by omega), sQ_m (by omega), hs] at v0
  have L1 := aK_lt hJ.i.kk at0.1 at0.2.2 hk (by decide)
  -- the number, then ] and ;
  have s178 : ∀ (l : ab_l) (ν : ab_m), l 0 = 109 → K (s.2.1 + 1) = 1 → K (s.2.1 + 2) = 91 → K (s.2.1 + 3) = 2 → s.2.1 + 4 ≤ W → (μ 109 22 = 1 → μ 109 31 ≠ 8 ∧ 1 ≤ l 3 ∧ l 3 ≤ 100) → V g μ Γ dd ν (s.2.1 + 3) 0 (μ 109 46) [] 0 0 0 (hP []) (sP F []) (fun _ => False) (qP []) → jj_mM_readRow X (d + 4) 178 l [] ν P := by
    intro l ν l0 k1 k2 k3 lW h31 v
    refine bk_mM_readRow_178 l0 fun ν1 e1 => ?_
    have v1 := v.fa1 (by omega) e1
    refine c_V_takeClose2 hJ.i v1 (by omega) (fun k4 ν2 v2 f2 => ⟨fun w => absurd w (by decide), fun _ => ?_⟩) (fun ν1 f1 => ⟨fun _ => hF _ f1, fun w => absurd rfl w⟩)
    rw [show s.2.1 + 3 + 1 = s.2.1 + 4 by omega] at k4 v2
    have L5 := aK_lt hJ.i.kk (by omega) lW k4 (by decide)
    refine c_V_take2 hJ.i v2 (by omega) (fun k5 ν5 v5 f5 => ⟨fun w => absurd w (by decide), fun _ => ?_⟩) (fun ν1 f1 => ⟨fun _ => hF _ f1, fun w => absurd rfl w⟩)
    rw [show s.2.1 + 4 + 1 = s.2.1 + 5 by omega] at k5 v5
    have L6 := aK_lt hJ.i.kk (by omega) (by omega) k5 (by decide)
    have nx : aNext K s = some ((s.1, s.2.1 + 5 + 1, s.2.2.1, s.2.2.2), none) := by
      rw [show s.2.1 + 5 + 1 = s.2.1 + 6 by omega]
      simp [aNext, aDecl, hm, hk, k1, k2, k3, k4, k5]
    have aq := aNext_q hJ.i.kk hJ.i.w _ _ nx
    refine ⟨fun n0 => ?_, fun z0 => ?_⟩
    · have p1 : μ 109 22 = 1 := by rw [v5.ps] at n0; have := hJ.i.p01; omega
      have O := hO p1
      obtain ⟨h1, h2, h3⟩ := h31 p1
      have rwb := O.nm.rw
      have nmb := O.nm.nm
      have q31 : ν5 109 31 = μ 109 31 := v5.nf 109 31 (by omega)
      have q27 : ν5 109 27 = μ 109 27 := v5.nf 109 27 (by omega)
      rw [v5.h20, q31, show ab_w (8 * g) = 8 * g from ab_wi (by omega) (by omega), show ab_w (8 * g + μ 109 31) = 8 * g + μ 109 31 from ab_wi (by omega) (by omega)]
      refine ⟨by omega, fun ν8 e8 => ?_⟩
      have g8 : ∀ j, ν8 109 j = ν5 109 j := fun j => by rw [e8, mu_ne (by decide)]
      rw [g8, q31]
      refine c_mM_addName (by rw [g8, q27]; omega) fun ν9 m9 ν e => ?_
      obtain ⟨c1, c2, c3, c4⟩ := m9
      rw [g8, q27] at c1 c2 c3 c4
      rw [c1 109 31 (by omega) (by omega), g8, q31, show ab_w (μ 109 31 + 1) = μ 109 31 + 1 from ab_wi (by omega) (by omega)] at e
      have f : ∀ c j, ¬ (c = 109 ∧ (j = 27 ∨ j = 31)) → ¬ (125 ≤ c ∧ c ≤ 128 ∧ j = μ 109 27) → ¬ (c = 121 ∧ j = 8 * g + μ 109 31) → ν c j = ν5 c j := fun c j z1 z2 z3 => by
        rw [e, ab_mud, if_neg (by omega), c1 c j z2 (by omega), e8, ab_mud, if_neg (by omega)]
      have h27 : ν 109 27 = μ 109 27 + 1 := by rw [e, ab_mud, if_neg (by omega)]; exact c2
      have h31' : ν 109 31 = μ 109 31 + 1 := by rw [e, ab_mud, if_pos ⟨rfl, rfl⟩]
      have h126 : ν 126 (μ 109 27) = 1 := by rw [e, ab_mud, if_neg (by omega)]; exact c3
      have h127 : ν 127 (μ 109 27) = μ 109 31 := by rw [e, ab_mud, if_neg (by omega)]; exact c4
      have h121 : ∀ j, ν 121 j = μ 121 j ∨ (0 ≤ ν 121 j ∧ ν 121 j ≤ 100) := fun j => by
        by_cases ej : j = 8 * g + μ 109 31
        · refine Or.inr ?_
          rw [e, ab_mud, if_neg (by omega), c1 121 j (by omega) (by omega), e8, ab_mud, if_pos ⟨rfl, ej⟩]
          omega
        · exact Or.inl (by rw [f 121 j (by omega) (by omega) (by omega)]; exact v5.rs j)
      have fr : fRd g μ ν := fun c j z => by
        rw [f c j (fun y => z (by unfold rdW; omega)) (fun y => z (by unfold rdW; omega)) (fun y => z (by unfold rdW; omega))]; exact v5.fr c j z
      have ri : rI K W g μ0 ν (s.1, s.2.1 + 5 + 1, s.2.2.1, s.2.2.2) := hJ.i.go nx fr (fun j _ _ => h121 j) (by rw [f 109 43 (by omega) (by omega) (by omega), v5.ft, hJ.i.ft]) ⟨by rw [f 109 39 (by omega) (by omega) (by omega), v5.md]; exact hm.symm, by rw [f 109 40 (by omega) (by omega) (by omega)]; exact v5.at', fun m3 => by have m3 : s.1 = 3 := m3; omega, by rw [f 109 38 (by omega) (by omega) (by omega), v5.ln]; show _ = (s.2.2.2.length : Int); rw [hs], by show aP ν s.2.2.2; rw [hs]; trivial⟩
      have e22 : ν 109 22 = 1 := by rw [f 109 22 (by omega) (by omega) (by omega), v5.ps]; exact p1
      refine hN _ _ ⟨⟨ri, fun z => by omega, fun _ => ?_⟩, aq.ms⟩
      obtain ⟨Γ', x, nn, Gk, ww⟩ := v5.one p1
      rw [show μ 109 21 + 0 = μ 109 21 by omega] at x nn ww
      have h21 : ν 109 21 = μ 109 21 := by rw [f 109 21 (by omega) (by omega) (by omega)]; exact nn
      have h32 : ν 109 32 = μ 109 32 := by rw [f 109 32 (by omega) (by omega) (by omega)]; exact v5.nf 109 32 (by omega)
      have xc := x.frame (μ' := ν) ⟨fun j _ _ => f 115 _ (by omega) (by omega) (by omega), fun j _ _ => f 116 _ (by omega) (by omega) (by omega), fun c j _ => f c j (by omega) (by omega) (by omega), fun c j _ _ _ z => by simp at z; omega⟩
      have n0' := O.x.n0
      have bu := O.bu
      have bw := O.bw
      have b3 := O.b3.2 (by rw [hs]; show (0 : Int) ≠ 3; decide)
      have sl : (sW Ln s.2.1.toNat : Int) ≤ sW Ln (s.2.1 + 5 + 1).toNat := sW_at at0.1 (by omega)
      have hD : ∀ y, (tEv μ g dd).2.2.2.2.1 y → (tEv ν g dd).2.2.2.2.1 y := dD (by rw [f 123 g (by omega) (by omega) (by omega)]; exact v5.nf 123 g (by omega)) fun j => by rw [f 122 j (by omega) (by omega) (by omega)]; exact v5.nf 122 j (by omega)
      have hD' : ∀ y, (tEv ν g dd).2.2.2.2.1 y → (tEv μ g dd).2.2.2.2.1 y := dD (by rw [f 123 g (by omega) (by omega) (by omega)]; exact (v5.nf 123 g (by omega)).symm) fun j => by rw [f 122 j (by omega) (by omega) (by omega)]; exact (v5.nf 122 j (by omega)).symm
      have nmk : ∀ i, i ≠ μ 109 27 → ν 126 i = μ 126 i ∧ ν 127 i = μ 127 i := fun i z => ⟨by rw [f 126 i (by omega) (by omega) (by omega)]; exact v5.nf 126 i (by omega), by rw [f 127 i (by omega) (by omega) (by omega)]; exact v5.nf 127 i (by omega)⟩
      have e30 : ν 109 30 = μ 109 30 := by rw [f 109 30 (by omega) (by omega) (by omega)]; exact v5.nf 109 30 (by omega)
      refine ⟨Γ', F, dd, Ln, O.fin' hJ.i nx ?_ (fun c j z => by rw [f c j (by omega) (by omega) (by omega)]; exact v5.tb c j (by omega)) ?_ ?_ ?_ ⟨h32, by rw [f 124 g (by omega) (by omega) (by omega)]; exact v5.nf 124 g (by omega)⟩ rfl Gk (by omega) fun z => ?_⟩
      · rw [h21, h32, hQ_m (s := (s.1, s.2.1 + 5 + 1, s.2.2.1, s.2.2.2)) (by show s.1 ≠ 3; omega), sQ_m (s := (s.1, s.2.1 + 5 + 1, s.2.2.1, s.2.2.2)) (by show s.1 ≠ 3; omega)]
        show x1 ν g Γ' dd s.2.2.2 _ (hP s.2.2.2) (sP F s.2.2.2) _ (pN ν g (qP s.2.2.2) s.2.2.2.length) (qP s.2.2.2)
        rw [hs]
        refine xc.more fun k _ _ _ z => ?_
        rcases z with ⟨i, i0, i1, -⟩ | z
        · simp at i1; omega
        · exact z.elim
      · rw [h21]
        show μ 109 21 + pEn s.2.2.2 ≤ 2 * (s.2.1 + 5 + 1) + (sW Ln (s.2.1 + 5 + 1).toNat : Int)
        omega
      · rw [h21, ww]
        show 2 * (Γ.2.2.1 (μ 109 21) + 0) ≤ s.2.1 + 5 + 1 + pDo s.2.2.2 + 2 * (sW Ln (s.2.1 + 5 + 1).toNat : Int)
        omega
      · have it := O.nm.it
        have dm := O.nm.dm
        have nb := O.nm.nb
        rw [hs] at nb
        show nmI ν g Γ' (tEv ν g dd) s.2.2.2 (ν 109 21) (s.2.1 + 5 + 1)
        rw [hs]
        refine ⟨by rw [h27]; omega, by rw [e30]; omega, by rw [f 123 g (by omega) (by omega) (by omega), v5.nf 123 g (by omega)]; omega, by rw [h31']; omega, by rw [h32]; exact O.nm.dn, fun i i0 i1 => ?_, fun i i0 i1 i2 => ?_, fun y hy => by rw [e30]; exact O.nm.dc y (hD' y hy)⟩
        · rw [h27] at i1
          rw [e30, h32]
          by_cases ei : i = μ 109 27
          · subst ei
            rw [h126, h127]
            exact ⟨fun z => absurd z (by decide), fun _ => by omega, fun z => absurd z (by decide)⟩
          · rw [(nmk i ei).1, (nmk i ei).2]
            obtain ⟨k0, k1, k2⟩ := O.nm.nk i i0 (by omega)
            exact ⟨fun z => ⟨(k0 z).1, (k0 z).2.1, Or.inl (hD _ (nb i i0 (by omega) z))⟩, k1, k2⟩
        · rw [h27] at i1
          by_cases ei : i = μ 109 27
          · subst ei; rw [h126] at i2; exact absurd i2 (by decide)
          · rw [(nmk i ei).2]
            rw [(nmk i ei).1] at i2
            exact hD _ (nb i i0 (by omega) i2)
      · rw [h21]
        have z0 := O.z0 hs
        have gn := Gk (μ 109 21) n0' (Int.le_refl _)
        rw [gn.2.2.2.2]; exact z0
    · have p0 : μ 109 22 = 0 := by rw [← v5.ps]; exact z0
      exact hN _ _ (V.fin0 (s' := (s.1, s.2.1 + 5 + 1, s.2.2.1, s.2.2.2)) (by show V g μ Γ dd ν5 (s.2.1 + 5 + 1) s.1 (μ 109 46) s.2.2.2 0 0 0 (hP []) (sP F []) (fun _ => False) (qP []); rw [hs, hm]; exact v5) hJ p0 (hZ p0) nx fun z => by have z : s.1 = 3 := z; omega)
  have s90 : ∀ (l : ab_l) (ν : ab_m), l 0 = 109 → K (s.2.1 + 1) = 1 → (μ 109 22 = 1 → μ 109 31 ≠ 8) → V g μ Γ dd ν (s.2.1 + 1) 0 (μ 109 46) [] 0 0 0 (hP []) (sP F []) (fun _ => False) (qP []) → jj_mM_readRow X (d + 4) 90 l [] ν P := by
    intro l ν l0 k1 h31 v
    have L2 := aK_lt hJ.i.kk (by omega) L1 k1 (by decide)
    refine bk_mM_readRow_90 l0 ?_
    refine ⟨by rw [v.at']; omega, fun ν1 e1 => ?_⟩
    have v1 := v.fa1 (by omega) e1
    refine c_V_takeOpen hJ.i v1 (by omega) (fun k2 ν2 v2 => ⟨fun _ => ?_, fun w => absurd w (by decide)⟩) (fun ν1 f1 => ⟨fun w => absurd rfl w, fun _ => hF _ f1⟩)
    rw [show s.2.1 + 1 + 1 = s.2.1 + 2 by omega] at k2
    rw [show s.2.1 + 1 + 1 + 1 = s.2.1 + 3 by omega] at v2
    have L3 := aK_lt hJ.i.kk (by omega) (by omega) k2 (by decide)
    rw [v2.at', v2.Kk hJ.i]
    refine ⟨by omega, fun k3 => ⟨by omega, ?_⟩, fun _ => c_V_misfit hJ.i v2 (by omega) hF⟩
    have L4 := aK_lt hJ.i.kk (by omega) (by omega) k3 (by decide)
    have go : (μ 109 22 = 1 → 1 ≤ ν2 113 (s.2.1 + 3) ∧ ν2 113 (s.2.1 + 3) ≤ 100) → jj_mM_readRow X (d + 4) 178 (ab_up (ab_up l 1 (ν 114 (ν 109 40))) 3 (ν2 113 (s.2.1 + 3))) [] ν2 P := fun h => s178 _ ν2 l0 k1 k2 k3 (by omega) (fun w => ⟨h31 w, (h w).1, (h w).2⟩) v2
    refine ⟨fun n1 => go fun w => absurd (by rw [v2.ps]; exact w) n1, fun _ => ⟨fun _ => c_V_fail hJ.i v2 (by decide) (by omega) hF, fun ge => ⟨fun le => go fun _ => ⟨ge, le⟩, fun _ => c_V_fail hJ.i v2 (by decide) (by omega) hF⟩⟩⟩
  refine bk_mM_readRow_0 rfl fun ν1 e1 => ?_
  have v1 := v0.fa1 (by omega) e1
  rw [v1.at', v1.Kk hJ.i]
  have s62 : K (s.2.1 + 1) = 1 → ∀ l : ab_l, l 0 = 109 → jj_mM_readRow X (d + 4) 62 l [] ν1 P := by
    intro k1 l l0
    refine bk_mM_readRow_62 l0 ?_
    rw [v1.nf 109 31 (by omega)]
    exact ⟨fun n1 => s90 _ _ l0 k1 (fun w => absurd (by rw [v1.ps]; exact w) n1) v1, fun _ => ⟨fun n8 => s90 _ _ l0 k1 (fun _ => n8) v1, fun _ => c_V_fail hJ.i v1 (by decide) (by rw [v1.at']; omega) hF⟩⟩
  refine ⟨by omega, fun k1 => ⟨fun _ => s62 k1 _ rfl, fun y1 => ⟨by omega, ?_⟩⟩, fun _ => c_V_misfit hJ.i v1 (by omega) hF⟩
  rw [v1.ps] at y1
  have nm := (hO y1).nm.nm
  refine c_mM_isTold (by rw [v1.nf 109 27 (by omega)]; omega) fun q hq => ⟨fun _ => s62 k1 _ rfl, fun _ => ?_⟩
  exact c_V_fail hJ.i v1 (by decide) (by rw [v1.at']; omega) hF
end M65

