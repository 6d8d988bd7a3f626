/-! THE REFERENCE, part 63: endDef, readStatement -/
section M63
variable {X : jm_X} {d : Nat} {P : Int → ab_m → Prop} {K : Int → Int} {W g : Int} {s0 : aS} {μ0 μ ν μ' : ab_m} {s s' : aS} {Γ Γ' : tQ} {F F' : Int → List Int} {dd : Int} {Ln : Int → Nat} {G : Int → List Int} {n dn : Int} {pd : Int → Prop} {e : aE}
set_option maxHeartbeats 1000000 in
theorem c_rd_endDef (hJ : J K W g s0 μ0 μ s) (hm : s.1 = 1) (hk : K s.2.1 = 125) (ht : aTop s.2.2.2 = 3) (hN : ∀ ν' s', J K W g s0 μ0 ν' s' ∧ aMs W s' < aMs W s → P 0 ν') : jj_mM_endDef X (d + 2) 0 (ab_la [109]) [] μ P := by
  obtain ⟨Γ, F, dd, Ln, G, hO, hZ⟩ := hJ.get
  have hp := hJ.i.w.m1 (Or.inl hm)
  have room := hJ.room hO
  have at0 := hJ.at'
  have W3 := hJ.i.kk.2.1
  have g01 := hJ.i.g01
  have lW := aK_lt hJ.i.kk at0.1 at0.2.2 hk (by decide)
  obtain ⟨r1, r2, -, r4, r5⟩ := hJ.i.r
  cases hs : s.2.2.2 with
  | nil => rw [hs] at hp; exact hp.elim
  | cons e r =>
    rw [hs] at hp ht r4 r5
    have ek : e.1 = 3 := ht
    have hrw : r = [] ∧ 0 ≤ e.2.2.1 ∧ e.2.2.1 < 3002 := by
      rcases hp with ⟨z1, z⟩ | ⟨z, -⟩
      · exact ⟨z, by omega, by omega⟩
      · omega
    obtain ⟨hr, ew0, ew1⟩ := hrw
    subst hr
    have r4 : μ 109 38 = 1 := r4
    have k129 : μ 129 0 = 3 := by rw [← ek]; exact r5.1.1
    have k133 : μ 133 0 = e.2.2.1 := r5.1.2.2.2.2.2.2 ek
    have w0 : ab_w (1 - 1) = 0 := ab_wi (by decide) (by decide)
    have nx : aNext K s = some ((0, s.2.1 + 1, s.2.2.1, []), none) := by
      simp [aNext, aStat, hm, hk, hs, aTop, ek]
    have aq := aNext_q hJ.i.kk hJ.i.w _ _ nx
    refine bk_mM_endDef_0 rfl ?_
    rw [r4, w0]
    refine ⟨by decide, ?_⟩
    rcases hJ.i.p01 with p0 | p1
    · -- pass 0
      refine c_mM_tellChain (L := []) (by rw [hJ.i.hf]; exact g01) (fun z => by omega) (fun _ => ?_) fun z => by omega
      refine c_mM_step0 p0 ?_
      rw [r4, w0]
      refine ⟨by decide, c_mM_endBlock (by omega) fun ν7 f7 e7 ν10 e10 ν11 e11 ν12 e12 => ?_⟩
      rw [f7 109 38 (by omega), r4, w0] at e10
      have q40 : ν11 109 40 = s.2.1 := by rw [e11, ab_mud, if_neg (by omega), e10, ab_mud, if_neg (by omega), f7 109 40 (by omega)]; exact r2
      rw [q40, show ab_w (s.2.1 + 1) = s.2.1 + 1 from ab_wi (by omega) (by omega)] at e12
      have f12 : ∀ c j, ¬ (c = 109 ∧ (j = 27 ∨ j = 29 ∨ j = 38 ∨ j = 40 ∨ j = 41)) → ν12 c j = μ c j := fun c j z => by
        rw [e12, ab_mud, if_neg (by omega), e11, ab_mud, if_neg (by omega), e10, ab_mud, if_neg (by omega)]; exact f7 c j (by omega)
      refine ⟨fun _ ν e => ?_, fun z => by rw [f12 109 22 (by omega)] at z; omega⟩
      have f : ∀ c j, ¬ (c = 109 ∧ (j = 27 ∨ j = 29 ∨ j = 38 ∨ j = 39 ∨ j = 40 ∨ j = 41)) → ν c j = μ c j := fun c j z => by rw [e, ab_mud, if_neg (by omega)]; exact f12 c j (by omega)
      have ri : rI K W g μ0 ν (0, s.2.1 + 1, s.2.2.1, []) := hJ.i.go nx (fun c j z => f c j fun y => z (by unfold rdW; omega)) (fun j _ _ => Or.inl (f 121 j (by omega))) (f 109 43 (by omega)) ⟨by rw [e, ab_mud, if_pos ⟨rfl, rfl⟩], by rw [e, ab_mud, if_neg (by omega), e12, ab_mud, if_pos ⟨rfl, rfl⟩], fun m3 => absurd (show (0 : Int) = 3 from m3) (by decide), by rw [e, ab_mud, if_neg (by omega), e12, ab_mud, if_neg (by omega), e11, ab_mud, if_neg (by omega), e10, ab_mud, if_pos ⟨rfl, rfl⟩]; rfl, trivial⟩
      exact hN _ _ ⟨⟨ri, fun _ => ⟨G, (hZ p0).go hJ.i nx fun c j z => f c j (by omega)⟩, fun z => by rw [f 109 22 (by omega)] at z; omega⟩, aq.ms⟩
    · -- pass 1
      have O := hO p1
      have rm := room p1
      have v0 := hJ.v0 fun _ => O
      rw [hm, hQ_m (by omega), sQ_m (by omega), hs, hp.h0, hp.qm] at v0
      have ss0 : sP F [e] = [] := by rw [sP_cons, if_neg (by omega)]; unfold sO; rw [if_neg (by omega), if_neg (by omega), if_neg (by omega), if_neg (by omega), if_neg (by omega), if_neg (by omega)]; rfl
      rw [ss0] at v0
      have X0 := O.x
      rw [hs, hQ_m (by omega), sQ_m (by omega), hs, hp.h0, hp.qm, ss0] at X0
      have b3 := O.b3.1 (by rw [hs]; exact ek)
      obtain ⟨L, mL, hL⟩ := X0.chn.df 0 (by decide) (by simp) k129
      refine c_mM_tellChain (L := L) (by rw [hJ.i.hf]; exact g01) (fun _ => by rw [hJ.i.hf]; exact mL) (fun z => absurd p1 z) fun _ ν1 f1 t1 => ?_
      rw [hJ.i.hf] at f1 t1
      have fo1 : ∀ c j, c ≠ 116 → ν1 c j = μ c j := fun c j z => f1 c j fun y => z y.1
      have vh := v0.pop (ν' := ab_mu μ 109 38 0) (kp' := 0) (fun c j z => by rw [ab_mud, if_neg (by omega)]) (by rw [ab_mud, if_pos ⟨rfl, rfl⟩]; rfl) (by simp)
      have v1 := vh.chain (ν' := ab_mu ν1 109 38 0) (L := L) (fun c j z => by
        rw [ab_mud, ab_mud]
        split
        · rfl
        · exact f1 c j z) (fun y hy => ⟨Or.inr (Or.inr (Or.inr (Or.inr (Or.inl ⟨Or.inr (Or.inr k129), L, mL, hy⟩)))), by
            rw [ab_mud, if_neg (by omega), show μ 115 (9000 * g + y) = 26 from (hL y hy).2.2.1]
            unfold tGo; decide, (hL y hy).1, by have := (hL y hy).2.1; omega⟩) (fun i L' i0 i1 => by simp at i1; omega)
      have v1' := v1.more (ex' := fun _ => False) fun w Γ' x Gk j j0 j1 z => Or.inr (by
        have z : pE μ g (-1) 0 j := z.elim (fun z => z.elim) id
        have jL : j ∈ L := by
          unfold pE at z
          rw [k129] at z
          rcases z with z | z | z | ⟨-, L2, m2, h2⟩ | ⟨-, z, -⟩
          · omega
          · omega
          · omega
          · rw [m2.uniq mL] at h2; exact h2
          · omega
        have hy := hL j jL
        have gn := Gk (μ 109 21) rm.1 (Int.le_refl _)
        refine tJ_mk (t := μ 109 21) Gk hy (v1.tx j hy.1 hy.2.1).1 ?_ ⟨hy.2.1, by omega⟩ (by rw [gn.1, X0.ch]; rfl) gn.2.2.2.1 (fun z => ?_)
        · rw [ab_mud, if_neg (by omega), t1 j jL]
        · rw [gn.2.1, X0.cs] at z; cases z)
      obtain ⟨Γ1, x1', n1, G1, w1⟩ := v1'.one p1
      rw [show μ 109 21 + 0 = μ 109 21 by omega] at x1' w1
      have xa : x1 ν1 g Γ1 dd [] (μ 109 21) 0 [] (μ 109 32) (fun _ => False) (-1) := by
        refine ((x1'.frame (μ' := ν1) ⟨fun j _ _ => by rw [ab_mud, if_neg (by omega)], fun j _ _ => by rw [ab_mud, if_neg (by omega)], fun c j _ => by rw [ab_mud, if_neg (by omega)], fun c j _ _ _ z => by simp at z; omega⟩).qq (q' := -1) fun i i0 i1 _ => by simp at i1; omega).more fun k _ _ _ z => ?_
        rcases z with ⟨i, i0, i1, -⟩ | z
        · simp at i1; omega
        · exact Or.inl z
      have q21 : ν1 109 21 = μ 109 21 := fo1 109 21 (by decide)
      have q20 : ν1 109 20 = g := by rw [fo1 109 20 (by decide)]; exact hJ.i.hf
      refine c_mM_step (by rw [fo1 109 22 (by decide)]; exact p1) (by rw [q20]; exact g01) (by rw [q21]; omega) fun ν4 m4 => ?_
      obtain ⟨Γ2, xb, wb, zb, G2⟩ := xa.defEnd m4 q20 q21 b3.1
      have m1 := m4.1
      rw [q20, q21] at m1
      have q38 : ν4 109 38 = 1 := by rw [m1 109 38 (by omega) (by omega), fo1 109 38 (by decide)]; exact r4
      rw [q38, w0]
      refine ⟨by decide, c_mM_endBlock (by omega) fun ν7 f7 e7 ν10 e10 ν11 e11 ν12 e12 => ?_⟩
      rw [f7 109 38 (by omega), q38, w0] at e10
      have q40 : ν11 109 40 = s.2.1 := by rw [e11, ab_mud, if_neg (by omega), e10, ab_mud, if_neg (by omega), f7 109 40 (by omega), m1 109 40 (by omega) (by omega), fo1 109 40 (by decide)]; exact r2
      rw [q40, show ab_w (s.2.1 + 1) = s.2.1 + 1 from ab_wi (by omega) (by omega)] at e12
      have f12 : ∀ c j, ¬ (c = 109 ∧ (j = 27 ∨ j = 29 ∨ j = 38 ∨ j = 40 ∨ j = 41)) → ν12 c j = ν4 c j := fun c j z => by
        rw [e12, ab_mud, if_neg (by omega), e11, ab_mud, if_neg (by omega), e10, ab_mud, if_neg (by omega)]; exact f7 c j (by omega)
      have a0 : ν4 130 0 = μ 130 0 := by rw [m1 130 0 (by omega) (by omega), fo1 130 0 (by decide)]
      have q27 : ν12 109 27 = μ 130 0 := by
        rw [e12, ab_mud, if_neg (by omega), e11, ab_mud, if_neg (by omega), e10, ab_mud, if_neg (by omega), e7, q38]
        rw [show (1 : Int) - 1 = 0 from rfl]; exact a0
      have g4 : ∀ c j, c ≠ 115 → c ≠ 116 → c ≠ 117 → ¬ (c = 109 ∧ j = 21) → ν4 c j = μ c j := fun c j z1 z2 z3 z4 => by rw [m1 c j (by omega) z4]; exact fo1 c j z2
      have q32 : ν12 109 32 = μ 109 32 := by rw [f12 109 32 (by omega)]; exact g4 109 32 (by decide) (by decide) (by decide) (by omega)
      have nb := O.nm.nb
      rw [hs] at nb
      unfold nB at nb
      rw [if_pos (by omega)] at nb
      have nb : 0 ≤ μ 130 0 ∧ μ 130 0 ≤ μ 109 27 ∧ nB μ (tEv μ g dd) [] (μ 130 0) := nb
      have nmb := O.nm.nm
      have dnb := O.nm.dn
      refine ⟨fun z => absurd (by rw [f12 109 22 (by omega), g4 109 22 (by decide) (by decide) (by decide) (by omega)]; exact p1) z, fun _ => ?_⟩
      rw [show ν4 133 0 = e.2.2.1 by rw [g4 133 0 (by decide) (by decide) (by decide) (by omega)]; exact k133]
      refine ⟨⟨ew0, ew1⟩, ?_⟩
      rw [q32]
      refine c_mM_addName (by rw [q27]; omega) fun ν15 m15 ν18 e18 ν e => ?_
      obtain ⟨c1, c2, c3, c4⟩ := m15
      rw [q27] at c1 c2 c3 c4
      rw [show ν15 109 32 = μ 109 32 by rw [c1 109 32 (by omega) (by omega)]; exact q32, show ab_w (μ 109 32 + 1) = μ 109 32 + 1 from ab_wi (by omega) (by omega)] at e18
      -- all that changed
      have f : ∀ c j, ¬ (c = 109 ∧ (j = 27 ∨ j = 29 ∨ j = 32 ∨ j = 38 ∨ j = 39 ∨ j = 40 ∨ j = 41)) → ¬ (125 ≤ c ∧ c ≤ 128 ∧ j = μ 130 0) → ν c j = ν4 c j := fun c j z1 z2 => by
        rw [e, ab_mud, if_neg (by omega), e18, ab_mud, if_neg (by omega), c1 c j z2 (by omega)]; exact f12 c j (by omega)
      have fm : ∀ c j, c ≠ 115 → c ≠ 116 → c ≠ 117 → ¬ (c = 109 ∧ (j = 21 ∨ j = 27 ∨ j = 29 ∨ j = 32 ∨ j = 38 ∨ j = 39 ∨ j = 40 ∨ j = 41)) → ¬ (125 ≤ c ∧ c ≤ 128 ∧ j = μ 130 0) → ν c j = μ c j := fun c j z1 z2 z3 z4 z5 => by rw [f c j (by omega) z5]; exact g4 c j z1 z2 z3 (by omega)
      have h27 : ν 109 27 = μ 130 0 + 1 := by rw [e, ab_mud, if_neg (by omega), e18, ab_mud, if_neg (by omega)]; exact c2
      have h32 : ν 109 32 = μ 109 32 + 1 := by rw [e, ab_mud, if_neg (by omega), e18, ab_mud, if_pos ⟨rfl, rfl⟩]
      have h126 : ν 126 (μ 130 0) = 2 := by rw [e, ab_mud, if_neg (by omega), e18, ab_mud, if_neg (by omega)]; exact c3
      have h127 : ν 127 (μ 130 0) = μ 109 32 := by rw [e, ab_mud, if_neg (by omega), e18, ab_mud, if_neg (by omega)]; exact c4
      have h21 : ν 109 21 = μ 109 21 + 1 := by rw [f 109 21 (by omega) (by omega), m4.2.1, q21]
      have h39 : ν 109 39 = 0 := by rw [e, ab_mud, if_pos ⟨rfl, rfl⟩]
      have h40 : ν 109 40 = s.2.1 + 1 := by rw [e, ab_mud, if_neg (by omega), e18, ab_mud, if_neg (by omega), c1 109 40 (by omega) (by omega), e12, ab_mud, if_pos ⟨rfl, rfl⟩]
      have h38 : ν 109 38 = 0 := by rw [e, ab_mud, if_neg (by omega), e18, ab_mud, if_neg (by omega), c1 109 38 (by omega) (by omega), e12, ab_mud, if_neg (by omega), e11, ab_mud, if_neg (by omega), e10, ab_mud, if_pos ⟨rfl, rfl⟩]
      have fr : fRd g μ ν := fun c j z => by
        have t6 : ν1 c j = μ c j := f1 c j fun ⟨y1, y, hy, y3⟩ => z (by have := hL y hy; have := this.1; have := (hL y hy).2.1; unfold rdW; omega)
        rw [f c j (fun y => z (by unfold rdW; omega)) (fun y => z (by unfold rdW; omega)), m1 c j (fun y => z (by unfold rdW; omega)) (fun y => z (by unfold rdW; omega))]
        exact t6
      have ri : rI K W g μ0 ν (0, s.2.1 + 1, s.2.2.1, []) := hJ.i.go nx fr (fun j _ _ => Or.inl (fm 121 j (by decide) (by decide) (by decide) (by omega) (by omega))) (fm 109 43 (by decide) (by decide) (by decide) (by omega) (by omega)) ⟨h39, h40, fun m3 => absurd (show (0 : Int) = 3 from m3) (by decide), h38, trivial⟩
      have e22 : ν 109 22 = 1 := by rw [fm 109 22 (by decide) (by decide) (by decide) (by omega) (by omega)]; exact p1
      refine hN _ _ ⟨⟨ri, fun z => by omega, fun _ => ?_⟩, aq.ms⟩
      obtain ⟨F', rest', eF⟩ := O.rest.next nx
      have eF : F = F' := eF
      subst eF
      have sl : (sW Ln s.2.1.toNat : Int) ≤ sW Ln (s.2.1 + 1).toNat := sW_at at0.1 (by omega)
      have bu := O.bu
      have bw := O.bw
      rw [hs, pEn_cons, if_neg (by omega)] at bu
      rw [hs, pDo_cons, if_neg (by omega), if_neg (by omega)] at bw
      have hp0 : pEn ([] : List aE) = 0 := rfl
      have hd0 : pDo ([] : List aE) = 0 := rfl
      have hD : ∀ y, (tEv μ g dd).2.2.2.2.1 y → (tEv ν g dd).2.2.2.2.1 y := dD (fm 123 g (by decide) (by decide) (by decide) (by omega) (by omega)) fun j => fm 122 j (by decide) (by decide) (by decide) (by omega) (by omega)
      have hD' : ∀ y, (tEv ν g dd).2.2.2.2.1 y → (tEv μ g dd).2.2.2.2.1 y := dD (fm 123 g (by decide) (by decide) (by decide) (by omega) (by omega)).symm fun j => (fm 122 j (by decide) (by decide) (by decide) (by omega) (by omega)).symm
      have xc := xb.frame (μ' := ν) ⟨fun j _ _ => f 115 _ (by omega) (by omega), fun j _ _ => f 116 _ (by omega) (by omega), fun c j _ => f c j (by omega) (by omega), fun c j _ _ _ z => by simp at z; omega⟩
      refine ⟨Γ2, F, dd, Ln, ⟨?_, rest', O.tbs (fun c j z => fm c j (by omega) (by omega) (by omega) (by omega) (by omega)) (by show s.2.1 ≤ s.2.1 + 1; omega), fun y b hb h2 => by rw [fm 134 y (by decide) (by decide) (by decide) (by omega) (by omega)]; exact O.xc y b hb h2, O.tot, ?_, ?_, ?_, ⟨fun z => absurd (show (0 : Int) = 3 from z) (by decide), fun _ => by rw [h32]; exact b3.1⟩, fun z => absurd (show (0 : Int) = 1 from z) (by decide), fun _ => by rw [h21]; exact zb⟩⟩
      · rw [h21, h32, hQ_m (s := (0, s.2.1 + 1, s.2.2.1, [])) (by show (0 : Int) ≠ 3; decide), sQ_m (s := (0, s.2.1 + 1, s.2.2.1, [])) (by show (0 : Int) ≠ 3; decide)]
        exact xc.more fun k _ _ _ z => z.elim
      · rw [h21]
        show μ 109 21 + 1 + pEn ([] : List aE) ≤ 2 * (s.2.1 + 1) + (sW Ln (s.2.1 + 1).toNat : Int)
        omega
      · rw [h21, wb, w1]
        show 2 * (Γ.2.2.1 (μ 109 21) + 0) ≤ s.2.1 + 1 + pDo ([] : List aE) + 2 * (sW Ln (s.2.1 + 1).toNat : Int)
        omega
      · have it := O.nm.it
        have dm := O.nm.dm
        have e30 : ν 109 30 = μ 109 30 := fm 109 30 (by decide) (by decide) (by decide) (by omega) (by omega)
        refine ⟨by rw [h27]; show 0 ≤ μ 130 0 + 1 ∧ μ 130 0 + 1 ≤ s.2.1 + 1; omega, by rw [e30]; show 0 ≤ μ 109 30 ∧ μ 109 30 ≤ s.2.1 + 1; omega, by rw [fm 123 g (by decide) (by decide) (by decide) (by omega) (by omega)]; show 0 ≤ μ 123 g ∧ μ 123 g ≤ s.2.1 + 1; omega, by rw [fm 109 31 (by decide) (by decide) (by decide) (by omega) (by omega)]; exact O.nm.rw, by rw [h32]; have := b3.2; omega, fun i i0 i1 => ?_, fun i i0 i1 i2 => ?_, fun y hy => by rw [e30]; exact O.nm.dc y (hD' y hy)⟩
        · rw [h27] at i1
          rw [e30, h32]
          by_cases ei : i = μ 130 0
          · subst ei
            rw [h126, h127]
            exact ⟨fun z => absurd z (by decide), fun z => absurd z (by decide), fun _ => by omega⟩
          · rw [fm 126 i (by decide) (by decide) (by decide) (by omega) (by omega), fm 127 i (by decide) (by decide) (by decide) (by omega) (by omega)]
            obtain ⟨k0, k1, k2⟩ := O.nm.nk i i0 (by omega)
            exact ⟨fun z => ⟨(k0 z).1, (k0 z).2.1, Or.inl (hD _ (nb.2.2 i i0 (by omega) z))⟩, k1, fun z => by have := k2 z; omega⟩
        · rw [h27] at i1
          by_cases ei : i = μ 130 0
          · subst ei; rw [h126] at i2; exact absurd i2 (by decide)
          · rw [fm 127 i (by decide) (by decide) (by decide) (by omega) (by omega)]
            rw [fm 126 i (by decide) (by decide) (by decide) (by omega) (by omega)] at i2
            exact hD _ (nb.2.2 i i0 (by omega) i2)
end M63

