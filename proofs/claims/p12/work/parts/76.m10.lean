/-! THE REFERENCE, part 63: endDef, readStatement -/
section M63
variable {X : jm_X} {d : Nat} {P : Int → ab_m → Prop} {K : Int → Int} {W g : Int} {s0 : aS} {μ0 μ ν μ' : ab_m} {s s' : aS} {Γ Γ' : tQ} {F F' : Int → List Int} {dd : Int} {Ln : Int → Nat} {G : Int → List Int} {n dn : Int} {pd : Int → Prop} {e : aE}
set_option maxHeartbeats 1000000 in
theorem c_rd_endDef (hJ : J K W g s0 μ0 μ s) (hm : s.1 = 1) (hk : K s.2.1 = 125) (ht : aTop s.2.2.2 = 3) (hN : ∀ ν' s', J K W g s0 μ0 ν' s' ∧ aMs W s' < aMs W s → P 0 ν') : jj_mM_endDef X (d + 2) 0 (ab_la [109]) [] μ P := by
  obtain ⟨Γ, F, dd, Ln, G, hO, hZ⟩ := hJ.get
  have hp := hJ.i.w.m1 (Or.inl hm)
  have room := hJ.room hO
  have at0 := hJ.at'
  have W3 := hJ.i.kk.2.1
  have g01 := hJ.i.g01
  have lW := aK_lt hJ.i.kk at0.1 at0.2.2 hk (by decide)
  obtain ⟨r1, r2, -, r4, r5⟩ := hJ.i.r
  cases hs : s.2.2.2 with
  | nil => rw [hs] at hp; exact hp.elim
  | cons e r =>
    rw [hs] at hp ht r4 r5
    have ek : e.1 = 3 := ht
    have hrw : r = [] ∧ 0 ≤ e.2.2.1 ∧ e.2.2.1 < 3002 := by
      rcases hp with ⟨z1, z⟩ | ⟨z, -⟩
      · exact ⟨z, by omega, by omega⟩
      · omega
    obtain ⟨hr, ew0, ew1⟩ := hrw
    subst hr
    have r4 : μ 109 38 = 1 := r4
    have k129 : μ 129 0 = 3 := by rw [← ek]; exact r5.1.1
    have k133 : μ 133 0 = e.2.2.1 := r5.1.2.2.2.2.2.2 ek
    have w0 : ab_w (1 - 1) = 0 := ab_wi (by decide) (by decide)
    have nx : aNext K s = some ((0, s.2.1 + 1, s.2.2.1, []), none) := by
      simp [aNext, aStat, hm, hk, hs, aTop, ek]
    have aq := aNext_q hJ.i.kk hJ.i.w _ _ nx
    refine bk_mM_endDef_0 rfl ?_
    rw [r4, w0]
    refine ⟨by decide, ?_⟩
    rcases hJ.i.p01 with p0 | p1
    · -- pass 0
      refine c_mM_tellChain (L := []) (by rw [hJ.i.hf]; exact g01) (fun z => by omega) (fun _ => ?_) fun z => by omega
      refine c_mM_step0 p0 ?_
      rw [r4, w0]
      refine ⟨by decide, c_mM_endBlock (by omega) fun ν7 f7 e7 ν10 e10 ν11 e11 ν12 e12 => ?_⟩
      rw [f7 109 38 (by omega), r4, w0] at e10
      have q40 : ν11 109 40 = s.2.1 := by rw [e11, ab_mud, if_neg (by omega), e10, ab_mud, if_neg (by omega), f7 109 40 (by omega)]; exact r2
      rw [q40, show ab_w (s.2.1 + 1) = s.2.1 + 1 from ab_wi (by omega) (by omega)] at e12
      have f12 : ∀ c j, ¬ (c = 109 ∧ (j = 27 ∨ j = 29 ∨ j = 38 ∨ j = 40 ∨ j = 41)) → ν12 c j = μ c j := fun c j z => by
        rw [e12, ab_mud, if_neg (by omega), e11, ab_mud, if_neg (by omega), e10, ab_mud, if_neg (by omega)]; exact f7 c j (by omega)
      refine ⟨fun _ ν e => ?_, fun z => by rw [f12 109 22 (by omega)] at z; omega⟩
      have f : ∀ c j, ¬ (c = 109 ∧ (j = 27 ∨ j = 29 ∨ j = 38 ∨ j = 39 ∨ j = 40 ∨ j = 41)) → ν c j = μ c j := fun c j z => by rw [e, ab_mud, if_neg (by omega)]; exact f12 c j (by omega)
      have ri : rI K W g μ0 ν (0, s.2.1 + 1, s.2.2.1, []) := hJ.i.go nx (fun c j z => f c j fun y => z (by unfold rdW; omega)) (fun j _ _ => Or.inl (f 121 j (by omega))) (f 109 43 (by omega)) ⟨by rw [e, ab_mud, if_pos ⟨rfl, rfl⟩], by rw [e, ab_mud, if_neg (by omega), e12, ab_mud, if_pos ⟨rfl, rfl⟩], fun m3 => absurd (show (0 : Int) = 3 from m3) (by decide), by rw [e, ab_mud, if_neg (by omega), e12, ab_mud, if_neg (by omega), e11, ab_mud, if_neg (by omega), e10, ab_mud, if_pos ⟨rfl, rfl⟩]; rfl, trivial⟩
      exact hN _ _ ⟨⟨ri, fun _ => ⟨G, (hZ p0).go hJ.i nx fun c j z => f c j (by omega)⟩, fun z => by rw [f 109 22 (by omega)] at z; omega⟩, aq.ms⟩
    · -- pass 1
      have O := hO p1
      have rm := room p1
      have v0 := hJ.v0 fun _ => O
      rw [hm, hQ_m (by omega), sQ_m (by omega), hs, hp.h0, hp.qm] at v0
      have ss0 : sP F [e] = [] := by rw [sP_cons, if_neg (by omega)]; unfold sO; rw [if_neg (by omega), if_neg (by omega), if_neg (by omega), if_neg (by omega), if_neg (by omega), if_neg (by omega)]; rfl
      rw [ss0] at v0
      have X0 := O.x
      rw [hs, hQ_m (by omega), sQ_m (by omega), hs, hp.h0, hp.qm, ss0] at X0
      have b3 := O.b3.1 (by rw [hs]; exact ek)
      obtain ⟨L, mL, hL⟩ := X0.chn.df 0 (by decide) (by simp) k129
      refine c_mM_tellChain (L := L) (by rw [hJ.i.hf]; exact g01) (fun _ => by rw [hJ.i.hf]; exact mL) (fun z => absurd p1 z) fun _ ν1 f1 t1 => ?_
      rw [hJ.i.hf] at f1 t1
      have fo1 : ∀ c j, c ≠ 116 → ν1 c j = μ c j := fun c j z => f1 c j fun y => z y.1
      have vh := v0.pop (ν' := ab_mu μ 109 38 0) (kp' := 0) (fun c j z => by rw [ab_mud, if_neg (by omega)]) (by rw [ab_mud, if_pos ⟨rfl, rfl⟩]; rfl) (by simp)
      have v1 := vh.chain (ν' := ab_mu ν1 109 38 0) (L := L) (fun c j z => by
        rw [ab_mud, ab_mud]
        split
        · rfl
        · exact f1 c j z) (fun y hy => ⟨Or.inr (Or.inr (Or.inr (Or.inr (Or.inl ⟨Or.inr (Or.inr k129), L, mL, hy⟩)))), by
            rw [ab_mud, if_neg (by omega), show μ 115 (9000 * g + y) = 26 from (hL y hy).2.2.1]
            unfold tGo; decide, (hL y hy).1, by have := (hL y hy).2.1; omega⟩) (fun i L' i0 i1 => by simp at i1; omega)
      have v1' := v1.more (ex' := fun _ => False) fun w Γ' x Gk j j0 j1 z => Or.inr (by
        have z : pE μ g (-1) 0 j := z.elim (fun z => z.elim) id
        have jL : j ∈ L := by
          unfold pE at z
          rw [k129] at z
          rcases z with z | z | z | ⟨-, L2, m2, h2⟩ | ⟨-, z, -⟩
          · omega
          · omega
          · omega
          · rw [m2.uniq mL] at h2; exact h2
          · omega
        have hy := hL j jL
        have gn := Gk (μ 109 21) rm.1 (Int.le_refl _)
        refine tJ_mk (t := μ 109 21) Gk hy (v1.tx j hy.1 hy.2.1).1 ?_ ⟨hy.2.1, by omega⟩ (by rw [gn.1, X0.ch]; rfl) gn.2.2.2.1 (fun z => ?_)
        · rw [ab_mud, if_neg (by omega), t1 j jL]
        · rw [gn.2.1, X0.cs] at z; cases z)
      obtain ⟨Γ1, x1', n1, G1, w1⟩ := v1'.one p1
      rw [show μ 109 21 + 0 = μ 109 21 by omega] at x1' w1
      have xa : x1 ν1 g Γ1 dd [] (μ 109 21) 0 [] (μ 109 32) (fun _ => False) (-1) := by
        refine ((x1'.frame (μ' := ν1) ⟨fun j _ _ => by rw [ab_mud, if_neg (by omega)], fun j _ _ => by rw [ab_mud, if_neg (by omega)], fun c j _ => by rw [ab_mud, if_neg (by omega)], fun c j _ _ _ z => by simp at z; omega⟩).qq (q' := -1) fun i i0 i1 _ => by simp at i1; omega).more fun k _ _ _ z => ?_
        rcases z with ⟨i, i0, i1, -⟩ | z
        · simp at i1; omega
        · exact Or.inl z
      have q21 : ν1 109 21 = μ 109 21 := fo1 109 21 (by decide)
      have q20 : ν1 109 20 = g := by rw [fo1 109 20 (by decide)]; exact hJ.i.hf
      refine c_mM_step (by rw [fo1 109 22 (by decide)]; exact p1) (by rw [q20]; exact g01) (by rw [q21]; omega) fun ν4 m4 => ?_
      obtain ⟨Γ2, xb, wb, zb, G2⟩ := xa.defEnd m4 q20 q21 b3.1
      have m1 := m4.1
      rw [q20, q21] at m1
      have q38 : ν4 109 38 = 1 := by rw [m1 109 38 (by omega) (by omega), fo1 109 38 (by decide)]; exact r4
      rw [q38, w0]
      refine ⟨by decide, c_mM_endBlock (by omega) fun ν7 f7 e7 ν10 e10 ν11 e11 ν12 e12 => ?_⟩
      rw [f7 109 38 (by omega), q38, w0] at e10
      have q40 : ν11 109 40 = s.2.1 := by rw [e11, ab_mud, if_neg (by omega), e10, ab_mud, if_neg (by omega), f7 109 40 (by omega), m1 109 40 (by omega) (by omega), fo1 109 40 (by decide)]; exact r2
      rw [q40, show ab_w (s.2.1 + 1) = s.2.1 + 1 from ab_wi (by omega) (by omega)] at e12
      have f12 : ∀ c j, ¬ (c = 109 ∧ (j = 27 ∨ j = 29 ∨ j = 38 ∨ j = 40 ∨ j = 41)) → ν12 c j = ν4 c j := fun c j z => by
        rw [e12, ab_mud, if_neg (by omega), e11, ab_mud, if_neg (by omega), e10, ab_mud, if_neg (by omega)]; exact f7 c j (by omega)
      have a0 : ν4 130 0 = μ 130 0 := by rw [m1 130 0 (by omega) (by omega), fo1 130 0 (by decide)]
      have q27 : ν12 109 27 = μ 130 0 := by
        rw [e12, ab_mud, if_neg (by omega), e11, ab_mud, if_neg (by omega), e10, ab_mud, if_neg (by omega), e7, q38]
        rw [show (1 : Int) - 1 = 0 from rfl]; exact a0
      have g4 : ∀ c j, c ≠ 115 → c ≠ 116 → c ≠ 117 → ¬ (c = 109 ∧ j = 21) → ν4 c j = μ c j := fun c j z1 z2 z3 z4 => by rw [m1 c j (by omega) z4]; exact fo1 c j z2
      have q32 : ν12 109 32 = μ 109 32 := by rw [f12 109 32 (by omega)]; exact g4 109 32 (by decide) (by decide) (by decide) (by omega)
      have nb := O.nm.nb
      rw [hs] at nb
      unfold nB at nb
      rw [if_pos (by omega)] at nb
      have nb : 0 ≤ μ 130 0 ∧ μ 130 0 ≤ μ 109 27 ∧ nB μ (tEv μ g dd) [] (μ 130 0) := nb
      have nmb := O.nm.nm
      have dnb := O.nm.dn
      refine ⟨fun z => absurd (by rw [f12 109 22 (by omega), g4 109 22 (by decide) (by decide) (by decide) (by omega)]; exact p1) z, fun _ => ?_⟩
      rw [show ν4 133 0 = e.2.2.1 by rw [g4 133 0 (by decide) (by decide) (by decide) (by omega)]; exact k133]
      refine ⟨⟨ew0, ew1⟩, ?_⟩
      rw [q32]
      refine c_mM_addName (by rw [q27]; omega) fun ν15 m15 ν18 e18 ν e => ?_
      obtain ⟨c1, c2, c3, c4⟩ := m15
      rw [q27] at c1 c2 c3 c4
      rw [show ν15 109 32 = μ 109 32 by rw [c1 109 32 (by omega) (by omega)]; exact q32, show ab_w (μ 109 32 + 1) = μ 109 32 + 1 from ab_wi (by omega) (by omega)] at e18
      -- all that changed
      have f : ∀ c j, ¬ (c = 109 ∧ (j = 27 ∨ j = 29 ∨ j = 32 ∨ j = 38 ∨ j = 39 ∨ j = 40 ∨ j = 41)) → ¬ (125 ≤ c ∧ c ≤ 128 ∧ j = μ 130 0) → ν c j = ν4 c j := fun c j z1 z2 => by
        rw [e, ab_mud, if_neg (by omega), e18, ab_mud, if_neg (by omega), c1 c j z2 (by omega)]; exact f12 c j (by omega)
      have fm : ∀ c j, c ≠ 115 → c ≠ 116 → c ≠ 117 → ¬ (c = 109 ∧ (j = 21 ∨ j = 27 ∨ j = 29 ∨ j = 32 ∨ j = 38 ∨ j = 39 ∨ j = 40 ∨ j = 41)) → ¬ (125 ≤ c ∧ c ≤ 128 ∧ j = μ 130 0) → ν c j = μ c j := fun c j z1 z2 z3 z4 z5 => by rw [f c j (by omega) z5]; exact g4 c j z1 z2 z3 (by omega)
      have h27 : ν 109 27 = μ 130 0 + 1 := by rw [e, ab_mud, if_neg (by omega), e18, ab_mud, if_neg (by omega)]; exact c2
      have h32 : ν 109 32 = μ 109 32 + 1 := by rw [e, ab_mud, if_neg (by omega), e18, ab_mud, if_pos ⟨rfl, rfl⟩]
      have h126 : ν 126 (μ 130 0) = 2 := by rw [e, ab_mud, if_neg (by omega), e18, ab_mud, if_neg (by omega)]; exact c3
      have h127 : ν 127 (μ 130 0) = μ 109 32 := by rw [e, ab_mud, if_neg (by omega), e18, ab_mud, if_neg (by omega)]; exact c4
      have h21 : ν 109 21 = μ 109 21 + 1 := by rw [f 109 21 (by omega) (by omega), m4.2.1, q21]
      have h39 : ν 109 39 = 0 := by rw [e, ab_mud, if_pos ⟨rfl, rfl⟩]
      have h40 : ν 109 40 = s.2.1 + 1 := by rw [e, ab_mud, if_neg (by omega), e18, ab_mud, if_neg (by omega), c1 109 40 (by omega) (by omega), e12, ab_mud, if_pos ⟨rfl, rfl⟩]
      have h38 : ν 109 38 = 0 := by rw [e, ab_mud, if_neg (by omega), e18, ab_mud, if_neg (by omega), c1 109 38 (by omega) (by omega), e12, ab_mud, if_neg (by omega), e11, ab_mud, if_neg (by omega), e10, ab_mud, if_pos ⟨rfl, rfl⟩]
      have fr : fRd g μ ν := fun c j z => by
        have t6 : ν1 c j = μ c j := f1 c j fun ⟨y1, y, hy, y3⟩ => z (by have := hL y hy; have := this.1; have := (hL y hy).2.1; unfold rdW; omega)
        rw [f c j (fun y => z (by unfold rdW; omega)) (fun y => z (by unfold rdW; omega)), m1 c j (fun y => z (by unfold rdW; omega)) (fun y => z (by unfold rdW; omega))]
        exact t6
      have ri : rI K W g μ0 ν (0, s.2.1 + 1, s.2.2.1, []) := hJ.i.go nx fr (fun j _ _ => Or.inl (fm 121 j (by decide) (by decide) (by decide) (by omega) (by omega))) (fm 109 43 (by decide) (by decide) (by decide) (by omega) (by omega)) ⟨h39, h40, fun m3 => absurd (show (0 : Int) = 3 from m3) (by decide), h38, trivial⟩
      have e22 : ν 109 22 = 1 := by rw [fm 109 22 (by decide) (by decide) (by decide) (by omega) (by omega)]; exact p1
      refine hN _ _ ⟨⟨ri, fun z => by omega, fun _ => ?_⟩, aq.ms⟩
      obtain ⟨F', rest', eF⟩ := O.rest.next nx
      have eF : F = F' := eF
      subst eF
      have sl : (sW Ln s.2.1.toNat : Int) ≤ sW Ln (s.2.1 + 1).toNat := sW_at at0.1 (by omega)
      have bu := O.bu
      have bw := O.bw
      rw [hs, pEn_cons, if_neg (by omega)] at bu
      rw [hs, pDo_cons, if_neg (by omega), if_neg (by omega)] at bw
      have hp0 : pEn ([] : List aE) = 0 := rfl
      have hd0 : pDo ([] : List aE) = 0 := rfl
      have hD : ∀ y, (tEv μ g dd).2.2.2.2.1 y → (tEv ν g dd).2.2.2.2.1 y := dD (fm 123 g (by decide) (by decide) (by decide) (by omega) (by omega)) fun j => fm 122 j (by decide) (by decide) (by decide) (by omega) (by omega)
      have hD' : ∀ y, (tEv ν g dd).2.2.2.2.1 y → (tEv μ g dd).2.2.2.2.1 y := dD (fm 123 g (by decide) (by decide) (by decide) (by omega) (by omega)).symm fun j => (fm 122 j (by decide) (by decide) (by decide) (by omega) (by omega)).symm
      have xc := xb.frame (μ' := ν) ⟨fun j _ _ => f 115 _ (by omega) (by omega), fun j _ _ => f 116 _ (by omega) (by omega), fun c j _ => f c j (by omega) (by omega), fun c j _ _ _ z => by simp at z; omega⟩
      refine ⟨Γ2, F, dd, Ln, ⟨?_, rest', O.tbs (fun c j z => fm c j (by omega) (by omega) (by omega) (by omega) (by omega)) (by show s.2.1 ≤ s.2.1 + 1; omega), fun y b hb h2 => by rw [fm 134 y (by decide) (by decide) (by decide) (by omega) (by omega)]; exact O.xc y b hb h2, O.tot, ?_, ?_, ?_, ⟨fun z => absurd (show (0 : Int) = 3 from z) (by decide), fun _ => by rw [h32]; exact b3.1⟩, fun z => absurd (show (0 : Int) = 1 from z) (by decide), fun _ => by rw [h21]; exact zb⟩⟩
      · rw [h21, h32, hQ_m (s := (0, s.2.1 + 1, s.2.2.1, [])) (by show (0 : Int) ≠ 3; decide), sQ_m (s := (0, s.2.1 + 1, s.2.2.1, [])) (by show (0 : Int) ≠ 3; decide)]
        exact xc.more fun k _ _ _ z => z.elim
      · rw [h21]
        show μ 109 21 + 1 + pEn ([] : List aE) ≤ 2 * (s.2.1 + 1) + (sW Ln (s.2.1 + 1).toNat : Int)
        omega
      · rw [h21, wb, w1]
        show 2 * (Γ.2.2.1 (μ 109 21) + 0) ≤ s.2.1 + 1 + pDo ([] : List aE) + 2 * (sW Ln (s.2.1 + 1).toNat : Int)
        omega
      · have it := O.nm.it
        have dm := O.nm.dm
        have e30 : ν 109 30 = μ 109 30 := fm 109 30 (by decide) (by decide) (by decide) (by omega) (by omega)
        refine ⟨by rw [h27]; show 0 ≤ μ 130 0 + 1 ∧ μ 130 0 + 1 ≤ s.2.1 + 1; omega, by rw [e30]; show 0 ≤ μ 109 30 ∧ μ 109 30 ≤ s.2.1 + 1; omega, by rw [fm 123 g (by decide) (by decide) (by decide) (by omega) (by omega)]; show 0 ≤ μ 123 g ∧ μ 123 g ≤ s.2.1 + 1; omega, by rw [fm 109 31 (by decide) (by decide) (by decide) (by omega) (by omega)]; exact O.nm.rw, by rw [h32]; have := b3.2; omega, fun i i0 i1 => ?_, fun i i0 i1 i2 => ?_, fun y hy => by rw [e30]; exact O.nm.dc y (hD' y hy)⟩
        · rw [h27] at i1
          rw [e30, h32]
          by_cases ei : i = μ 130 0
          · subst ei
            rw [h126, h127]
            exact ⟨fun z => absurd z (by decide), fun z => absurd z (by decide), fun _ => by omega⟩
          · rw [fm 126 i (by decide) (by decide) (by decide) (by omega) (by omega), fm 127 i (by decide) (by decide) (by decide) (by omega) (by omega)]
            obtain ⟨k0, k1, k2⟩ := O.nm.nk i i0 (by omega)
            exact ⟨fun z => ⟨(k0 z).1, (k0 z).2.1, Or.inl (hD _ (nb.2.2 i i0 (by omega) z))⟩, k1, fun z => by have := k2 z; omega⟩
        · rw [h27] at i1
          by_cases ei : i = μ 130 0
          · subst ei; rw [h126] at i2; exact absurd i2 (by decide)
          · rw [fm 127 i (by decide) (by decide) (by decide) (by omega) (by omega)]
            rw [fm 126 i (by decide) (by decide) (by decide) (by omega) (by omega)] at i2
            exact hD _ (nb.2.2 i i0 (by omega) i2)
end M63

/-! THE REFERENCE, part 64: readStatement -/
section M64
variable {X : jm_X} {d : Nat} {P : Int → ab_m → Prop} {K : Int → Int} {W g : Int} {s0 : aS} {μ0 μ ν μ' : ab_m} {s s' : aS}
set_option maxHeartbeats 1000000 in
theorem c_rd_readStatement (hJ : J K W g s0 μ0 μ s) (hm : s.1 = 1) (hF : ∀ ν', rFt g μ0 ν' → P 0 ν') (hE : ∀ ν', rEd K W g s0 μ0 ν' → P 0 ν') (hN : ∀ ν' s', J K W g s0 μ0 ν' s' ∧ aMs W s' < aMs W s → P 0 ν') : jj_mM_readStatement X (d + 6) 0 (ab_la [109]) [] μ P := by
  obtain ⟨Γ, F, dd, Ln, G, hO, hZ⟩ := hJ.get
  have at0 := hJ.at'
  have len := hJ.len
  have hp := hJ.i.w.m1 (Or.inl hm)
  obtain ⟨-, r2, -, r4, r5⟩ := hJ.i.r
  have v0 := hJ.v0 hO
  have tp : 1 ≤ μ 109 38 ∧ μ 109 38 ≤ 3010 ∧ μ 129 (μ 109 38 - 1) = aTop s.2.2.2 := by
    cases hs : s.2.2.2 with
    | nil => rw [hs] at hp; exact hp.elim
    | cons e r =>
      rw [hs] at r4 r5 len
      have ll : ((e :: r).length : Int) = r.length + 1 := by simp
      rw [r4, ll]
      refine ⟨by omega, by omega, ?_⟩
      rw [show (r.length : Int) + 1 - 1 = r.length by omega]
      exact r5.1.1
  obtain ⟨t1, t2, t3⟩ := tp
  have top : ∀ {Q : Int → ab_m → Prop}, Q (aTop s.2.2.2) μ → jj_mM_top X (d + 5) 0 (ab_la [109]) [] μ Q := fun h => c_mM_top ⟨t1, t2⟩ (by rw [t3]; exact h)
  have s139 : ∀ l : ab_l, l 0 = 109 → l 1 = K s.2.1 → (l 2 ≠ 0 → aTop s.2.2.2 = 1 ∨ aTop s.2.2.2 = 2 ∨ aTop s.2.2.2 = 3) → jj_mM_readStatement X (d + 6) 139 l [] μ P := by
    intro l l0 l1 l2
    refine bk_mM_readStatement_139 l0 ?_
    rw [l1]
    refine ⟨⟨fun z => c_rd_readNamed (P := fun _ μ => P 0 μ) hJ hm z hF hN, fun z => c_rd_readLeave (P := fun _ μ => P 0 μ) hJ hm rfl (Or.inl z) hF hN, fun z => c_rd_do (P := fun _ μ => P 0 μ) hJ hm z hF hN, fun z => c_rd_readTested (P := fun _ μ => P 0 μ) hJ hm rfl (Or.inl z) hF hN, fun z => ⟨fun n0 ν1 e1 => ?_, fun _ => c_V_misfit hJ.i v0 (by omega) hF⟩, fun z => c_rd_readLeave (P := fun _ μ => P 0 μ) hJ hm rfl (Or.inr z) hF hN, fun z => c_rd_readTold (P := fun _ μ => P 0 μ) hJ hm rfl (Or.inr z) hF hN, fun z => c_rd_readRead (P := fun _ μ => P 0 μ) hJ hm z hF hN, fun z => c_rd_readTold (P := fun _ μ => P 0 μ) hJ hm rfl (Or.inl z) hF hN, fun z => c_rd_readTested (P := fun _ μ => P 0 μ) hJ hm rfl (Or.inr z) hF hN, fun z => c_rd_block (P := fun _ μ => P 0 μ) hJ hm z hF hN, trivial⟩, fun _ => c_V_misfit hJ.i v0 (by omega) hF⟩
    exact c_rd_readInts (P := fun _ μ => P 0 μ) hJ hO hZ (by rw [e1]; exact mF1.mu) z (Or.inr ⟨hm, rfl, l2 n0⟩) hF hN
  have s113 : ∀ l : ab_l, l 0 = 109 → l 1 = K s.2.1 → (l 2 ≠ 0 → aTop s.2.2.2 = 1 ∨ aTop s.2.2.2 = 2 ∨ aTop s.2.2.2 = 3) → jj_mM_readStatement X (d + 6) 113 l [] μ P := by
    intro l l0 l1 l2
    refine bk_mM_readStatement_113 l0 ?_
    rw [l1]
    exact ⟨fun _ => s139 l l0 l1 l2, fun z => top ⟨fun _ => s139 l l0 l1 l2, fun y => c_rd_stop hJ hm z y hE⟩⟩
  have s59 : ∀ l : ab_l, l 0 = 109 → l 1 = K s.2.1 → (l 2 ≠ 0 → aTop s.2.2.2 = 1 ∨ aTop s.2.2.2 = 2 ∨ aTop s.2.2.2 = 3) → jj_mM_readStatement X (d + 6) 59 l [] μ P := by
    intro l l0 l1 l2
    refine bk_mM_readStatement_59 l0 ?_
    rw [l1]
    exact ⟨fun _ => s113 l l0 l1 l2, fun z => top ⟨fun _ => s113 l l0 l1 l2, fun y => c_rd_endBlock hJ hm z y hN⟩⟩
  have s39 : ∀ (l : ab_l) (b : Int), l 0 = 109 → l 1 = K s.2.1 → (b ≠ 0 → aTop s.2.2.2 = 1 ∨ aTop s.2.2.2 = 2 ∨ aTop s.2.2.2 = 3) → jj_mM_readStatement X (d + 6) 39 l [(0, b)] μ P := by
    intro l b l0 l1 hb
    refine bk_mM_readStatement_39 l0 ?_
    rw [l1]
    exact ⟨fun _ => s59 _ l0 l1 hb, fun z => top ⟨fun _ => s59 _ l0 l1 hb, fun y => c_rd_endDef (P := fun _ μ => P 0 μ) hJ hm z y hN⟩⟩
  refine bk_mM_readStatement_0 rfl ?_
  rw [r2, hJ.i.K]
  refine ⟨by omega, top ⟨fun y => s39 _ 1 rfl rfl fun _ => Or.inl y, fun _ => top ⟨fun y => s39 _ 1 rfl rfl fun _ => Or.inr (Or.inl y), fun _ => top ⟨fun _ => s39 _ 0 rfl rfl fun z => absurd rfl z, fun y => s39 _ 1 rfl rfl fun _ => Or.inr (Or.inr y)⟩⟩⟩⟩
end M64

/-! THE REFERENCE, part 65: readRow -/
section M65
variable {X : jm_X} {d : Nat} {P : Int → ab_m → Prop} {K : Int → Int} {W g : Int} {s0 : aS} {μ0 μ ν μ' : ab_m} {s s' : aS} {Γ Γ' : tQ} {F F' : Int → List Int} {dd : Int} {Ln : Int → Nat} {G : Int → List Int} {a m o : Int} {p r : List aE} {kp k wv hh n dn : Int} {ss : List Int} {ex pd : Int → Prop} {q : Int}
theorem V.fin0 (v : V g μ Γ dd ν s'.2.1 s'.1 o s'.2.2.2 kp k wv hh ss ex q) (hJ : J K W g s0 μ0 μ s) (w0 : μ 109 22 = 0) (hZ : rZ K W s0 μ s G) (e : aNext K s = some (s', none)) (ho : s'.1 = 3 → o = s'.2.2.1) : J K W g s0 μ0 ν s' ∧ aMs W s' < aMs W s := by
  have aq := aNext_q hJ.i.kk hJ.i.w _ _ e
  have e22 : ν 109 22 = μ 109 22 := v.ps
  have ri : rI K W g μ0 ν s' := hJ.i.go e v.fr (fun j _ _ => Or.inl (v.rs j)) (by rw [v.ft, hJ.i.ft]) ⟨v.md, v.at', fun m3 => by rw [v.op]; exact ho m3, v.ln, v.ap⟩
  exact ⟨⟨ri, fun _ => ⟨G, hZ.go hJ.i e v.tb⟩, fun z => by omega⟩, aq.ms⟩
set_option maxHeartbeats 1000000 in
theorem c_rd_readRow (hJ : J K W g s0 μ0 μ s) (hm : s.1 = 0) (hk : K s.2.1 = 20) (hF : ∀ ν', rFt g μ0 ν' → P 0 ν') (hN : ∀ ν' s', J K W g s0 μ0 ν' s' ∧ aMs W s' < aMs W s → P 0 ν') : jj_mM_readRow X (d + 4) 0 (ab_la [109]) [] μ P := by
  obtain ⟨Γ, F, dd, Ln, G, hO, hZ⟩ := hJ.get
  have at0 := hJ.at'
  have W3 := hJ.i.kk.2.1
  have g01 := hJ.i.g01
  have hs := hJ.i.w.m0 hm
  have v0 := hJ.v0 hO
  rw [hm, hQ_m (by omega), sQ_m (by omega), hs] at v0
  have L1 := aK_lt hJ.i.kk at0.1 at0.2.2 hk (by decide)
  -- the number, then ] and ;
  have s178 : ∀ (l : ab_l) (ν : ab_m), l 0 = 109 → K (s.2.1 + 1) = 1 → K (s.2.1 + 2) = 91 → K (s.2.1 + 3) = 2 → s.2.1 + 4 ≤ W → (μ 109 22 = 1 → μ 109 31 ≠ 8 ∧ 1 ≤ l 3 ∧ l 3 ≤ 100) → V g μ Γ dd ν (s.2.1 + 3) 0 (μ 109 46) [] 0 0 0 (hP []) (sP F []) (fun _ => False) (qP []) → jj_mM_readRow X (d + 4) 178 l [] ν P := by
    intro l ν l0 k1 k2 k3 lW h31 v
    refine bk_mM_readRow_178 l0 fun ν1 e1 => ?_
    have v1 := v.fa1 (by omega) e1
    refine c_V_takeClose2 hJ.i v1 (by omega) (fun k4 ν2 v2 f2 => ⟨fun w => absurd w (by decide), fun _ => ?_⟩) (fun ν1 f1 => ⟨fun _ => hF _ f1, fun w => absurd rfl w⟩)
    rw [show s.2.1 + 3 + 1 = s.2.1 + 4 by omega] at k4 v2
    have L5 := aK_lt hJ.i.kk (by omega) lW k4 (by decide)
    refine c_V_take2 hJ.i v2 (by omega) (fun k5 ν5 v5 f5 => ⟨fun w => absurd w (by decide), fun _ => ?_⟩) (fun ν1 f1 => ⟨fun _ => hF _ f1, fun w => absurd rfl w⟩)
    rw [show s.2.1 + 4 + 1 = s.2.1 + 5 by omega] at k5 v5
    have L6 := aK_lt hJ.i.kk (by omega) (by omega) k5 (by decide)
    have nx : aNext K s = some ((s.1, s.2.1 + 5 + 1, s.2.2.1, s.2.2.2), none) := by
      rw [show s.2.1 + 5 + 1 = s.2.1 + 6 by omega]
      simp [aNext, aDecl, hm, hk, k1, k2, k3, k4, k5]
    have aq := aNext_q hJ.i.kk hJ.i.w _ _ nx
    refine ⟨fun n0 => ?_, fun z0 => ?_⟩
    · have p1 : μ 109 22 = 1 := by rw [v5.ps] at n0; have := hJ.i.p01; omega
      have O := hO p1
      obtain ⟨h1, h2, h3⟩ := h31 p1
      have rwb := O.nm.rw
      have nmb := O.nm.nm
      have q31 : ν5 109 31 = μ 109 31 := v5.nf 109 31 (by omega)
      have q27 : ν5 109 27 = μ 109 27 := v5.nf 109 27 (by omega)
      rw [v5.h20, q31, show ab_w (8 * g) = 8 * g from ab_wi (by omega) (by omega), show ab_w (8 * g + μ 109 31) = 8 * g + μ 109 31 from ab_wi (by omega) (by omega)]
      refine ⟨by omega, fun ν8 e8 => ?_⟩
      have g8 : ∀ j, ν8 109 j = ν5 109 j := fun j => by rw [e8, mu_ne (by decide)]
      rw [g8, q31]
      refine c_mM_addName (by rw [g8, q27]; omega) fun ν9 m9 ν e => ?_
      obtain ⟨c1, c2, c3, c4⟩ := m9
      rw [g8, q27] at c1 c2 c3 c4
      rw [c1 109 31 (by omega) (by omega), g8, q31, show ab_w (μ 109 31 + 1) = μ 109 31 + 1 from ab_wi (by omega) (by omega)] at e
      have f : ∀ c j, ¬ (c = 109 ∧ (j = 27 ∨ j = 31)) → ¬ (125 ≤ c ∧ c ≤ 128 ∧ j = μ 109 27) → ¬ (c = 121 ∧ j = 8 * g + μ 109 31) → ν c j = ν5 c j := fun c j z1 z2 z3 => by
        rw [e, ab_mud, if_neg (by omega), c1 c j z2 (by omega), e8, ab_mud, if_neg (by omega)]
      have h27 : ν 109 27 = μ 109 27 + 1 := by rw [e, ab_mud, if_neg (by omega)]; exact c2
      have h31' : ν 109 31 = μ 109 31 + 1 := by rw [e, ab_mud, if_pos ⟨rfl, rfl⟩]
      have h126 : ν 126 (μ 109 27) = 1 := by rw [e, ab_mud, if_neg (by omega)]; exact c3
      have h127 : ν 127 (μ 109 27) = μ 109 31 := by rw [e, ab_mud, if_neg (by omega)]; exact c4
      have h121 : ∀ j, ν 121 j = μ 121 j ∨ (0 ≤ ν 121 j ∧ ν 121 j ≤ 100) := fun j => by
        by_cases ej : j = 8 * g + μ 109 31
        · refine Or.inr ?_
          rw [e, ab_mud, if_neg (by omega), c1 121 j (by omega) (by omega), e8, ab_mud, if_pos ⟨rfl, ej⟩]
          omega
        · exact Or.inl (by rw [f 121 j (by omega) (by omega) (by omega)]; exact v5.rs j)
      have fr : fRd g μ ν := fun c j z => by
        rw [f c j (fun y => z (by unfold rdW; omega)) (fun y => z (by unfold rdW; omega)) (fun y => z (by unfold rdW; omega))]; exact v5.fr c j z
      have ri : rI K W g μ0 ν (s.1, s.2.1 + 5 + 1, s.2.2.1, s.2.2.2) := hJ.i.go nx fr (fun j _ _ => h121 j) (by rw [f 109 43 (by omega) (by omega) (by omega), v5.ft, hJ.i.ft]) ⟨by rw [f 109 39 (by omega) (by omega) (by omega), v5.md]; exact hm.symm, by rw [f 109 40 (by omega) (by omega) (by omega)]; exact v5.at', fun m3 => by have m3 : s.1 = 3 := m3; omega, by rw [f 109 38 (by omega) (by omega) (by omega), v5.ln]; show _ = (s.2.2.2.length : Int); rw [hs], by show aP ν s.2.2.2; rw [hs]; trivial⟩
      have e22 : ν 109 22 = 1 := by rw [f 109 22 (by omega) (by omega) (by omega), v5.ps]; exact p1
      refine hN _ _ ⟨⟨ri, fun z => by omega, fun _ => ?_⟩, aq.ms⟩
      obtain ⟨Γ', x, nn, Gk, ww⟩ := v5.one p1
      rw [show μ 109 21 + 0 = μ 109 21 by omega] at x nn ww
      have h21 : ν 109 21 = μ 109 21 := by rw [f 109 21 (by omega) (by omega) (by omega)]; exact nn
      have h32 : ν 109 32 = μ 109 32 := by rw [f 109 32 (by omega) (by omega) (by omega)]; exact v5.nf 109 32 (by omega)
      have xc := x.frame (μ' := ν) ⟨fun j _ _ => f 115 _ (by omega) (by omega) (by omega), fun j _ _ => f 116 _ (by omega) (by omega) (by omega), fun c j _ => f c j (by omega) (by omega) (by omega), fun c j _ _ _ z => by simp at z; omega⟩
      have n0' := O.x.n0
      have bu := O.bu
      have bw := O.bw
      have b3 := O.b3.2 (by rw [hs]; show (0 : Int) ≠ 3; decide)
      have sl : (sW Ln s.2.1.toNat : Int) ≤ sW Ln (s.2.1 + 5 + 1).toNat := sW_at at0.1 (by omega)
      have hD : ∀ y, (tEv μ g dd).2.2.2.2.1 y → (tEv ν g dd).2.2.2.2.1 y := dD (by rw [f 123 g (by omega) (by omega) (by omega)]; exact v5.nf 123 g (by omega)) fun j => by rw [f 122 j (by omega) (by omega) (by omega)]; exact v5.nf 122 j (by omega)
      have hD' : ∀ y, (tEv ν g dd).2.2.2.2.1 y → (tEv μ g dd).2.2.2.2.1 y := dD (by rw [f 123 g (by omega) (by omega) (by omega)]; exact (v5.nf 123 g (by omega)).symm) fun j => by rw [f 122 j (by omega) (by omega) (by omega)]; exact (v5.nf 122 j (by omega)).symm
      have nmk : ∀ i, i ≠ μ 109 27 → ν 126 i = μ 126 i ∧ ν 127 i = μ 127 i := fun i z => ⟨by rw [f 126 i (by omega) (by omega) (by omega)]; exact v5.nf 126 i (by omega), by rw [f 127 i (by omega) (by omega) (by omega)]; exact v5.nf 127 i (by omega)⟩
      have e30 : ν 109 30 = μ 109 30 := by rw [f 109 30 (by omega) (by omega) (by omega)]; exact v5.nf 109 30 (by omega)
      refine ⟨Γ', F, dd, Ln, O.fin' hJ.i nx ?_ (fun c j z => by rw [f c j (by omega) (by omega) (by omega)]; exact v5.tb c j (by omega)) ?_ ?_ ?_ ⟨h32, by rw [f 124 g (by omega) (by omega) (by omega)]; exact v5.nf 124 g (by omega)⟩ rfl Gk (by omega) fun z => ?_⟩
      · rw [h21, h32, hQ_m (s := (s.1, s.2.1 + 5 + 1, s.2.2.1, s.2.2.2)) (by show s.1 ≠ 3; omega), sQ_m (s := (s.1, s.2.1 + 5 + 1, s.2.2.1, s.2.2.2)) (by show s.1 ≠ 3; omega)]
        show x1 ν g Γ' dd s.2.2.2 _ (hP s.2.2.2) (sP F s.2.2.2) _ (pN ν g (qP s.2.2.2) s.2.2.2.length) (qP s.2.2.2)
        rw [hs]
        refine xc.more fun k _ _ _ z => ?_
        rcases z with ⟨i, i0, i1, -⟩ | z
        · simp at i1; omega
        · exact z.elim
      · rw [h21]
        show μ 109 21 + pEn s.2.2.2 ≤ 2 * (s.2.1 + 5 + 1) + (sW Ln (s.2.1 + 5 + 1).toNat : Int)
        omega
      · rw [h21, ww]
        show 2 * (Γ.2.2.1 (μ 109 21) + 0) ≤ s.2.1 + 5 + 1 + pDo s.2.2.2 + 2 * (sW Ln (s.2.1 + 5 + 1).toNat : Int)
        omega
      · have it := O.nm.it
        have dm := O.nm.dm
        have nb := O.nm.nb
        rw [hs] at nb
        show nmI ν g Γ' (tEv ν g dd) s.2.2.2 (ν 109 21) (s.2.1 + 5 + 1)
        rw [hs]
        refine ⟨by rw [h27]; omega, by rw [e30]; omega, by rw [f 123 g (by omega) (by omega) (by omega), v5.nf 123 g (by omega)]; omega, by rw [h31']; omega, by rw [h32]; exact O.nm.dn, fun i i0 i1 => ?_, fun i i0 i1 i2 => ?_, fun y hy => by rw [e30]; exact O.nm.dc y (hD' y hy)⟩
        · rw [h27] at i1
          rw [e30, h32]
          by_cases ei : i = μ 109 27
          · subst ei
            rw [h126, h127]
            exact ⟨fun z => absurd z (by decide), fun _ => by omega, fun z => absurd z (by decide)⟩
          · rw [(nmk i ei).1, (nmk i ei).2]
            obtain ⟨k0, k1, k2⟩ := O.nm.nk i i0 (by omega)
            exact ⟨fun z => ⟨(k0 z).1, (k0 z).2.1, Or.inl (hD _ (nb i i0 (by omega) z))⟩, k1, k2⟩
        · rw [h27] at i1
          by_cases ei : i = μ 109 27
          · subst ei; rw [h126] at i2; exact absurd i2 (by decide)
          · rw [(nmk i ei).2]
            rw [(nmk i ei).1] at i2
            exact hD _ (nb i i0 (by omega) i2)
      · rw [h21]
        have z0 := O.z0 hs
        have gn := Gk (μ 109 21) n0' (Int.le_refl _)
        rw [gn.2.2.2.2]; exact z0
    · have p0 : μ 109 22 = 0 := by rw [← v5.ps]; exact z0
      exact hN _ _ (V.fin0 (s' := (s.1, s.2.1 + 5 + 1, s.2.2.1, s.2.2.2)) (by show V g μ Γ dd ν5 (s.2.1 + 5 + 1) s.1 (μ 109 46) s.2.2.2 0 0 0 (hP []) (sP F []) (fun _ => False) (qP []); rw [hs, hm]; exact v5) hJ p0 (hZ p0) nx fun z => by have z : s.1 = 3 := z; omega)
  have s90 : ∀ (l : ab_l) (ν : ab_m), l 0 = 109 → K (s.2.1 + 1) = 1 → (μ 109 22 = 1 → μ 109 31 ≠ 8) → V g μ Γ dd ν (s.2.1 + 1) 0 (μ 109 46) [] 0 0 0 (hP []) (sP F []) (fun _ => False) (qP []) → jj_mM_readRow X (d + 4) 90 l [] ν P := by
    intro l ν l0 k1 h31 v
    have L2 := aK_lt hJ.i.kk (by omega) L1 k1 (by decide)
    refine bk_mM_readRow_90 l0 ?_
    refine ⟨by rw [v.at']; omega, fun ν1 e1 => ?_⟩
    have v1 := v.fa1 (by omega) e1
    refine c_V_takeOpen hJ.i v1 (by omega) (fun k2 ν2 v2 => ⟨fun _ => ?_, fun w => absurd w (by decide)⟩) (fun ν1 f1 => ⟨fun w => absurd rfl w, fun _ => hF _ f1⟩)
    rw [show s.2.1 + 1 + 1 = s.2.1 + 2 by omega] at k2
    rw [show s.2.1 + 1 + 1 + 1 = s.2.1 + 3 by omega] at v2
    have L3 := aK_lt hJ.i.kk (by omega) (by omega) k2 (by decide)
    rw [v2.at', v2.Kk hJ.i]
    refine ⟨by omega, fun k3 => ⟨by omega, ?_⟩, fun _ => c_V_misfit hJ.i v2 (by omega) hF⟩
    have L4 := aK_lt hJ.i.kk (by omega) (by omega) k3 (by decide)
    have go : (μ 109 22 = 1 → 1 ≤ ν2 113 (s.2.1 + 3) ∧ ν2 113 (s.2.1 + 3) ≤ 100) → jj_mM_readRow X (d + 4) 178 (ab_up (ab_up l 1 (ν 114 (ν 109 40))) 3 (ν2 113 (s.2.1 + 3))) [] ν2 P := fun h => s178 _ ν2 l0 k1 k2 k3 (by omega) (fun w => ⟨h31 w, (h w).1, (h w).2⟩) v2
    refine ⟨fun n1 => go fun w => absurd (by rw [v2.ps]; exact w) n1, fun _ => ⟨fun _ => c_V_fail hJ.i v2 (by decide) (by omega) hF, fun ge => ⟨fun le => go fun _ => ⟨ge, le⟩, fun _ => c_V_fail hJ.i v2 (by decide) (by omega) hF⟩⟩⟩
  refine bk_mM_readRow_0 rfl fun ν1 e1 => ?_
  have v1 := v0.fa1 (by omega) e1
  rw [v1.at', v1.Kk hJ.i]
  have s62 : K (s.2.1 + 1) = 1 → ∀ l : ab_l, l 0 = 109 → jj_mM_readRow X (d + 4) 62 l [] ν1 P := by
    intro k1 l l0
    refine bk_mM_readRow_62 l0 ?_
    rw [v1.nf 109 31 (by omega)]
    exact ⟨fun n1 => s90 _ _ l0 k1 (fun w => absurd (by rw [v1.ps]; exact w) n1) v1, fun _ => ⟨fun n8 => s90 _ _ l0 k1 (fun _ => n8) v1, fun _ => c_V_fail hJ.i v1 (by decide) (by rw [v1.at']; omega) hF⟩⟩
  refine ⟨by omega, fun k1 => ⟨fun _ => s62 k1 _ rfl, fun y1 => ⟨by omega, ?_⟩⟩, fun _ => c_V_misfit hJ.i v1 (by omega) hF⟩
  rw [v1.ps] at y1
  have nm := (hO y1).nm.nm
  refine c_mM_isTold (by rw [v1.nf 109 27 (by omega)]; omega) fun q hq => ⟨fun _ => s62 k1 _ rfl, fun _ => ?_⟩
  exact c_V_fail hJ.i v1 (by decide) (by rw [v1.at']; omega) hF
end M65

/-! THE REFERENCE, part 66: readDef -/
section M66
variable {X : jm_X} {d : Nat} {P : Int → ab_m → Prop} {K : Int → Int} {W g : Int} {s0 : aS} {μ0 μ ν ν' : ab_m} {s s' : aS} {Γ Γ' : tQ} {F F' : Int → List Int} {dd : Int} {Ln : Int → Nat} {G : Int → List Int} {a k n : Int} {many : Int} {e : aE}
theorem c_R_opens (h0 : ν 109 43 = 0) (ha : 0 ≤ ν 109 40 ∧ ν 109 40 < 3002) (h1 : ∀ ν', mF1 41 ν ν' → P 1 ν') (hF : ∀ ν', mFl ν ν' → P 0 ν') : jj_mM_opens X (d + 1) 0 (ab_la [109]) [] ν P :=
  bk_mM_opens_0 rfl ⟨fun _ ν1 e => h1 ν1 (by rw [e]; exact mF1.mu), fun _ => c_mM_fail h0 (by decide) ha hF⟩
theorem c_R_takeOpen (h0 : ν 109 43 = 0) (ha : 0 ≤ ν 109 40 ∧ ν 109 40 < 3002) (h1 : ν 111 (ν 109 40) = k → ∀ ν', (∀ c j, ¬ (c = 109 ∧ (j = 40 ∨ j = 41)) → ν' c j = ν c j) → ν' 109 40 = ν 109 40 + 1 → P 1 ν') (hF : ∀ ν', mFl ν ν' → P 0 ν') : jj_mM_takeOpen X (d + 2) 0 (ab_la [109, k]) [] ν P := by
  refine bk_mM_takeOpen_0 rfl ⟨ha, fun q => c_R_opens h0 ha (fun ν1 f1 => ⟨fun _ ν4 e4 => ?_, fun w => absurd w (by decide)⟩) (fun ν1 f1 => ⟨fun w => absurd rfl w, fun _ => hF ν1 f1⟩), fun _ => c_mM_misfit h0 ha hF⟩
  have g : ν1 109 40 = ν 109 40 := f1 109 40 (by omega)
  refine h1 q ν4 (fun c j z => ?_) ?_
  · rw [e4, ab_mud, if_neg (by omega)]; exact f1 c j (by omega)
  · rw [e4, ab_mud, if_pos ⟨rfl, rfl⟩, g]; exact ab_wi (by omega) (by omega)
theorem c_R_takeClose (h0 : ν 109 43 = 0) (ha : 0 ≤ ν 109 40 ∧ ν 109 40 < 3002) (h1 : ν 111 (ν 109 40) = k → ∀ ν', (∀ c j, ¬ (c = 109 ∧ (j = 40 ∨ j = 41)) → ν' c j = ν c j) → ν' 109 40 = ν 109 40 + 1 → P 1 ν') (hF : ∀ ν', mFl ν ν' → P 0 ν') : jj_mM_takeClose X (d + 3) 0 (ab_la [109, k]) [] ν P := by
  refine bk_mM_takeClose_0 rfl ?_
  refine c_mM_take h0 ha (fun q ν1 f1 e1 => ⟨fun _ ν4 e4 => ?_, fun w => absurd w (by decide)⟩) (fun ν1 f1 => ⟨fun w => absurd rfl w, fun _ => hF ν1 f1⟩)
  refine h1 q ν4 (fun c j z => ?_) ?_
  · rw [e4, ab_mud, if_neg (by omega)]; exact f1 c j (by omega)
  · rw [e4, ab_mud, if_neg (by omega)]; exact e1
end M66
/-- a def's list is being read -/
def dL (W g : Int) (μ : ab_m) (s : aS) (ν : ab_m) (a many : Int) : Prop := (fRd g μ ν) ∧ (ν 109 40 = a) ∧ (s.2.1 + 3 + many ≤ a) ∧ (a ≤ W) ∧ (ν 109 39 = 0) ∧ (ν 109 38 = 1) ∧ (ν 129 0 = 3 ∧ ν 130 0 = μ 109 27 ∧ ν 132 0 = -1 ∧ ν 133 0 = s.2.1 + 1) ∧ (ν 109 43 = 0) ∧ (∀ c j, c = 134 ∨ c = 135 ∨ c = 136 ∨ c = 137 ∨ (c = 109 ∧ j = 51) → ν c j = μ c j) ∧ (∀ j, ν 121 j = μ 121 j) ∧ (∀ c j, (115 ≤ c ∧ c ≤ 118) ∨ c = 120 ∨ (122 ≤ c ∧ c ≤ 124) ∨ (c = 109 ∧ (j = 21 ∨ j = 31 ∨ j = 32)) ∨ (c = 119 ∧ j ≠ 16 * g + μ 109 32) → ν c j = μ c j) ∧ (0 ≤ many) ∧ (μ 109 22 = 1 → many ≤ 6 ∧ ν 109 27 = μ 109 27 + many ∧ ν 109 30 = μ 109 30 + many ∧ ν 119 (16 * g + μ 109 32) = μ 109 30 ∧ (∀ i, 0 ≤ i → i < μ 109 27 → ν 126 i = μ 126 i ∧ ν 127 i = μ 127 i) ∧ ∀ i, μ 109 27 ≤ i → i < μ 109 27 + many → ν 126 i = 0 ∧ ν 127 i = μ 109 30 + (i - μ 109 27))
theorem dL.fr {W g : Int} {μ : ab_m} {s : aS} {ν : ab_m} {a many : Int} (h'' : dL W g μ s ν a many) : fRd g μ ν := h''.1
theorem dL.at' {W g : Int} {μ : ab_m} {s : aS} {ν : ab_m} {a many : Int} (h'' : dL W g μ s ν a many) : ν 109 40 = a := h''.2.1
theorem dL.ge {W g : Int} {μ : ab_m} {s : aS} {ν : ab_m} {a many : Int} (h'' : dL W g μ s ν a many) : s.2.1 + 3 + many ≤ a := h''.2.2.1
theorem dL.le {W g : Int} {μ : ab_m} {s : aS} {ν : ab_m} {a many : Int} (h'' : dL W g μ s ν a many) : a ≤ W := h''.2.2.2.1
theorem dL.md {W g : Int} {μ : ab_m} {s : aS} {ν : ab_m} {a many : Int} (h'' : dL W g μ s ν a many) : ν 109 39 = 0 := h''.2.2.2.2.1
theorem dL.ln {W g : Int} {μ : ab_m} {s : aS} {ν : ab_m} {a many : Int} (h'' : dL W g μ s ν a many) : ν 109 38 = 1 := h''.2.2.2.2.2.1
theorem dL.pl {W g : Int} {μ : ab_m} {s : aS} {ν : ab_m} {a many : Int} (h'' : dL W g μ s ν a many) : ν 129 0 = 3 ∧ ν 130 0 = μ 109 27 ∧ ν 132 0 = -1 ∧ ν 133 0 = s.2.1 + 1 := h''.2.2.2.2.2.2.1
theorem dL.ft {W g : Int} {μ : ab_m} {s : aS} {ν : ab_m} {a many : Int} (h'' : dL W g μ s ν a many) : ν 109 43 = 0 := h''.2.2.2.2.2.2.2.1
theorem dL.tb {W g : Int} {μ : ab_m} {s : aS} {ν : ab_m} {a many : Int} (h'' : dL W g μ s ν a many) : ∀ c j, c = 134 ∨ c = 135 ∨ c = 136 ∨ c = 137 ∨ (c = 109 ∧ j = 51) → ν c j = μ c j := h''.2.2.2.2.2.2.2.2.1
theorem dL.rs {W g : Int} {μ : ab_m} {s : aS} {ν : ab_m} {a many : Int} (h'' : dL W g μ s ν a many) : ∀ j, ν 121 j = μ 121 j := h''.2.2.2.2.2.2.2.2.2.1
theorem dL.nf {W g : Int} {μ : ab_m} {s : aS} {ν : ab_m} {a many : Int} (h'' : dL W g μ s ν a many) : ∀ c j, (115 ≤ c ∧ c ≤ 118) ∨ c = 120 ∨ (122 ≤ c ∧ c ≤ 124) ∨ (c = 109 ∧ (j = 21 ∨ j = 31 ∨ j = 32)) ∨ (c = 119 ∧ j ≠ 16 * g + μ 109 32) → ν c j = μ c j := h''.2.2.2.2.2.2.2.2.2.2.1
theorem dL.mn {W g : Int} {μ : ab_m} {s : aS} {ν : ab_m} {a many : Int} (h'' : dL W g μ s ν a many) : 0 ≤ many := h''.2.2.2.2.2.2.2.2.2.2.2.1
theorem dL.one {W g : Int} {μ : ab_m} {s : aS} {ν : ab_m} {a many : Int} (h'' : dL W g μ s ν a many) : μ 109 22 = 1 → many ≤ 6 ∧ ν 109 27 = μ 109 27 + many ∧ ν 109 30 = μ 109 30 + many ∧ ν 119 (16 * g + μ 109 32) = μ 109 30 ∧ (∀ i, 0 ≤ i → i < μ 109 27 → ν 126 i = μ 126 i ∧ ν 127 i = μ 127 i) ∧ ∀ i, μ 109 27 ≤ i → i < μ 109 27 + many → ν 126 i = 0 ∧ ν 127 i = μ 109 30 + (i - μ 109 27) := h''.2.2.2.2.2.2.2.2.2.2.2.2
section M66
variable {X : jm_X} {d : Nat} {P : Int → ab_m → Prop} {K : Int → Int} {W g : Int} {s0 : aS} {μ0 μ ν ν' : ab_m} {s s' : aS} {Γ Γ' : tQ} {F F' : Int → List Int} {dd : Int} {Ln : Int → Nat} {G : Int → List Int} {a k n : Int} {many : Int} {e : aE}
/-- fields alone -/
theorem dL.fld {a' : Int} (u : dL W g μ s ν a many) (f : ∀ c j, ¬ (c = 109 ∧ (j = 40 ∨ j = 41)) → ν' c j = ν c j) (h : ν' 109 40 = a') (ge : a ≤ a') (le : a' ≤ W) : dL W g μ s ν' a' many :=
  ⟨fun c j z => (f c j fun y => z (by unfold rdW; omega)).trans (u.fr c j z), h, by have := u.ge; omega, le, by rw [f 109 39 (by omega)]; exact u.md, by rw [f 109 38 (by omega)]; exact u.ln, by rw [f 129 0 (by omega), f 130 0 (by omega), f 132 0 (by omega), f 133 0 (by omega)]; exact u.pl, by rw [f 109 43 (by omega)]; exact u.ft, fun c j z => by rw [f c j (by omega)]; exact u.tb c j z, fun j => by rw [f 121 j (by omega)]; exact u.rs j, fun c j z => by rw [f c j (by omega)]; exact u.nf c j z, u.mn, fun w => by
    obtain ⟨o1, o2, o3, o4, o5, o6⟩ := u.one w
    exact ⟨o1, by rw [f 109 27 (by omega)]; exact o2, by rw [f 109 30 (by omega)]; exact o3, by rw [f 119 _ (by omega)]; exact o4, fun i x y => by rw [f 126 i (by omega), f 127 i (by omega)]; exact o5 i x y, fun i x y => by rw [f 126 i (by omega), f 127 i (by omega)]; exact o6 i x y⟩⟩
/-- one more of the list, pass 1 -/
theorem dL.add (u : dL W g μ s ν a many) (w : μ 109 22 = 1) (h27 : 0 ≤ μ 109 27) (h6 : many ≠ 6) (n4 : uN ν ν') {ν9 : ab_m} (e9 : ν9 = ab_mu ν' 109 40 (a + 1)) (le : a + 1 ≤ W) : dL W g μ s ν9 (a + 1) (many + 1) := by
  obtain ⟨o1, o2, o3, o4, o5, o6⟩ := u.one w
  have ge := u.ge
  have mn := u.mn
  have f : ∀ c j, ¬ (125 ≤ c ∧ c ≤ 128 ∧ j = ν 109 27) → ¬ (c = 109 ∧ (j = 27 ∨ j = 30 ∨ j = 40)) → ν9 c j = ν c j := fun c j z1 z2 => by rw [e9, ab_mud, if_neg (by omega)]; exact n4.f c j z1 (by omega)
  refine ⟨fun c j z => (f c j (fun y => z (by unfold rdW; omega)) (fun y => z (by unfold rdW; omega))).trans (u.fr c j z), by rw [e9, ab_mud, if_pos ⟨rfl, rfl⟩], by omega, le, by rw [f 109 39 (by omega) (by omega)]; exact u.md, by rw [f 109 38 (by omega) (by omega)]; exact u.ln, by rw [f 129 0 (by omega) (by omega), f 130 0 (by omega) (by omega), f 132 0 (by omega) (by omega), f 133 0 (by omega) (by omega)]; exact u.pl, by rw [f 109 43 (by omega) (by omega)]; exact u.ft, fun c j z => by rw [f c j (by omega) (by omega)]; exact u.tb c j z, fun j => by rw [f 121 j (by omega) (by omega)]; exact u.rs j, fun c j z => by rw [f c j (by omega) (by omega)]; exact u.nf c j z, by omega, fun _ => ⟨by omega, ?_, ?_, by rw [f 119 _ (by omega) (by omega)]; exact o4, fun i x y => by rw [f 126 i (by omega) (by omega), f 127 i (by omega) (by omega)]; exact o5 i x y, fun i x y => ?_⟩⟩
  · rw [e9, ab_mud, if_neg (by omega), n4.n]; omega
  · rw [e9, ab_mud, if_neg (by omega), n4.i]; omega
  · by_cases ei : i = ν 109 27
    · subst ei
      rw [e9, ab_mud, if_neg (by omega), ab_mud, if_neg (by omega), n4.k, n4.o]
      exact ⟨rfl, by omega⟩
    · rw [f 126 i (by omega) (by omega), f 127 i (by omega) (by omega)]; exact o6 i x (by omega)
/-- a def begins -/
theorem x1.newDef {hh : Int} (h : x1 μ g Γ dd [] n 0 [] dd (fun _ => False) hh) (fS : ∀ j, 0 ≤ j → j < n → ν 115 (9000 * g + j) = μ 115 (9000 * g + j)) (fT : ∀ j, 0 ≤ j → j < n → ν 116 (9000 * g + j) = μ 116 (9000 * g + j)) (fd : ∀ c x, c = 118 ∨ c = 119 ∨ c = 120 → 0 ≤ x → x < dd → ν c (16 * g + x) = μ c (16 * g + x)) (hD : ∀ y, (tEv μ g dd).2.2.2.2.1 y → (tEv ν g (dd + 1)).2.2.2.2.1 y) (am : aM ν 0 e) (ek : e.1 = 3) (c3 : ν 132 0 = -1) (d0 : 0 ≤ dd) (s1 : ν 118 (16 * g + dd) = n) (z0 : Γ.2.2.2.2 n = n) (l1 : 0 ≤ ν 120 (16 * g + dd) ∧ ν 120 (16 * g + dd) ≤ 6 ∧ 0 ≤ ν 119 (16 * g + dd) ∧ ν 119 (16 * g + dd) + ν 120 (16 * g + dd) ≤ 3002) : x1 ν g Γ (dd + 1) [e] n 0 [] dd (fun _ => False) (-1) := by
  have G : ∀ j, 0 ≤ j → j ≤ n → tQe Γ Γ j := fun _ _ _ => ⟨rfl, rfl, rfl, rfl, rfl⟩
  have x : tX (tEv μ g dd) (tEv ν g (dd + 1)) Γ Γ n := ⟨fS, fun j a b _ => fT j a b, G, by show dd ≤ dd + 1; omega, fun y y0 y1 => ⟨fd 120 y (by omega) y0 y1, fd 119 y (by omega) y0 y1⟩, hD⟩
  have n0 := h.n0
  have k3 : ν 129 0 = 3 := by rw [← ek]; exact am.1
  refine ⟨n0, fun k a b => ?_, h.ch, h.cs, h.cr, h.base, fun k a b => by rw [fS k a b]; exact h.ns k a b, ⟨am, trivial⟩, ⟨eF_n (by omega), trivial⟩, ⟨fun i a b z => ?_, fun i a b c z => ?_, fun i a b z => ⟨[], ?_, fun y hy => by cases hy⟩⟩, fun y a b => ?_, Or.inr rfl⟩
  · obtain ⟨h1, h2⟩ := h.flat k a b
    refine ⟨x.k ⟨a, b⟩ (h.tr a (by omega)).r0 h1, fun go => ?_⟩
    have eS : (tEv ν g (dd + 1)).1 k = (tEv μ g dd).1 k := fS k a b
    rw [eS] at go
    rcases h2 go with h3 | h3
    · exact h3.elim
    · refine Or.inr ?_
      unfold tJ
      rw [eS, show (tEv ν g (dd + 1)).2.1 k = (tEv μ g dd).2.1 k from fT k a b]
      exact x.jt (Int.le_refl _) ⟨a, b⟩ h3
  · have : i = 0 := by simp at b; omega
    subst this; omega
  · have : i = 0 := by simp at b; omega
    subst this; omega
  · have : i = 0 := by simp at b; omega
    subst this; rw [c3]; exact mCh_nil
  · by_cases ey : y = dd
    · subst ey
      rw [s1]
      exact ⟨n0, Int.le_refl _, h.cr, h.ch, h.cs, z0, l1⟩
    · rw [fd 118 y (by omega) a (by omega), fd 119 y (by omega) a (by omega), fd 120 y (by omega) a (by omega)]
      exact h.defs y a (by omega)
end M66

/-! THE REFERENCE, part 67: readDef itself -/
section M67
variable {X : jm_X} {d : Nat} {P : Int → ab_m → Prop} {K : Int → Int} {W g : Int} {s0 : aS} {μ0 μ ν ν' : ab_m} {s s' : aS} {Γ Γ' : tQ} {F F' : Int → List Int} {dd : Int} {Ln : Int → Nat} {G : Int → List Int} {a k n : Int} {many : Int} {e : aE}
theorem dL.ri (u : dL W g μ s ν a many) (hJ : J K W g s0 μ0 μ s) (hs : s.2.2.2 = []) (nx : aNext K s = some ((1, a, s.2.2.1, ⟨3, 0, s.2.1 + 1, 0⟩ :: s.2.2.2), none)) {ν11 : ab_m} (f : ∀ c j, ¬ (c = 109 ∧ j = 39) → ¬ ((c = 118 ∨ c = 120) ∧ j = 16 * g + μ 109 32) → ν11 c j = ν c j) (d15 : μ 109 22 = 1 → 0 ≤ μ 109 32 ∧ μ 109 32 < 15) (f0 : μ 109 22 = 0 → ∀ c j, ¬ (c = 109 ∧ j = 39) → ν11 c j = ν c j) (h39 : ν11 109 39 = 1) : rI K W g μ0 ν11 (1, a, s.2.2.1, ⟨3, 0, s.2.1 + 1, 0⟩ :: s.2.2.2) := by
  have pc : ∀ c, 129 ≤ c → c ≤ 133 → ν11 c 0 = ν c 0 := fun c z1 z2 => f c 0 (by omega) (by omega)
  obtain ⟨p1, p2, p3, p4⟩ := u.pl
  refine hJ.i.go nx (fun c j z => ?_) (fun j _ _ => Or.inl (by rw [f 121 j (by omega) (by omega)]; exact u.rs j)) (by rw [f 109 43 (by omega) (by omega), u.ft, hJ.i.ft]) ⟨h39, by rw [f 109 40 (by omega) (by omega)]; exact u.at', fun m3 => absurd (show (1 : Int) = 3 from m3) (by decide), ?_, ?_⟩
  · rcases hJ.i.p01 with p0 | p1
    · rw [f0 p0 c j (fun y => z (by unfold rdW; omega))]; exact u.fr c j z
    · have := d15 p1
      rw [f c j (fun y => z (by unfold rdW; omega)) (fun y => z (by unfold rdW; omega))]; exact u.fr c j z
  · show ν11 109 38 = ((_ :: s.2.2.2 : List aE).length : Int)
    rw [hs, f 109 38 (by omega) (by omega)]; exact u.ln
  · show aP ν11 (_ :: s.2.2.2)
    rw [hs]
    refine ⟨⟨by show ν11 129 0 = 3; rw [pc 129 (by decide) (by decide)]; exact p1, fun z => absurd z (by show ¬ (3 : Int) = 40; decide), fun z => absurd z (by show ¬ (3 : Int) = 41; decide), fun z => absurd z (by show ¬ (3 : Int) = 23; decide), fun z => absurd z (by show ¬ (3 : Int) = 24; decide), fun z => absurd z (by show ¬ (3 : Int) = 28; decide), fun _ => ?_⟩, trivial⟩
    show ν11 133 0 = s.2.1 + 1
    rw [pc 133 (by decide) (by decide)]; exact p4
set_option maxHeartbeats 1000000 in
theorem dL.fin1 (u : dL W g μ s ν a many) (hJ : J K W g s0 μ0 μ s) (p1 : μ 109 22 = 1) (O : rO K W g μ s Γ F dd Ln) (hm : s.1 = 0) (d15 : μ 109 32 ≠ 15) (nx : aNext K s = some ((1, a, s.2.2.1, ⟨3, 0, s.2.1 + 1, 0⟩ :: s.2.2.2), none)) {ν9 ν10 ν11 : ab_m} (e9 : ν9 = ab_mu ν 120 (16 * g + μ 109 32) many) (e10 : ν10 = ab_mu ν9 118 (16 * g + μ 109 32) (μ 109 21)) (e11 : ν11 = ab_mu ν10 109 39 1) : J K W g s0 μ0 ν11 (1, a, s.2.2.1, ⟨3, 0, s.2.1 + 1, 0⟩ :: s.2.2.2) ∧ aMs W (1, a, s.2.2.1, ⟨3, 0, s.2.1 + 1, 0⟩ :: s.2.2.2) < aMs W s := by
  have aq := aNext_q hJ.i.kk hJ.i.w _ _ nx
  have at0 := hJ.at'
  have W3 := hJ.i.kk.2.1
  have hs := hJ.i.w.m0 hm
  obtain ⟨o1, o2, o3, o4, o5, o6⟩ := u.one p1
  have dnb := O.nm.dn
  have nmb := O.nm.nm
  have itb := O.nm.it
  have dmb := O.nm.dm
  have ge := u.ge
  have le := u.le
  have mn := u.mn
  obtain ⟨pl1, pl2, pl3, pl4⟩ := u.pl
  have f : ∀ c j, ¬ (c = 109 ∧ j = 39) → ¬ ((c = 118 ∨ c = 120) ∧ j = 16 * g + μ 109 32) → ν11 c j = ν c j := fun c j z1 z2 => by rw [e11, ab_mud, if_neg (by omega), e10, ab_mud, if_neg (by omega), e9, ab_mud, if_neg (by omega)]
  have h39 : ν11 109 39 = 1 := by rw [e11, ab_mud, if_pos ⟨rfl, rfl⟩]
  have h120 : ν11 120 (16 * g + μ 109 32) = many := by rw [e11, ab_mud, if_neg (by omega), e10, ab_mud, if_neg (by omega), e9, ab_mud, if_pos ⟨rfl, rfl⟩]
  have h118 : ν11 118 (16 * g + μ 109 32) = μ 109 21 := by rw [e11, ab_mud, if_neg (by omega), e10, ab_mud, if_pos ⟨rfl, rfl⟩]
  have h119 : ν11 119 (16 * g + μ 109 32) = μ 109 30 := by rw [f 119 _ (by omega) (by omega)]; exact o4
  have ri := u.ri hJ hs nx f (fun _ => by omega) (fun z => by omega) h39
  have e22 : ν11 109 22 = 1 := by rw [f 109 22 (by omega) (by omega), u.fr 109 22 (by unfold rdW; omega)]; exact p1
  refine ⟨⟨ri, fun z => by omega, fun _ => ?_⟩, aq.ms⟩
  obtain ⟨F', rest', eF⟩ := O.rest.next nx
  have eF : F = F' := eF
  subst eF
  have b3 := O.b3.2 (by rw [hs]; show (0 : Int) ≠ 3; decide)
  have X0 := O.x
  rw [hs, hQ_m (by omega), sQ_m (by omega), hs, ← b3] at X0
  have X1 : x1 μ g Γ dd [] (μ 109 21) 0 [] dd (fun _ => False) (qP []) := X0.more fun k _ _ _ z => by
    obtain ⟨i, i0, i1, -⟩ := z
    simp at i1; omega
  rw [← b3] at o4 h118 h119 h120 f
  have g118 : ∀ c x, c = 118 ∨ c = 119 ∨ c = 120 → 0 ≤ x → x < dd → ν11 c (16 * g + x) = μ c (16 * g + x) := fun c x hc x0 x1 => by
    rw [f c _ (by omega) (by omega)]; exact u.nf c _ (by rw [← b3]; omega)
  have hD : ∀ y, (tEv μ g dd).2.2.2.2.1 y → (tEv ν11 g (dd + 1)).2.2.2.2.1 y := fun y ⟨i, i0, i1, i2⟩ => ⟨i, i0, by rw [f 123 g (by omega) (by omega), u.nf 123 g (by omega)]; exact i1, by rw [f 122 _ (by omega) (by omega), u.nf 122 _ (by omega)]; exact i2⟩
  have hD' : ∀ y, (tEv ν11 g (dd + 1)).2.2.2.2.1 y → (tEv μ g dd).2.2.2.2.1 y := fun y ⟨i, i0, i1, i2⟩ => ⟨i, i0, by rw [← u.nf 123 g (by omega), ← f 123 g (by omega) (by omega)]; exact i1, by rw [← u.nf 122 _ (by omega), ← f 122 _ (by omega) (by omega)]; exact i2⟩
  have am : aM ν11 0 ⟨3, 0, s.2.1 + 1, 0⟩ := by
    have := ri.r.2.2.2.2
    rw [hs] at this
    exact this.1
  have xn := X1.newDef (ν := ν11) (fun j _ _ => by rw [f 115 _ (by omega) (by omega)]; exact u.nf 115 _ (by omega)) (fun j _ _ => by rw [f 116 _ (by omega) (by omega)]; exact u.nf 116 _ (by omega)) g118 hD am rfl (by rw [f 132 0 (by omega) (by omega)]; exact pl3) (by omega) h118 (O.z0 hs) (by rw [h120, h119]; omega)
  have h21 : ν11 109 21 = μ 109 21 := by rw [f 109 21 (by omega) (by omega)]; exact u.nf 109 21 (by omega)
  have h32 : ν11 109 32 = dd := by rw [f 109 32 (by omega) (by omega), b3]; exact u.nf 109 32 (by omega)
  have h27 : ν11 109 27 = μ 109 27 + many := by rw [f 109 27 (by omega) (by omega)]; exact o2
  have h30 : ν11 109 30 = μ 109 30 + many := by rw [f 109 30 (by omega) (by omega)]; exact o3
  have h130 : ν11 130 0 = μ 109 27 := by rw [f 130 0 (by omega) (by omega)]; exact pl2
  have bu := O.bu
  have bw := O.bw
  rw [hs] at bu bw
  have hp0 : pEn ([] : List aE) = 0 := rfl
  have hd0 : pDo ([] : List aE) = 0 := rfl
  have sl : (sW Ln s.2.1.toNat : Int) ≤ sW Ln a.toNat := sW_at at0.1 (by omega)
  have cr : Γ.2.2.2.1 (μ 109 21) = dd := X1.cr
  have nb := O.nm.nb
  rw [hs] at nb
  have hp3 : aPs [(⟨3, 0, s.2.1 + 1, 0⟩ : aE)] := Or.inl ⟨Or.inr ⟨rfl, by show 0 ≤ s.2.1 + 1; omega, by show s.2.1 + 1 < 3002; omega⟩, rfl⟩
  refine ⟨Γ, F, dd + 1, Ln, ⟨?_, rest', O.tbs (fun c j z => by rw [f c j (by omega) (by omega)]; exact u.tb c j (by omega)) (by show s.2.1 ≤ a; omega), fun y b hb h2 => by rw [f 134 y (by omega) (by omega), u.tb 134 y (by omega)]; exact O.xc y b hb h2, O.tot, ?_, ?_, ?_, ⟨fun _ => by rw [h32]; exact ⟨rfl, by omega⟩, fun z => ?_⟩, fun z => ?_, fun z => absurd z (List.cons_ne_nil _ _)⟩⟩
  · rw [h21, h32, hQ_m (s := (1, a, s.2.2.1, ⟨3, 0, s.2.1 + 1, 0⟩ :: s.2.2.2)) (by show (1 : Int) ≠ 3; decide), sQ_m (s := (1, a, s.2.2.1, ⟨3, 0, s.2.1 + 1, 0⟩ :: s.2.2.2)) (by show (1 : Int) ≠ 3; decide)]
    show x1 ν11 g Γ (dd + 1) (⟨3, 0, s.2.1 + 1, 0⟩ :: s.2.2.2) (μ 109 21) (hP (⟨3, 0, s.2.1 + 1, 0⟩ :: s.2.2.2)) (sP F (⟨3, 0, s.2.1 + 1, 0⟩ :: s.2.2.2)) dd (pN ν11 g (qP (⟨3, 0, s.2.1 + 1, 0⟩ :: s.2.2.2)) ((⟨3, 0, s.2.1 + 1, 0⟩ :: s.2.2.2 : List aE).length : Int)) (qP (⟨3, 0, s.2.1 + 1, 0⟩ :: s.2.2.2))
    rw [hs, hp3.h0, hp3.qm]
    exact xn.more fun k _ _ _ z => z.elim
  · rw [h21]
    show μ 109 21 + pEn (⟨3, 0, s.2.1 + 1, 0⟩ :: s.2.2.2) ≤ 2 * a + (sW Ln a.toNat : Int)
    rw [hs, pEn_cons, if_neg (by show ¬ ((3 : Int) = 4 ∨ (3 : Int) = 5 ∨ (3 : Int) = 6 ∨ (3 : Int) = 40 ∨ (3 : Int) = 41); decide)]
    omega
  · rw [h21]
    show 2 * Γ.2.2.1 (μ 109 21) ≤ a + pDo (⟨3, 0, s.2.1 + 1, 0⟩ :: s.2.2.2) + 2 * (sW Ln a.toNat : Int)
    rw [hs, pDo_cons, if_neg (by show ¬ (3 : Int) = 7; decide), if_neg (by show ¬ (3 : Int) = 20; decide)]
    omega
  · show nmI ν11 g Γ (tEv ν11 g (dd + 1)) (⟨3, 0, s.2.1 + 1, 0⟩ :: s.2.2.2) (ν11 109 21) a
    rw [hs, h21]
    refine ⟨by rw [h27]; omega, by rw [h30]; omega, by rw [f 123 g (by omega) (by omega), u.nf 123 g (by omega)]; omega, by rw [f 109 31 (by omega) (by omega), u.nf 109 31 (by omega)]; exact O.nm.rw, by rw [h32]; omega, fun i i0 i1 => ?_, ?_, fun y hy => by rw [h30]; have := O.nm.dc y (hD' y hy); omega⟩
    · rw [h27] at i1
      rw [h30, h32]
      by_cases il : i < μ 109 27
      · rw [f 126 i (by omega) (by omega), f 127 i (by omega) (by omega), (o5 i i0 il).1, (o5 i i0 il).2]
        obtain ⟨k0, k1, k2⟩ := O.nm.nk i i0 il
        exact ⟨fun z => ⟨(k0 z).1, by have := (k0 z).2.1; omega, Or.inl (hD _ (nb i i0 il z))⟩, k1, fun z => by have := k2 z; omega⟩
      · obtain ⟨t1, t2⟩ := o6 i (by omega) i1
        rw [f 126 i (by omega) (by omega), f 127 i (by omega) (by omega), t1, t2]
        refine ⟨fun _ => ⟨by omega, by omega, Or.inr (Or.inl ⟨by rw [cr]; show dd < dd + 1; omega, ?_, ?_⟩)⟩, fun z => absurd z (by decide), fun z => absurd z (by decide)⟩
        · rw [cr]; show ν11 119 (16 * g + dd) ≤ _; rw [h119]; omega
        · rw [cr]; show _ < ν11 119 (16 * g + dd) + ν11 120 (16 * g + dd); rw [h119, h120]; omega
    · unfold nB
      rw [if_pos (by show (3 : Int) = 1 ∨ (3 : Int) = 2 ∨ (3 : Int) = 3; decide)]
      show 0 ≤ ν11 130 0 ∧ ν11 130 0 ≤ ν11 109 27 ∧ nB ν11 (tEv ν11 g (dd + 1)) [] (ν11 130 0)
      rw [h130, h27]
      refine ⟨nmb.1, by omega, fun i i0 i1 i2 => ?_⟩
      rw [f 126 i (by omega) (by omega), (o5 i i0 i1).1] at i2
      rw [f 127 i (by omega) (by omega), (o5 i i0 i1).2]
      exact hD _ (nb i i0 i1 i2)
  · exfalso; apply z; show bK (⟨3, 0, s.2.1 + 1, 0⟩ :: s.2.2.2) = 3; rw [hs]; rfl
  · exfalso
    have z : bK (⟨3, 0, s.2.1 + 1, 0⟩ :: s.2.2.2) = 1 := z
    rw [hs] at z
    have z : (3 : Int) = 1 := z
    exact absurd z (by decide)
end M67

/-! THE REFERENCE, part 68: readDef, readDecl, goOver -/
section M68
variable {X : jm_X} {d : Nat} {P : Int → ab_m → Prop} {K : Int → Int} {W g : Int} {s0 : aS} {μ0 μ ν ν' : ab_m} {s s' : aS} {Γ Γ' : tQ} {F F' : Int → List Int} {dd : Int} {Ln : Int → Nat} {G : Int → List Int} {a k n : Int} {many : Int} {e : aE}
theorem c_dL_newInt {w : Int} (hi : rI K W g μ0 μ s) (hO : μ 109 22 = 1 → rO K W g μ s Γ F dd Ln) (u : dL W g μ s ν a many) (hw : 0 ≤ w ∧ w < 3002) (h0 : μ 109 22 = 0 → P 0 ν) (h1 : μ 109 22 = 1 → ∀ ν', uN ν ν' → P (ν 109 30) ν') (hF : ∀ ν', rFt g μ0 ν' → P 0 ν') : jj_mM_newInt X (d + 1) 0 (ab_la [109, w]) [] ν P := by
  have ps : ν 109 22 = μ 109 22 := u.fr 109 22 (by unfold rdW; omega)
  rcases hi.p01 with e | e
  · exact c_mM_newInt0 (by rw [ps]; exact e) (h0 e)
  · obtain ⟨o1, o2, o3, o4, o5, o6⟩ := u.one e
    have nm := (hO e).nm.nm
    have it := (hO e).nm.it
    have W3 := hi.kk.2.1
    have atW := hi.w.atW
    have mn := u.mn
    have ge := u.ge
    have le := u.le
    refine c_mM_newInt (by rw [ps]; exact e) u.ft hw (by rw [o2]; omega) (by rw [o3]; omega) (fun ν1 ν2 m1 m2 m3 => h1 e ν2 ?_) fun ν' m' => hF _ (hi.fault u.fr u.rs m')
    obtain ⟨a1, a2, a3, a4⟩ := m1
    exact ⟨fun c j z1 z2 => by rw [m2 c j (by omega)]; exact a1 c j z1 (by omega), by rw [m2 109 27 (by omega)]; exact a2, m3, by rw [m2 126 _ (by omega)]; exact a3, by rw [m2 127 _ (by omega)]; exact a4⟩
set_option maxHeartbeats 1000000 in
theorem c_rd_readDef (hJ : J K W g s0 μ0 μ s) (hm : s.1 = 0) (hk : K s.2.1 = 11) (hF : ∀ ν', rFt g μ0 ν' → P 0 ν') (hN : ∀ ν' s', J K W g s0 μ0 ν' s' ∧ aMs W s' < aMs W s → P 0 ν') : jj_mM_readDef X (d + 4) 0 (ab_la [109]) [] μ P := by
  obtain ⟨Γ, F, dd, Ln, G, hO, hZ⟩ := hJ.get
  have at0 := hJ.at'
  have W3 := hJ.i.kk.2.1
  have g01 := hJ.i.g01
  have hs := hJ.i.w.m0 hm
  have v0 := hJ.v0 hO
  rw [hm, hs] at v0
  have L1 := aK_lt hJ.i.kk at0.1 at0.2.2 hk (by decide)
  -- the list's end
  have last : ∀ (l : ab_l) (ν : ab_m) (a many : Int), l 0 = 109 → l 3 = 0 → (μ 109 22 = 1 → l 2 = many ∧ μ 109 32 ≠ 15) → dL W g μ s ν a many → K (s.2.1 + 1) = 1 → K (s.2.1 + 2) = 40 → ((if K (s.2.1 + 3) = 41 then some (s.2.1 + 3) else aNm K 3002 (s.2.1 + 3)) = some a) → jj_mM_readDef X (d + 4) 189 l [] ν P := by
    intro l ν a many l0 l3 l2 u k1 k2 ha
    have ge := u.ge
    have le := u.le
    have mn := u.mn
    have kk : ∀ i, ν 111 i = K i := fun i => by rw [u.fr 111 i (by unfold rdW; omega)]; exact hJ.i.K i
    refine bk_mM_readDef_189 l0 ⟨fun _ => ?_, fun w => absurd l3 w⟩
    refine c_R_takeClose u.ft (by rw [u.at']; omega) (fun q1 ν1 f1 a1 => ⟨fun w => absurd w (by decide), fun _ => ?_⟩) (fun ν1 m1 => ⟨fun _ => hF _ (hJ.i.fault u.fr u.rs m1), fun w => absurd rfl w⟩)
    rw [u.at', kk] at q1
    have La := aK_lt hJ.i.kk (by omega) le q1 (by decide)
    rw [u.at'] at a1
    have u1 := u.fld f1 a1 (by omega) La
    have kk1 : ∀ i, ν1 111 i = K i := fun i => by rw [u1.fr 111 i (by unfold rdW; omega)]; exact hJ.i.K i
    refine c_R_takeOpen u1.ft (by rw [u1.at']; omega) (fun q2 ν2 f2 a2 => ⟨fun _ => ?_, fun w => absurd w (by decide)⟩) (fun ν2 m2 => ⟨fun w => absurd rfl w, fun _ => hF _ (hJ.i.fault u1.fr u1.rs m2)⟩)
    rw [u1.at', kk1] at q2
    have La2 := aK_lt hJ.i.kk (by omega) La q2 (by decide)
    rw [u1.at'] at a2
    have u2 := u1.fld f2 a2 (by omega) (by omega)
    have nx : aNext K s = some ((1, a + 1 + 1, s.2.2.1, ⟨3, 0, s.2.1 + 1, 0⟩ :: s.2.2.2), none) := by
      rw [show a + 1 + 1 = a + 2 by omega]
      simp [aNext, aDecl, hm, hk, k1, k2, ha, q1, q2]
    have ps : ν2 109 22 = μ 109 22 := u2.fr 109 22 (by unfold rdW; omega)
    refine ⟨fun n1 ν7 e7 => ?_, fun y1 => ?_⟩
    · have p0 : μ 109 22 = 0 := by have := hJ.i.p01; omega
      have aq := aNext_q hJ.i.kk hJ.i.w _ _ nx
      have f7 : ∀ c j, ¬ (c = 109 ∧ j = 39) → ν7 c j = ν2 c j := fun c j z => by rw [e7, ab_mud, if_neg z]
      have ri := u2.ri hJ hs nx (fun c j z _ => f7 c j z) (fun z => by omega) (fun _ c j z => f7 c j z) (by rw [e7, ab_mud, if_pos ⟨rfl, rfl⟩])
      exact hN _ _ ⟨⟨ri, fun _ => ⟨G, (hZ p0).go hJ.i nx fun c j z => by rw [f7 c j (by omega)]; exact u2.tb c j z⟩, fun z => by rw [f7 109 22 (by omega)] at z; omega⟩, aq.ms⟩
    · have p1 : μ 109 22 = 1 := by omega
      have O := hO p1
      have dnb := O.nm.dn
      have q32 : ν2 109 32 = μ 109 32 := u2.nf 109 32 (by omega)
      have q20 : ν2 109 20 = g := by rw [u2.fr 109 20 (by unfold rdW; omega)]; exact hJ.i.hf
      rw [q20, q32, (l2 p1).1, show ab_w (16 * g) = 16 * g from ab_wi (by omega) (by omega), show ab_w (16 * g + μ 109 32) = 16 * g + μ 109 32 from ab_wi (by omega) (by omega)]
      refine ⟨by omega, fun ν9 e9 => ?_⟩
      have g9 : ∀ j, ν9 109 j = ν2 109 j := fun j => by rw [e9, mu_ne (by decide)]
      rw [g9, g9, g9, q20, q32, show ab_w (16 * g) = 16 * g from ab_wi (by omega) (by omega), show ab_w (16 * g + μ 109 32) = 16 * g + μ 109 32 from ab_wi (by omega) (by omega), u2.nf 109 21 (by omega)]
      refine ⟨by omega, fun ν10 e10 ν11 e11 => ?_⟩
      exact hN _ _ (u2.fin1 hJ p1 O hm (l2 p1).2 nx e9 e10 e11)
  -- the list
  have main : ∀ (m : Nat) (l : ab_l) (ν : ab_m) (a many : Int) (f : Nat), l 0 = 109 → l 3 = 1 → (μ 109 22 = 1 → l 2 = many ∧ μ 109 32 ≠ 15) → dL W g μ s ν a many → K (s.2.1 + 1) = 1 → K (s.2.1 + 2) = 40 → K (s.2.1 + 3) ≠ 41 → aNm K 3002 (s.2.1 + 3) = aNm K f a → 3002 ≤ (f : Int) + a → (W - a).toNat = m → jj_mM_readDef X (d + 4) 189 l [] ν P := by
    intro m
    induction m using Nat.strongRecOn with
    | ind m ih =>
      intro l ν a many f l0 l3 l2 u k1 k2 k3 e hf hmm
      have ge := u.ge
      have le := u.le
      have mn := u.mn
      have kk : ∀ i, ν 111 i = K i := fun i => by rw [u.fr 111 i (by unfold rdW; omega)]; exact hJ.i.K i
      have ps : ν 109 22 = μ 109 22 := u.fr 109 22 (by unfold rdW; omega)
      refine bk_mM_readDef_189 l0 ⟨fun w => by rw [l3] at w; exact absurd w (by decide), fun _ => ?_⟩
      rw [u.at', kk]
      refine ⟨by omega, fun q1 => ?_, fun _ => c_mM_misfit u.ft (by rw [u.at']; omega) fun ν1 m1 => hF _ (hJ.i.fault u.fr u.rs m1)⟩
      have La := aK_lt hJ.i.kk (by omega) le q1 (by decide)
      obtain ⟨f', rfl⟩ : ∃ f', f = f' + 1 := ⟨f - 1, by omega⟩
      have e' : aNm K 3002 (s.2.1 + 3) = if K (a + 1) = 44 then aNm K f' (a + 2) else some (a + 1) := by
        rw [e]
        show (if K a ≠ 1 then none else if K (a + 1) = 44 then aNm K f' (a + 2) else some (a + 1)) = _
        rw [if_neg (by omega)]
      -- behind a name
      have s253 : ∀ (l : ab_l) (ν8 : ab_m) (many' : Int), l 0 = 109 → (μ 109 22 = 1 → ab_w (l 2 + 1) = many' ∧ μ 109 32 ≠ 15) → ν8 109 40 = a → ν8 109 39 ≠ 5 → (∀ ν9, ν9 = ab_mu ν8 109 40 (a + 1) → dL W g μ s ν9 (a + 1) many') → jj_mM_readDef X (d + 4) 253 l [] ν8 P := by
        intro l ν8 many' l0 l2 q40 q39 hu
        refine bk_mM_readDef_253 l0 ⟨fun _ ν9 e9 => ?_, fun z => absurd z q39⟩
        rw [q40, show ab_w (a + 1) = a + 1 from ab_wi (by omega) (by omega)] at e9
        have u9 := hu ν9 e9
        have kk9 : ∀ i, ν9 111 i = K i := fun i => by rw [u9.fr 111 i (by unfold rdW; omega)]; exact hJ.i.K i
        rw [u9.at', kk9]
        refine ⟨by omega, fun n44 => ?_, fun y44 => ?_⟩
        · refine bk_mM_readDef_294 l0 ⟨fun _ ν1 e1 => ?_, fun w => absurd rfl w⟩
          rw [u9.at', Int.add_zero, show ab_w (a + 1) = a + 1 from ab_wi (by omega) (by omega)] at e1
          have : ν1 = ν9 := by
            rw [e1]
            funext c j
            rw [ab_mud]
            split
            · next q => rw [q.1, q.2, u9.at']
            · rfl
          subst this
          exact last _ _ (a + 1) many' l0 rfl l2 u9 k1 k2 (by rw [if_neg k3, e', if_neg n44])
        · have La2 := aK_lt hJ.i.kk (by omega) La y44 (by decide)
          refine bk_mM_readDef_294 l0 ⟨fun w => absurd w (by decide), fun _ ν1 e1 => ?_⟩
          rw [u9.at', show ab_w (a + 1 + 1) = a + 1 + 1 from ab_wi (by omega) (by omega)] at e1
          have u1 := u9.fld (ν' := ν1) (fun c j z => by rw [e1, ab_mud, if_neg (by omega)]) (by rw [e1, ab_mud, if_pos ⟨rfl, rfl⟩]) (by omega) La2
          exact ih _ (by omega) _ ν1 (a + 1 + 1) many' f' l0 rfl l2 u1 k1 k2 k3 (by rw [e', if_pos y44, show a + 1 + 1 = a + 2 by omega]) (by omega) rfl
      have f253 : ∀ (l : ab_l) (ν1 : ab_m), l 0 = 109 → rFt g μ0 ν1 → jj_mM_readDef X (d + 4) 253 l [] ν1 P := fun l ν1 l0 r1 => bk_mM_readDef_253 l0 ⟨fun z => absurd r1.m5 z, fun _ => hF _ r1⟩
      refine c_dL_newInt hJ.i hO u (by omega) (fun z0 => ⟨fun z => by rw [u.md] at z; exact absurd z (by decide), fun _ => ⟨fun _ => ?_, fun z => by omega⟩⟩) (fun w ν4 n4 => ⟨fun z => ?_, fun _ => ⟨fun z => ?_, fun _ => ⟨fun n6 => ?_, fun y6 => ?_⟩⟩⟩) (fun ν1 r1 => ⟨fun _ => f253 _ ν1 l0 r1, fun z => absurd r1.m5 z⟩)
      · exact s253 _ ν many l0 (fun w => by omega) u.at' (by rw [u.md]; decide) fun ν9 e9 => u.fld (fun c j z => by rw [e9, ab_mud, if_neg (by omega)]) (by rw [e9, ab_mud, if_pos ⟨rfl, rfl⟩]) (by omega) La
      · rw [n4.f 109 39 (by omega) (by omega), u.md] at z; exact absurd z (by decide)
      · exact absurd (by rw [n4.f 109 22 (by omega) (by omega), ps]; exact w) z
      · obtain ⟨l2a, l2b⟩ := l2 w
        have mx := (u.one w).1
        refine s253 _ ν4 (many + 1) l0 (fun _ => ⟨?_, l2b⟩) (by rw [n4.f 109 40 (by omega) (by omega)]; exact u.at') (by rw [n4.f 109 39 (by omega) (by omega), u.md]; decide) fun ν9 e9 => u.add w (hO w).nm.nm.1 (by rw [l2a] at n6; exact n6) n4 e9 La
        show ab_w (l 2 + 1) = many + 1
        rw [l2a]; exact ab_wi (by omega) (by omega)
      · refine c_mM_fail (by rw [n4.f 109 43 (by omega) (by omega)]; exact u.ft) (by decide) (by rw [n4.f 109 40 (by omega) (by omega), u.at']; omega) fun ν5 m5 => f253 _ ν5 l0 ?_
        refine hJ.i.fault (μ1 := ν4) (fun c j z => ?_) (fun j => by rw [n4.f 121 j (by omega) (by omega)]; exact u.rs j) m5
        rw [n4.f c j (fun y => z (by unfold rdW; omega)) (fun y => z (by unfold rdW; omega))]; exact u.fr c j z
  have s90 : ∀ (l : ab_l) (ν : ab_m), l 0 = 109 → K (s.2.1 + 1) = 1 → (μ 109 22 = 1 → μ 109 32 ≠ 15) → V g μ Γ dd ν (s.2.1 + 1) 0 (μ 109 46) [] 0 0 0 (hQ s) (sQ F s) (fun _ => False) (qP []) → (∀ c j, ¬ (c = 109 ∧ j = 40) → ν c j = μ c j) → jj_mM_readDef X (d + 4) 90 l [] ν P := by
    intro l ν l0 k1 h15 v fv
    have L2 := aK_lt hJ.i.kk (by omega) L1 k1 (by decide)
    refine bk_mM_readDef_90 l0 fun ν1 e1 => ?_
    have v1 := v.fa1 (by omega) e1
    rw [v.at']
    refine c_R_takeOpen v1.ft (by rw [v1.at']; omega) (fun q2 ν2 f2 a2 => ⟨fun _ => ?_, fun w => absurd w (by decide)⟩) (fun ν2 m2 => ⟨fun w => absurd rfl w, fun _ => hF _ (hJ.i.fault v1.fr v1.rs m2)⟩)
    rw [v1.at', v1.Kk hJ.i, show s.2.1 + 1 + 1 = s.2.1 + 2 by omega] at q2
    have L3 := aK_lt hJ.i.kk (by omega) (by omega) q2 (by decide)
    rw [v1.at', show s.2.1 + 1 + 1 + 1 = s.2.1 + 3 by omega] at a2
    have v2 : V g μ Γ dd ν2 (s.2.1 + 3) 0 (μ 109 46) [] 0 0 0 (hQ s) (sQ F s) (fun _ => False) (qP []) := v1.fld (fun c j z => f2 c j (by omega)) a2 (by rw [f2 109 39 (by omega)]; exact v1.md) (by rw [f2 109 46 (by omega)]; exact v1.op)
    have l2 : ν2 109 38 = 0 := v2.ln
    refine c_mM_push (by rw [l2]; decide) fun ν5 m5 => ?_
    obtain ⟨c1, c2, c3, c4, c5, c6, c7⟩ := m5
    rw [l2] at c1 c2 c3 c4 c5 c6 c7
    rw [c2, show ab_w ((0 : Int) + 1 - 1) = 0 from ab_wi (by decide) (by decide)]
    refine ⟨by decide, fun ν8 e8 => ?_⟩
    refine c_rd_beginBlock (L := 0) (by rw [e8, ab_mud, if_neg (by omega)]; exact c2) (by decide) fun ν9 f9 e9 => ?_
    have f : ∀ c j, ¬ (129 ≤ c ∧ c ≤ 133 ∧ j = 0) → ¬ (c = 109 ∧ (j = 28 ∨ j = 29 ∨ j = 38)) → ν9 c j = ν2 c j := fun c j z1 z2 => by
      rw [f9 c j (by omega) (by omega), e8, ab_mud, if_neg (by omega)]; exact c1 c j (by omega) (by omega)
    have base : ∀ ν14, (∀ c j, ¬ (c = 119 ∧ j = 16 * g + μ 109 32) → ν14 c j = ν9 c j) → (μ 109 22 = 1 → ν14 119 (16 * g + μ 109 32) = μ 109 30 ∧ 0 ≤ μ 109 32 ∧ μ 109 32 < 15) → (μ 109 22 = 0 → ∀ c j, ν14 c j = ν9 c j) → dL W g μ s ν14 (s.2.1 + 3) 0 := fun ν14 f14 h1 h0 => by
      have fe : ∀ c j, ¬ (129 ≤ c ∧ c ≤ 133 ∧ j = 0) → ¬ (c = 109 ∧ (j = 28 ∨ j = 29 ∨ j = 38)) → ¬ (c = 119 ∧ j = 16 * g + μ 109 32) → ν14 c j = ν2 c j := fun c j z1 z2 z3 => by rw [f14 c j z3]; exact f c j z1 z2
      refine ⟨fun c j z => ?_, by rw [fe 109 40 (by omega) (by omega) (by omega)]; exact v2.at', by omega, by omega, by rw [fe 109 39 (by omega) (by omega) (by omega)]; exact v2.md, ?_, ⟨?_, ?_, ?_, ?_⟩, by rw [fe 109 43 (by omega) (by omega) (by omega)]; exact v2.ft, fun c j z => by rw [fe c j (by omega) (by omega) (by omega)]; exact v2.tb c j z, fun j => by rw [fe 121 j (by omega) (by omega) (by omega)]; exact v2.rs j, fun c j z => ?_, by decide, fun w => ⟨by decide, by rw [fe 109 27 (by omega) (by omega) (by omega), v2.nf 109 27 (by omega)]; omega, by rw [fe 109 30 (by omega) (by omega) (by omega), v2.nf 109 30 (by omega)]; omega, (h1 w).1, fun i _ _ => ⟨by rw [fe 126 i (by omega) (by omega) (by omega)]; exact v2.nf 126 i (by omega), by rw [fe 127 i (by omega) (by omega) (by omega)]; exact v2.nf 127 i (by omega)⟩, fun i x y => by omega⟩⟩
      · rcases hJ.i.p01 with p0 | p1
        · rw [h0 p0 c j, f c j (fun y => z (by unfold rdW; omega)) (fun y => z (by unfold rdW; omega))]; exact v2.fr c j z
        · have := h1 p1
          rw [fe c j (fun y => z (by unfold rdW; omega)) (fun y => z (by unfold rdW; omega)) (fun y => z (by unfold rdW; omega))]; exact v2.fr c j z
      · rw [f14 109 38 (by omega), f9 109 38 (by omega) (by omega), e8, ab_mud, if_neg (by omega)]; exact c2
      · rw [f14 129 0 (by omega), f9 129 0 (by omega) (by omega), e8, ab_mud, if_neg (by omega)]; exact c3
      · rw [f14 130 0 (by omega), e9, e8, ab_mud, if_neg (by omega), c1 109 27 (by omega) (by omega)]; exact v2.nf 109 27 (by omega)
      · rw [f14 132 0 (by omega), f9 132 0 (by omega) (by omega), e8, ab_mud, if_neg (by omega)]; exact c6
      · rw [f14 133 0 (by omega), f9 133 0 (by omega) (by omega), e8, ab_mud, if_pos ⟨rfl, rfl⟩]
      · rw [fe c j (by omega) (by omega) (by omega), f2 c j (by omega), e1, ab_mud, if_neg (by omega)]
        exact fv c j (by omega)
    have ps : ν9 109 22 = μ 109 22 := by rw [f 109 22 (by omega) (by omega)]; exact v2.ps
    have go : ∀ ν14, dL W g μ s ν14 (s.2.1 + 3) 0 → ∀ l' : ab_l, l' 0 = 109 → l' 2 = 0 → ((0 : Int) ≤ ν14 109 40 ∧ (ν14 109 40 : Int) < 3002) ∧ (ν14 111 (ν14 109 40) = 41 → jj_mM_readDef X (d + 4) 189 (ab_up l' 3 0) [] ν14 P) ∧ (ν14 111 (ν14 109 40) ≠ 41 → jj_mM_readDef X (d + 4) 189 (ab_up l' 3 1) [] ν14 P) := fun ν14 u l' l0' l2' => by
      have kk : ∀ i, ν14 111 i = K i := fun i => by rw [u.fr 111 i (by unfold rdW; omega)]; exact hJ.i.K i
      rw [u.at', kk]
      refine ⟨by omega, fun y41 => last _ ν14 (s.2.1 + 3) 0 l0' rfl (fun w => ⟨l2', h15 w⟩) u k1 q2 (if_pos y41), fun n41 => main _ _ ν14 (s.2.1 + 3) 0 3002 l0' rfl (fun w => ⟨l2', h15 w⟩) u k1 q2 n41 rfl (by omega) rfl⟩
    refine ⟨fun n1 => go ν9 (base ν9 (fun _ _ _ => rfl) (fun w => absurd (by rw [ps]; exact w) n1) fun _ _ _ => rfl) _ l0 rfl, fun y1 => ?_⟩
    rw [ps] at y1
    have dnb := (hO y1).nm.dn
    have := h15 y1
    have q20 : ν9 109 20 = g := by rw [f 109 20 (by omega) (by omega)]; exact v2.h20
    have q32 : ν9 109 32 = μ 109 32 := by rw [f 109 32 (by omega) (by omega)]; exact v2.nf 109 32 (by omega)
    have q30 : ν9 109 30 = μ 109 30 := by rw [f 109 30 (by omega) (by omega)]; exact v2.nf 109 30 (by omega)
    rw [q20, q32, q30, show ab_w (16 * g) = 16 * g from ab_wi (by omega) (by omega), show ab_w (16 * g + μ 109 32) = 16 * g + μ 109 32 from ab_wi (by omega) (by omega)]
    refine ⟨by omega, fun ν14 e14 => ?_⟩
    exact go ν14 (base ν14 (fun c j z => by rw [e14, ab_mud, if_neg z]) (fun _ => ⟨by rw [e14, ab_mud, if_pos ⟨rfl, rfl⟩], by omega⟩) fun z => by omega) _ l0 rfl
  refine bk_mM_readDef_0 rfl fun ν1 e1 => ?_
  have v1 := v0.fa1 (by omega) e1
  have fv1 : ∀ c j, ¬ (c = 109 ∧ j = 40) → ν1 c j = μ c j := fun c j z => by rw [e1, ab_mud, if_neg z]
  rw [v1.at', v1.Kk hJ.i]
  have s62 : K (s.2.1 + 1) = 1 → ∀ l : ab_l, l 0 = 109 → jj_mM_readDef X (d + 4) 62 l [] ν1 P := by
    intro k1 l l0
    refine bk_mM_readDef_62 l0 ?_
    rw [v1.nf 109 32 (by omega)]
    exact ⟨fun n1 => s90 _ _ l0 k1 (fun w => absurd (by rw [v1.ps]; exact w) n1) v1 fv1, fun _ => ⟨fun n8 => s90 _ _ l0 k1 (fun _ => n8) v1 fv1, fun _ => c_V_fail hJ.i v1 (by decide) (by rw [v1.at']; omega) hF⟩⟩
  refine ⟨by omega, fun k1 => ⟨fun _ => s62 k1 _ rfl, fun y1 => ⟨by omega, ?_⟩⟩, fun _ => c_V_misfit hJ.i v1 (by omega) hF⟩
  rw [v1.ps] at y1
  have nm := (hO y1).nm.nm
  refine c_mM_isTold (by rw [v1.nf 109 27 (by omega)]; omega) fun q hq => ⟨fun _ => s62 k1 _ rfl, fun _ => ?_⟩
  exact c_V_fail hJ.i v1 (by decide) (by rw [v1.at']; omega) hF
end M68

/-! THE REFERENCE, part 69: readDecl, goOver -/
section M69
variable {X : jm_X} {d : Nat} {P : Int → ab_m → Prop} {K : Int → Int} {W g : Int} {s0 : aS} {μ0 μ ν ν' : ab_m} {s s' : aS} {Γ Γ' : tQ} {F F' : Int → List Int} {dd : Int} {Ln : Int → Nat} {G : Int → List Int}
set_option maxHeartbeats 1000000 in
/-- the program begins -/
theorem c_rd_begin (hJ : J K W g s0 μ0 μ s) (hm : s.1 = 0) (hk : K s.2.1 ≠ 11 ∧ K s.2.1 ≠ 15 ∧ K s.2.1 ≠ 20) (hN : ∀ ν' s', J K W g s0 μ0 ν' s' ∧ aMs W s' < aMs W s → P 0 ν') : jj_mM_push X d 0 (ab_la [109, 1, 0, 0]) [] μ (fun r11 μ10 => jj_mM_beginBlock X d 0 (ab_la [109]) [] μ10 (fun r14 μ13 => (μ13 109 22 ≠ 1 → ∀ μ16, μ16 = ab_mu μ13 109 39 1 → P 0 μ16) ∧ (μ13 109 22 = 1 → ((0 : Int) ≤ μ13 109 20 ∧ (μ13 109 20 : Int) < 2) ∧ ∀ μ18, μ18 = ab_mu μ13 124 (μ13 109 20) (μ13 109 21) → ∀ μ19, μ19 = ab_mu μ18 109 39 1 → P 0 μ19))) := by
  obtain ⟨Γ, F, dd, Ln, G, hO, hZ⟩ := hJ.get
  have at0 := hJ.at'
  have g01 := hJ.i.g01
  have hs := hJ.i.w.m0 hm
  obtain ⟨r1, r2, -, r4, r5⟩ := hJ.i.r
  have l0 : μ 109 38 = 0 := by rw [r4, hs]; rfl
  have nx : aNext K s = some ((1, s.2.1, s.2.2.1, ⟨1, 0, 0, 0⟩ :: s.2.2.2), none) := by simp [aNext, aDecl, hm, hk]
  have aq := aNext_q hJ.i.kk hJ.i.w _ _ nx
  refine c_mM_push (by rw [l0]; decide) fun ν5 m5 => ?_
  obtain ⟨c1, c2, c3, c4, c5, c6, c7⟩ := m5
  rw [l0] at c1 c2 c3 c4 c5 c6 c7
  refine c_rd_beginBlock (L := 0) c2 (by decide) fun ν9 f9 e9 => ?_
  have f : ∀ c j, ¬ (129 ≤ c ∧ c ≤ 133 ∧ j = 0) → ¬ (c = 109 ∧ (j = 28 ∨ j = 29 ∨ j = 38)) → ν9 c j = μ c j := fun c j z1 z2 => by
    rw [f9 c j (by omega) (by omega)]; exact c1 c j (by omega) (by omega)
  have h38 : ν9 109 38 = 1 := by rw [f9 109 38 (by omega) (by omega)]; exact c2
  have h129 : ν9 129 0 = 1 := by rw [f9 129 0 (by omega) (by omega)]; exact c3
  have h130 : ν9 130 0 = μ 109 27 := by rw [e9, c1 109 27 (by omega) (by omega)]
  have ri : ∀ ν, (∀ c j, ¬ (c = 109 ∧ j = 39) → ¬ (c = 124 ∧ j = g) → ν c j = ν9 c j) → ν 109 39 = 1 → rI K W g μ0 ν (1, s.2.1, s.2.2.1, ⟨1, 0, 0, 0⟩ :: s.2.2.2) := fun ν fn h39 => by
    refine hJ.i.go nx (fun c j z => ?_) (fun j _ _ => Or.inl (by rw [fn 121 j (by omega) (by omega)]; exact f 121 j (by omega) (by omega))) (by rw [fn 109 43 (by omega) (by omega)]; exact f 109 43 (by omega) (by omega)) ⟨h39, by rw [fn 109 40 (by omega) (by omega), f 109 40 (by omega) (by omega)]; exact r2, fun m3 => absurd (show (1 : Int) = 3 from m3) (by decide), ?_, ?_⟩
    · rw [fn c j (fun y => z (by unfold rdW; omega)) (fun y => z (by unfold rdW; omega)), f c j (fun y => z (by unfold rdW; omega)) (fun y => z (by unfold rdW; omega))]
    · show ν 109 38 = ((_ :: s.2.2.2 : List aE).length : Int)
      rw [hs, fn 109 38 (by omega) (by omega)]; exact h38
    · show aP ν (_ :: s.2.2.2)
      rw [hs]
      exact ⟨aM_n (by show ν 129 0 = 1; rw [fn 129 0 (by omega) (by omega)]; exact h129) (by decide), trivial⟩
  have e22 : ν9 109 22 = μ 109 22 := f 109 22 (by omega) (by omega)
  refine ⟨fun n1 ν e => ?_, fun y1 => ?_⟩
  · have p0 : μ 109 22 = 0 := by have := hJ.i.p01; omega
    have fn : ∀ c j, ¬ (c = 109 ∧ j = 39) → ν c j = ν9 c j := fun c j z => by rw [e, ab_mud, if_neg z]
    exact hN _ _ ⟨⟨ri ν (fun c j z _ => fn c j z) (by rw [e, ab_mud, if_pos ⟨rfl, rfl⟩]), fun _ => ⟨G, (hZ p0).go hJ.i nx fun c j z => by rw [fn c j (by omega)]; exact f c j (by omega) (by omega)⟩, fun z => by rw [fn 109 22 (by omega)] at z; omega⟩, aq.ms⟩
  · have p1 : μ 109 22 = 1 := by omega
    have O := hO p1
    have q20 : ν9 109 20 = g := by rw [f 109 20 (by omega) (by omega)]; exact hJ.i.hf
    have q21 : ν9 109 21 = μ 109 21 := f 109 21 (by omega) (by omega)
    rw [q20, q21]
    refine ⟨by omega, fun ν18 e18 ν e => ?_⟩
    have fn : ∀ c j, ¬ (c = 109 ∧ j = 39) → ¬ (c = 124 ∧ j = g) → ν c j = ν9 c j := fun c j z1 z2 => by rw [e, ab_mud, if_neg z1, e18, ab_mud, if_neg z2]
    have fm : ∀ c j, ¬ (129 ≤ c ∧ c ≤ 133 ∧ j = 0) → ¬ (c = 109 ∧ (j = 28 ∨ j = 29 ∨ j = 38 ∨ j = 39)) → ¬ (c = 124 ∧ j = g) → ν c j = μ c j := fun c j z1 z2 z3 => by rw [fn c j (by omega) z3]; exact f c j z1 (by omega)
    have h124 : ν 124 g = μ 109 21 := by rw [e, ab_mud, if_neg (by omega), e18, ab_mud, if_pos ⟨rfl, rfl⟩]
    have rr := ri ν fn (by rw [e, ab_mud, if_pos ⟨rfl, rfl⟩])
    refine hN _ _ ⟨⟨rr, fun z => by rw [fm 109 22 (by omega) (by omega) (by omega)] at z; omega, fun _ => ?_⟩, aq.ms⟩
    obtain ⟨F', rest', eF⟩ := O.rest.next nx
    have eF : F = F' := eF
    subst eF
    have b3 := O.b3.2 (by rw [hs]; show (0 : Int) ≠ 3; decide)
    have X0 := O.x
    rw [hs, hQ_m (by omega), sQ_m (by omega), hs] at X0
    have h21 : ν 109 21 = μ 109 21 := fm 109 21 (by omega) (by omega) (by omega)
    have h32 : ν 109 32 = μ 109 32 := fm 109 32 (by omega) (by omega) (by omega)
    have am : aM ν 0 ⟨1, 0, 0, 0⟩ := by
      have := rr.r.2.2.2.2
      rw [hs] at this
      exact this.1
    have xn := X0.put (μ' := ν) (e := ⟨1, 0, 0, 0⟩) ⟨fun j _ _ => fm 115 _ (by omega) (by omega) (by omega), fun j _ _ => fm 116 _ (by omega) (by omega) (by omega), fun c j _ => fm c j (by omega) (by omega) (by omega), fun c j _ _ _ z => by simp at z; omega⟩ am (eF_n (by decide)) (fun z => absurd z (by decide)) (fun z => absurd z (by decide)) (fun z => absurd z (by decide))
    have hp1 : aPs [(⟨1, 0, 0, 0⟩ : aE)] := Or.inl ⟨Or.inl rfl, rfl⟩
    have bu := O.bu
    have bw := O.bw
    rw [hs] at bu bw
    have nb := O.nm.nb
    rw [hs] at nb
    have G0 : ∀ j, 0 ≤ j → j ≤ μ 109 21 → tQe Γ Γ j := fun _ _ _ => ⟨rfl, rfl, rfl, rfl, rfl⟩
    have sx : xS μ ν g (μ 109 21) 0 := ⟨fun j _ _ => fm 115 _ (by omega) (by omega) (by omega), fun j _ _ => fm 116 _ (by omega) (by omega) (by omega), fun c j _ => fm c j (by omega) (by omega) (by omega), fun c j _ _ _ z => by omega⟩
    have n0 := O.x.n0
    refine ⟨Γ, F, dd, Ln, ⟨?_, rest', O.tbs (fun c j z => fm c j (by omega) (by omega) (by omega)) (Int.le_refl _), fun y b hb h2 => by rw [fm 134 y (by omega) (by omega) (by omega)]; exact O.xc y b hb h2, O.tot, ?_, ?_, ?_, ⟨fun z => ?_, fun _ => by rw [h32]; exact b3⟩, fun _ => ?_, fun z => absurd z (List.cons_ne_nil _ _)⟩⟩
    · rw [h21, h32, hQ_m (s := (1, s.2.1, s.2.2.1, ⟨1, 0, 0, 0⟩ :: s.2.2.2)) (by show (1 : Int) ≠ 3; decide), sQ_m (s := (1, s.2.1, s.2.2.1, ⟨1, 0, 0, 0⟩ :: s.2.2.2)) (by show (1 : Int) ≠ 3; decide)]
      show x1 ν g Γ dd (⟨1, 0, 0, 0⟩ :: s.2.2.2) (μ 109 21) (hP (⟨1, 0, 0, 0⟩ :: s.2.2.2)) (sP F (⟨1, 0, 0, 0⟩ :: s.2.2.2)) (μ 109 32) (pN ν g (qP (⟨1, 0, 0, 0⟩ :: s.2.2.2)) ((⟨1, 0, 0, 0⟩ :: s.2.2.2 : List aE).length : Int)) (qP (⟨1, 0, 0, 0⟩ :: s.2.2.2))
      rw [hs]
      refine xn.more fun k _ _ _ z => ?_
      obtain ⟨i, i0, i1, -⟩ := z
      simp at i1; omega
    · rw [h21]
      show μ 109 21 + pEn (⟨1, 0, 0, 0⟩ :: s.2.2.2) ≤ 2 * s.2.1 + (sW Ln s.2.1.toNat : Int)
      rw [hs, pEn_cons, if_neg (by decide)]; omega
    · rw [h21]
      show 2 * Γ.2.2.1 (μ 109 21) ≤ s.2.1 + pDo (⟨1, 0, 0, 0⟩ :: s.2.2.2) + 2 * (sW Ln s.2.1.toNat : Int)
      rw [hs, pDo_cons, if_neg (by decide), if_neg (by decide)]; omega
    · show nmI ν g Γ (tEv ν g dd) (⟨1, 0, 0, 0⟩ :: s.2.2.2) (ν 109 21) s.2.1
      rw [hs, h21]
      refine nmI.same O.nm (sx.x G0) n0 (Int.le_refl _) rfl (O.x.tr n0 (Int.le_refl _)).r0 (fun c j z => fm c j (by omega) (by omega) (by omega)) ?_ ?_ (Int.le_refl _) ?_
      · rw [fm 109 27 (by omega) (by omega) (by omega)]; have := O.nm.nm; omega
      · exact dD (fm 123 g (by omega) (by omega) (by omega)).symm fun j => (fm 122 j (by omega) (by omega) (by omega)).symm
      · unfold nB
        rw [if_pos (by decide)]
        show 0 ≤ ν 130 0 ∧ ν 130 0 ≤ ν 109 27 ∧ nB ν (tEv ν g dd) [] (ν 130 0)
        rw [fn 130 0 (by omega) (by omega), h130, fm 109 27 (by omega) (by omega) (by omega)]
        exact ⟨O.nm.nm.1, Int.le_refl _, nb.same (dD (fm 123 g (by omega) (by omega) (by omega)) fun j => fm 122 j (by omega) (by omega) (by omega)) (fun i => ⟨fm 126 i (by omega) (by omega) (by omega), fm 127 i (by omega) (by omega) (by omega)⟩) fun i _ z => by simp at z; omega⟩
    · have z : bK (⟨1, 0, 0, 0⟩ :: s.2.2.2) = 3 := z
      rw [hs] at z
      exact absurd (show (1 : Int) = 3 from z) (by decide)
    · rw [h124, h21, h32]
      exact ⟨n0, Int.le_refl _, O.x.cr, by rw [O.x.ch, hQ_m (by omega), hs]; rfl, by rw [O.x.cs, sQ_m (by omega), hs]; rfl, O.z0 hs⟩
theorem c_rd_readDecl (hJ : J K W g s0 μ0 μ s) (hm : s.1 = 0) (hF : ∀ ν', rFt g μ0 ν' → P 0 ν') (hN : ∀ ν' s', J K W g s0 μ0 ν' s' ∧ aMs W s' < aMs W s → P 0 ν') : jj_mM_readDecl X (d + 5) 0 (ab_la [109]) [] μ P := by
  obtain ⟨Γ, F, dd, Ln, G, hO, hZ⟩ := hJ.get
  have at0 := hJ.at'
  refine bk_mM_readDecl_0 rfl ?_
  rw [hJ.i.r.2.1, hJ.i.K]
  exact ⟨by omega, ⟨fun z => c_rd_readDef (P := fun _ μ => P 0 μ) hJ hm z hF hN, fun z => c_rd_readInts (P := fun _ μ => P 0 μ) hJ hO hZ (fun _ _ _ => rfl) z (Or.inl ⟨hm, rfl⟩) hF hN, fun z => c_rd_readRow (P := fun _ μ => P 0 μ) hJ hm z hF hN, trivial⟩, fun z => c_rd_begin hJ hm ⟨z.1, z.2.1, z.2.2.1⟩ hN⟩
/-- one pass over the words -/
theorem c_rd_go : ∀ (n : Nat) {l : ab_l} {μ : ab_m} {s : aS}, (aMs W s).toNat = n → l 0 = 109 → J K W g s0 μ0 μ s → (∀ ν', rFt g μ0 ν' → P 0 ν') → (∀ ν', rEd K W g s0 μ0 ν' → P 0 ν') → jj_mM_goOver X (d + 7) 70 l [] μ P := by
  intro n
  induction n using Nat.strongRecOn with
  | ind n ih =>
    intro l μ s hn l0 hJ hF hE
    have md := hJ.i.w.md
    have m1 : μ 109 39 = s.1 := hJ.i.r.1
    have at0 := hJ.at'
    have ms0 : 0 < aMs W s := by
      unfold aMs
      split
      · omega
      · split <;> omega
    have hF' : ∀ ν', rFt g μ0 ν' → jj_mM_goOver X (d + 7) 70 l [] ν' P := fun ν' f => bk_mM_goOver_70 l0 ⟨fun _ => hF _ f, fun z => absurd f.m5 z⟩
    have hE' : ∀ ν', rEd K W g s0 μ0 ν' → jj_mM_goOver X (d + 7) 70 l [] ν' P := fun ν' f => bk_mM_goOver_70 l0 ⟨fun _ => hE _ f, fun z => absurd f.m5 z⟩
    have hN : ∀ ν' s', J K W g s0 μ0 ν' s' ∧ aMs W s' < aMs W s → jj_mM_goOver X (d + 7) 70 l [] ν' P := fun ν' s' ⟨J', lt⟩ => ih _ (by omega) rfl l0 J' hF hE
    refine bk_mM_goOver_70 l0 ?_
    rw [m1]
    exact ⟨fun z => by omega, fun _ => ⟨⟨fun z => c_rd_readDecl (P := fun _ μ => jj_mM_goOver X (d + 7) 70 l [] μ P) hJ z hF' hN, fun z => c_rd_readStatement (P := fun _ μ => jj_mM_goOver X (d + 7) 70 l [] μ P) hJ z hF' hE' hN, fun z => c_rd_readOperand (P := fun _ μ => jj_mM_goOver X (d + 7) 70 l [] μ P) hJ z hF' hN, fun z => c_rd_readBehind (P := fun _ μ => jj_mM_goOver X (d + 7) 70 l [] μ P) hJ z hF' hN, trivial⟩, fun z => c_rd_statementDone (P := fun _ μ => jj_mM_goOver X (d + 7) 70 l [] μ P) hJ (by omega) hF' hN⟩⟩
end M69

/-! THE REFERENCE, part 70: goOver, read -/
section M70
variable {X : jm_X} {d : Nat} {P : Int → ab_m → Prop} {K : Int → Int} {W g : Int} {μ μ' ν : ab_m} {G : Int → List Int}
def aS0 : aS := ⟨0, 0, 0, []⟩
theorem aW0 (h : 0 ≤ W) : aW W aS0 := ⟨Int.le_refl _, h, by show (0 : Int) ≤ 0 + 1; decide, by decide, fun _ => rfl, fun z => absurd z (by decide), fun z => absurd z (by decide), fun z => absurd z (by decide)⟩
/-- what a pass begins with -/
theorem c_rd_start (hk : aK K W) (hK : ∀ i, ν 111 i = K i) (h43 : ν 109 43 = 0) (h20 : ν 109 20 = g) (g01 : g = 0 ∨ g = 1) (p01 : ν 109 22 = 0 ∨ ν 109 22 = 1) (rs : ∀ j, 0 ≤ j → j < 16 → 0 ≤ ν 121 j ∧ ν 121 j ≤ 100) (z : ν 109 22 = 0 → ν 109 51 = 0 ∧ ∀ w, 0 ≤ w → w ≤ W → ν 135 w = -1) (o : ν 109 22 = 1 → aRest K aS0 G ∧ (∀ w, 0 ≤ w → w ≤ W → mBl ν ((G w).filter fun b => decide (b < 2)).reverse (ν 135 w)) ∧ (∀ w b, b ∈ G w → 2 ≤ b → b = 2 + ν 134 w) ∧ sW (cF G) (W + 1).toNat ≤ 1500) (hF : ∀ ν', rFt g ν ν' → P 0 ν') (hE : ∀ ν', rEd K W g aS0 ν ν' → P 0 ν') : jj_mM_goOver X (d + 7) 0 (ab_la [109]) [] ν P := by
  refine bk_mM_goOver_0 rfl fun ν1 e1 ν2 e2 ν3 e3 ν4 e4 ν5 e5 ν6 e6 ν7 e7 ν8 e8 ν9 e9 ν10 e10 ν11 e11 => ?_
  have F : ∀ j v, ∀ (α β : ab_m), β = ab_mu α 109 j v → β 109 j = v := fun j v α β h => by rw [h, ab_mud, if_pos ⟨rfl, rfl⟩]
  have Q : ∀ j v c i, ∀ (α β : ab_m), β = ab_mu α 109 j v → ¬ (c = 109 ∧ i = j) → β c i = α c i := fun j v c i α β h z => by rw [h, ab_mud, if_neg z]
  have f11 : ∀ c i, ¬ (c = 109 ∧ (i = 40 ∨ i = 38 ∨ i = 41 ∨ i = 42 ∨ (27 ≤ i ∧ i ≤ 32) ∨ i = 21)) → ν11 c i = ν c i := fun c i y => by
    rw [Q 21 0 c i _ _ e11 (by omega), Q 32 0 c i _ _ e10 (by omega), Q 31 0 c i _ _ e9 (by omega), Q 30 0 c i _ _ e8 (by omega), Q 29 0 c i _ _ e7 (by omega), Q 28 0 c i _ _ e6 (by omega), Q 27 0 c i _ _ e5 (by omega), Q 42 0 c i _ _ e4 (by omega), Q 41 0 c i _ _ e3 (by omega), Q 38 0 c i _ _ e2 (by omega), Q 40 0 c i _ _ e1 (by omega)]
  have v21 : ν11 109 21 = 0 := F 21 0 _ _ e11
  have v32 : ν11 109 32 = 0 := by rw [Q 21 0 _ _ _ _ e11 (by omega)]; exact F 32 0 _ _ e10
  have v31 : ν11 109 31 = 0 := by rw [Q 21 0 _ _ _ _ e11 (by omega), Q 32 0 _ _ _ _ e10 (by omega)]; exact F 31 0 _ _ e9
  have v30 : ν11 109 30 = 0 := by rw [Q 21 0 _ _ _ _ e11 (by omega), Q 32 0 _ _ _ _ e10 (by omega), Q 31 0 _ _ _ _ e9 (by omega)]; exact F 30 0 _ _ e8
  have v27 : ν11 109 27 = 0 := by rw [Q 21 0 _ _ _ _ e11 (by omega), Q 32 0 _ _ _ _ e10 (by omega), Q 31 0 _ _ _ _ e9 (by omega), Q 30 0 _ _ _ _ e8 (by omega), Q 29 0 _ _ _ _ e7 (by omega), Q 28 0 _ _ _ _ e6 (by omega)]; exact F 27 0 _ _ e5
  have v38 : ν11 109 38 = 0 := by rw [Q 21 0 _ _ _ _ e11 (by omega), Q 32 0 _ _ _ _ e10 (by omega), Q 31 0 _ _ _ _ e9 (by omega), Q 30 0 _ _ _ _ e8 (by omega), Q 29 0 _ _ _ _ e7 (by omega), Q 28 0 _ _ _ _ e6 (by omega), Q 27 0 _ _ _ _ e5 (by omega), Q 42 0 _ _ _ _ e4 (by omega), Q 41 0 _ _ _ _ e3 (by omega)]; exact F 38 0 _ _ e2
  have v40 : ν11 109 40 = 0 := by rw [Q 21 0 _ _ _ _ e11 (by omega), Q 32 0 _ _ _ _ e10 (by omega), Q 31 0 _ _ _ _ e9 (by omega), Q 30 0 _ _ _ _ e8 (by omega), Q 29 0 _ _ _ _ e7 (by omega), Q 28 0 _ _ _ _ e6 (by omega), Q 27 0 _ _ _ _ e5 (by omega), Q 42 0 _ _ _ _ e4 (by omega), Q 41 0 _ _ _ _ e3 (by omega), Q 38 0 _ _ _ _ e2 (by omega)]; exact F 40 0 _ _ e1
  clear e1 e2 e3 e4 e5 e6 e7 e8 e9 e10 e11
  rw [f11 109 20 (by omega), h20]
  refine ⟨by omega, fun ν12 e12 ν13 e13 => ?_⟩
  have f : ∀ c i, ¬ (c = 109 ∧ (i = 40 ∨ i = 38 ∨ i = 39 ∨ i = 41 ∨ i = 42 ∨ (27 ≤ i ∧ i ≤ 32) ∨ i = 21)) → ¬ (c = 123 ∧ i = g) → ν13 c i = ν c i := fun c i y1 y2 => by
    rw [e13, ab_mud, if_neg (by omega), e12, ab_mud, if_neg y2]; exact f11 c i (by omega)
  have w : ∀ i, i ≠ 39 → ν13 109 i = ν11 109 i := fun i y => by rw [e13, ab_mud, if_neg (by omega), e12, mu_ne (by decide)]
  have w39 : ν13 109 39 = 0 := by rw [e13, ab_mud, if_pos ⟨rfl, rfl⟩]
  have w123 : ν13 123 g = 0 := by rw [e13, ab_mud, if_neg (by omega), e12, ab_mud, if_pos ⟨rfl, rfl⟩]
  have W0 := hk.1
  have W3 := hk.2.1
  refine c_rd_go _ (s := aS0) rfl rfl ⟨⟨hk, fun i => by rw [f 111 i (by omega) (by omega)]; exact hK i, by rw [f 109 43 (by omega) (by omega)]; exact h43, ⟨w39, by rw [w 40 (by decide)]; exact v40, fun y => absurd y (by decide), by rw [w 38 (by decide)]; exact v38, trivial⟩, aW0 W0, by rw [f 109 20 (by omega) (by omega)]; exact h20, g01, by rw [f 109 22 (by omega) (by omega)]; exact p01, fun c i y => f c i (fun u => y (by unfold rdW; omega)) (fun u => y (by unfold rdW; omega)), fun j a b => by rw [f 121 j (by omega) (by omega)]; exact rs j a b⟩, fun p0 => ⟨fun _ => [], ?_⟩, fun p1 => ?_⟩ hF hE
  · rw [f 109 22 (by omega) (by omega)] at p0
    obtain ⟨z1, z2⟩ := z p0
    have e51 : ν13 109 51 = 0 := by rw [f 109 51 (by omega) (by omega)]; exact z1
    refine ⟨fun F' a => ?_, fun w a b => ?_, fun _ _ hb => (by cases hb), fun _ _ => rfl, fun _ hx => (by cases hx), by rw [e51]; exact Int.le_refl _, by rw [e51]; decide, ?_⟩
    · exact a
    · show mBu ν13 _ [] _
      rw [f 135 w (by omega) (by omega)]; exact z2 w a b
    · rw [e51]
      have : ∀ n, sW (cF fun _ => []) n = 0 := fun n => by
        induction n with
        | zero => rfl
        | succ n ih => show sW (cF fun _ => []) n + cF (fun _ => []) n = 0; rw [ih]; rfl
      rw [this]; rfl
  · rw [f 109 22 (by omega) (by omega)] at p1
    obtain ⟨o1, o2, o3, o4⟩ := o p1
    have n21 : ν13 109 21 = 0 := by rw [w 21 (by decide)]; exact v21
    have n32 : ν13 109 32 = 0 := by rw [w 32 (by decide)]; exact v32
    refine ⟨⟨fun _ => 0, fun _ => [], fun _ => 0, fun _ => 0, fun _ => 0⟩, G, 0, cF G, ⟨?_, o1, fun w a b => ⟨_, (by rw [f 135 w (by omega) (by omega)]; exact (o2 w a b).same fun c j hc => f c j (by omega) (by omega)), ?_, rfl⟩, fun w b hb h2 => by rw [f 134 w (by omega) (by omega)]; exact o3 w b hb h2, o4, ?_, ?_, ?_, ⟨fun y => absurd (show (0 : Int) = 3 from y) (by decide), fun _ => n32.symm⟩, fun y => absurd (show (0 : Int) = 1 from y) (by decide), fun _ => n21.symm⟩⟩
    · rw [n21, n32]
      refine ⟨Int.le_refl _, fun k a b => by omega, rfl, rfl, rfl, ⟨rfl, rfl, rfl, rfl, rfl⟩, fun k a b => by omega, trivial, trivial, ⟨fun i a b => by simp [aS0] at b; omega, fun i a b => by simp [aS0] at b; omega, fun i a b => by simp [aS0] at b; omega⟩, fun x a b => by omega, Or.inl rfl⟩
    · unfold cF; simp
    · rw [n21]; show (0 : Int) + 0 ≤ 2 * 0 + ((0 : Nat) : Int); decide
    · show (2 : Int) * 0 ≤ 0 + 0 + 2 * ((0 : Nat) : Int); decide
    · have e30 : ν13 109 30 = 0 := by rw [w 30 (by decide)]; exact v30
      have e27 : ν13 109 27 = 0 := by rw [w 27 (by decide)]; exact v27
      refine ⟨by rw [e27]; decide, by rw [e30]; decide, by rw [w123]; decide, by rw [w 31 (by decide), v31]; decide, by rw [n32]; decide, fun i a b => by omega, fun i a b => by omega, fun y hy => ?_⟩
      obtain ⟨i, i0, i1, -⟩ := hy
      rw [w123] at i1; omega
/-- the text of a half is read from that half alone -/
theorem tW.same {h N dn : Int} {Γ : tQ} (t : tW μ h Γ N dn) (f : ∀ c j, 115 ≤ c ∧ c ≤ 124 → ¬ rdW g c j → μ' c j = μ c j) (gh : (g = 0 ∨ g = 1) ∧ (h = 0 ∨ h = 1) ∧ g ≠ h) : tW μ' h Γ N dn := by
  have N9 := t.n0
  have d15 := t.d15
  have f5 : ∀ k, 0 ≤ k → k < N → μ' 115 (9000 * h + k) = μ 115 (9000 * h + k) := fun k a b => f 115 _ (by omega) (by unfold rdW; omega)
  have f6 : ∀ k, 0 ≤ k → k < N → μ' 116 (9000 * h + k) = μ 116 (9000 * h + k) := fun k a b => f 116 _ (by omega) (by unfold rdW; omega)
  have f8 : ∀ c x, c = 118 ∨ c = 119 ∨ c = 120 → 0 ≤ x → x < dn → μ' c (16 * h + x) = μ c (16 * h + x) := fun c x hc a b => f c _ (by omega) (by unfold rdW; omega)
  have f3 : μ' 123 h = μ 123 h := f 123 h (by omega) (by unfold rdW; omega)
  have f4 : μ' 124 h = μ 124 h := f 124 h (by omega) (by unfold rdW; omega)
  have dm := t.dm
  have hD : ∀ y, (tEv μ h dn).2.2.2.2.1 y → (tEv μ' h dn).2.2.2.2.1 y := fun y ⟨i, i0, i1, i2⟩ => ⟨i, i0, by rw [f3]; exact i1, by rw [f 122 _ (by omega) (by unfold rdW; omega)]; exact i2⟩
  have hD' : ∀ y, (tEv μ' h dn).2.2.2.2.1 y → (tEv μ h dn).2.2.2.2.1 y := fun y ⟨i, i0, i1, i2⟩ => by
    rw [f3] at i1
    exact ⟨i, i0, i1, by rw [← f 122 _ (by omega) (by unfold rdW; omega)]; exact i2⟩
  have G0 : ∀ j, 0 ≤ j → j ≤ N → tQe Γ Γ j := fun _ _ _ => ⟨rfl, rfl, rfl, rfl, rfl⟩
  have x : tX (tEv μ h dn) (tEv μ' h dn) Γ Γ N := ⟨f5, fun j a b _ => f6 j a b, G0, Int.le_refl _, fun y a b => ⟨f8 120 y (by omega) a b, f8 119 y (by omega) a b⟩, hD⟩
  have tf : tF (tEv μ h dn) Γ (N - 1) (fun _ => False) := fun k a b => ⟨(t.k k a (by omega)).1, fun go => Or.inr ((t.k k a (by omega)).2 go)⟩
  have tr : ∀ k, 0 ≤ k → k < N → tR Γ k := fun k a b => by
    have := tf.nr t.base (fun k a b => t.ns k a b) k.toNat (by omega)
    rwa [Int.toNat_of_nonneg a] at this
  have x1' : tX (tEv μ h dn) (tEv μ' h dn) Γ Γ (N - 1) := ⟨fun j a b => f5 j a (by omega), fun j a b _ => f6 j a (by omega), fun j a b => G0 j a (by omega), Int.le_refl _, fun y a b => ⟨f8 120 y (by omega) a b, f8 119 y (by omega) a b⟩, hD⟩
  refine ⟨N9, fun k a b => ⟨x.k ⟨a, b⟩ (tr k a b).r0 (t.k k a b).1, fun go => ?_⟩, t.base, by rw [f5 _ (by omega) (by omega)]; exact t.st, fun k a b => by rw [f5 k a (by omega)]; exact t.ns k a b, by rw [f4]; exact t.b, fun y a b => by rw [f8 118 y (by omega) a b, f8 119 y (by omega) a b, f8 120 y (by omega) a b]; exact t.d y a b, d15, t.rN, t.w, by rw [f3]; exact dm, fun y hy => t.D y (hD' y hy)⟩
  rw [f5 k a b] at go
  have j1 := (t.k k a b).2 go
  unfold tJ
  rw [show (tEv μ' h dn).1 k = (tEv μ h dn).1 k from f5 k a b, show (tEv μ' h dn).2.1 k = (tEv μ h dn).2.1 k from f6 k a b]
  by_cases kn : k < N - 1
  · exact x1'.jt (Int.le_refl _) ⟨a, kn⟩ j1
  · exfalso
    have : k = N - 1 := by omega
    rw [this, t.st] at go
    exact absurd go (by unfold tGo; decide)
end M70

