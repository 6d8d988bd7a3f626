/-! THE REFERENCE, part 67: readDef itself -/
section M67
variable {X : jm_X} {d : Nat} {P : Int → ab_m → Prop} {K : Int → Int} {W g : Int} {s0 : aS} {μ0 μ ν ν' : ab_m} {s s' : aS} {Γ Γ' : tQ} {F F' : Int → List Int} {dd : Int} {Ln : Int → Nat} {G : Int → List Int} {a k n : Int} {many : Int} {e : aE}
theorem dL.ri (u : dL W g μ s ν a many) (hJ : J K W g s0 μ0 μ s) (hs : s.2.2.2 = []) (nx : aNext K s = some ((1, a, s.2.2.1, ⟨3, 0, s.2.1 + 1, 0⟩ :: s.2.2.2), none)) {ν11 : ab_m} (f : ∀ c j, ¬ (c = 109 ∧ j = 39) → ¬ ((c = 118 ∨ c = 120) ∧ j = 16 * g + μ 109 32) → ν11 c j = ν c j) (d15 : μ 109 22 = 1 → 0 ≤ μ 109 32 ∧ μ 109 32 < 15) (f0 : μ 109 22 = 0 → ∀ c j, ¬ (c = 109 ∧ j = 39) → ν11 c j = ν c j) (h39 : ν11 109 39 = 1) : rI K W g μ0 ν11 (1, a, s.2.2.1, ⟨3, 0, s.2.1 + 1, 0⟩ :: s.2.2.2) := by
  have pc : ∀ c, 129 ≤ c → c ≤ 133 → ν11 c 0 = ν c 0 := fun c z1 z2 => f c 0 (by omega) (by omega)
  obtain ⟨p1, p2, p3, p4⟩ := u.pl
  refine hJ.i.go nx (fun c j z => ?_) (fun j _ _ => Or.inl (by rw [f 121 j (by omega) (by omega)]; exact u.rs j)) (by rw [f 109 43 (by omega) (by omega), u.ft, hJ.i.ft]) ⟨h39, by rw [f 109 40 (by omega) (by omega)]; exact u.at', fun m3 => absurd (show (1 : Int) = 3 from m3) (by decide), ?_, ?_⟩
  · rcases hJ.i.p01 with p0 | p1
    · rw [f0 p0 c j (fun y => z (by unfold rdW; omega))]; exact u.fr c j z
    · have := d15 p1
      rw [f c j (fun y => z (by unfold rdW; omega)) (fun y => z (by unfold rdW; omega))]; exact u.fr c j z
  · show ν11 109 38 = ((_ :: s.2.2.2 : List aE).length : Int)
    rw [hs, f 109 38 (by omega) (by omega)]; exact u.ln
  · show aP ν11 (_ :: s.2.2.2)
    rw [hs]
    refine ⟨⟨by show ν11 129 0 = 3; rw [pc 129 (by decide) (by decide)]; exact p1, fun z => absurd z (by show ¬ (3 : Int) = 40; decide), fun z => absurd z (by show ¬ (3 : Int) = 41; decide), fun z => absurd z (by show ¬ (3 : Int) = 23; decide), fun z => absurd z (by show ¬ (3 : Int) = 24; decide), fun z => absurd z (by show ¬ (3 : Int) = 28; decide), fun _ => ?_⟩, trivial⟩
    show ν11 133 0 = s.2.1 + 1
    rw [pc 133 (by decide) (by decide)]; exact p4
set_option maxHeartbeats 1000000 in
theorem dL.fin1 (u : dL W g μ s ν a many) (hJ : J K W g s0 μ0 μ s) (p1 : μ 109 22 = 1) (O : rO K W g μ s Γ F dd Ln) (hm : s.1 = 0) (d15 : μ 109 32 ≠ 15) (nx : aNext K s = some ((1, a, s.2.2.1, ⟨3, 0, s.2.1 + 1, 0⟩ :: s.2.2.2), none)) {ν9 ν10 ν11 : ab_m} (e9 : ν9 = ab_mu ν 120 (16 * g + μ 109 32) many) (e10 : ν10 = ab_mu ν9 118 (16 * g + μ 109 32) (μ 109 21)) (e11 : ν11 = ab_mu ν10 109 39 1) : J K W g s0 μ0 ν11 (1, a, s.2.2.1, ⟨3, 0, s.2.1 + 1, 0⟩ :: s.2.2.2) ∧ aMs W (1, a, s.2.2.1, ⟨3, 0, s.2.1 + 1, 0⟩ :: s.2.2.2) < aMs W s := by
  have aq := aNext_q hJ.i.kk hJ.i.w _ _ nx
  have at0 := hJ.at'
  have W3 := hJ.i.kk.2.1
  have hs := hJ.i.w.m0 hm
  obtain ⟨o1, o2, o3, o4, o5, o6⟩ := u.one p1
  have dnb := O.nm.dn
  have nmb := O.nm.nm
  have itb := O.nm.it
  have dmb := O.nm.dm
  have ge := u.ge
  have le := u.le
  have mn := u.mn
  obtain ⟨pl1, pl2, pl3, pl4⟩ := u.pl
  have f : ∀ c j, ¬ (c = 109 ∧ j = 39) → ¬ ((c = 118 ∨ c = 120) ∧ j = 16 * g + μ 109 32) → ν11 c j = ν c j := fun c j z1 z2 => by rw [e11, ab_mud, if_neg (by omega), e10, ab_mud, if_neg (by omega), e9, ab_mud, if_neg (by omega)]
  have h39 : ν11 109 39 = 1 := by rw [e11, ab_mud, if_pos ⟨rfl, rfl⟩]
  have h120 : ν11 120 (16 * g + μ 109 32) = many := by rw [e11, ab_mud, if_neg (by omega), e10, ab_mud, if_neg (by omega), e9, ab_mud, if_pos ⟨rfl, rfl⟩]
  have h118 : ν11 118 (16 * g + μ 109 32) = μ 109 21 := by rw [e11, ab_mud, if_neg (by omega), e10, ab_mud, if_pos ⟨rfl, rfl⟩]
  have h119 : ν11 119 (16 * g + μ 109 32) = μ 109 30 := by rw [f 119 _ (by omega) (by omega)]; exact o4
  have ri := u.ri hJ hs nx f (fun _ => by omega) (fun z => by omega) h39
  have e22 : ν11 109 22 = 1 := by rw [f 109 22 (by omega) (by omega), u.fr 109 22 (by unfold rdW; omega)]; exact p1
  refine ⟨⟨ri, fun z => by omega, fun _ => ?_⟩, aq.ms⟩
  obtain ⟨F', rest', eF⟩ := O.rest.next nx
  have eF : F = F' := eF
  subst eF
  have b3 := O.b3.2 (by rw [hs]; show (0 : Int) ≠ 3; decide)
  have X0 := O.x
  rw [hs, hQ_m (by omega), sQ_m (by omega), hs, ← b3] at X0
  have X1 : x1 μ g Γ dd [] (μ 109 21) 0 [] dd (fun _ => False) (qP []) := X0.more fun k _ _ _ z => by
    obtain ⟨i, i0, i1, -⟩ := z
    simp at i1; omega
  rw [← b3] at o4 h118 h119 h120 f
  have g118 : ∀ c x, c = 118 ∨ c = 119 ∨ c = 120 → 0 ≤ x → x < dd → ν11 c (16 * g + x) = μ c (16 * g + x) := fun c x hc x0 x1 => by
    rw [f c _ (by omega) (by omega)]; exact u.nf c _ (by rw [← b3]; omega)
  have hD : ∀ y, (tEv μ g dd).2.2.2.2.1 y → (tEv ν11 g (dd + 1)).2.2.2.2.1 y := fun y ⟨i, i0, i1, i2⟩ => ⟨i, i0, by rw [f 123 g (by omega) (by omega), u.nf 123 g (by omega)]; exact i1, by rw [f 122 _ (by omega) (by omega), u.nf 122 _ (by omega)]; exact i2⟩
  have hD' : ∀ y, (tEv ν11 g (dd + 1)).2.2.2.2.1 y → (tEv μ g dd).2.2.2.2.1 y := fun y ⟨i, i0, i1, i2⟩ => ⟨i, i0, by rw [← u.nf 123 g (by omega), ← f 123 g (by omega) (by omega)]; exact i1, by rw [← u.nf 122 _ (by omega), ← f 122 _ (by omega) (by omega)]; exact i2⟩
  have am : aM ν11 0 ⟨3, 0, s.2.1 + 1, 0⟩ := by
    have := ri.r.2.2.2.2
    rw [hs] at this
    exact this.1
  have xn := X1.newDef (ν := ν11) (fun j _ _ => by rw [f 115 _ (by omega) (by omega)]; exact u.nf 115 _ (by omega)) (fun j _ _ => by rw [f 116 _ (by omega) (by omega)]; exact u.nf 116 _ (by omega)) g118 hD am rfl (by rw [f 132 0 (by omega) (by omega)]; exact pl3) (by omega) h118 (O.z0 hs) (by rw [h120, h119]; omega)
  have h21 : ν11 109 21 = μ 109 21 := by rw [f 109 21 (by omega) (by omega)]; exact u.nf 109 21 (by omega)
  have h32 : ν11 109 32 = dd := by rw [f 109 32 (by omega) (by omega), b3]; exact u.nf 109 32 (by omega)
  have h27 : ν11 109 27 = μ 109 27 + many := by rw [f 109 27 (by omega) (by omega)]; exact o2
  have h30 : ν11 109 30 = μ 109 30 + many := by rw [f 109 30 (by omega) (by omega)]; exact o3
  have h130 : ν11 130 0 = μ 109 27 := by rw [f 130 0 (by omega) (by omega)]; exact pl2
  have bu := O.bu
  have bw := O.bw
  rw [hs] at bu bw
  have hp0 : pEn ([] : List aE) = 0 := rfl
  have hd0 : pDo ([] : List aE) = 0 := rfl
  have sl : (sW Ln s.2.1.toNat : Int) ≤ sW Ln a.toNat := sW_at at0.1 (by omega)
  have cr : Γ.2.2.2.1 (μ 109 21) = dd := X1.cr
  have nb := O.nm.nb
  rw [hs] at nb
  have hp3 : aPs [(⟨3, 0, s.2.1 + 1, 0⟩ : aE)] := Or.inl ⟨Or.inr ⟨rfl, by show 0 ≤ s.2.1 + 1; omega, by show s.2.1 + 1 < 3002; omega⟩, rfl⟩
  refine ⟨Γ, F, dd + 1, Ln, ⟨?_, rest', O.tbs (fun c j z => by rw [f c j (by omega) (by omega)]; exact u.tb c j (by omega)) (by show s.2.1 ≤ a; omega), fun y b hb h2 => by rw [f 134 y (by omega) (by omega), u.tb 134 y (by omega)]; exact O.xc y b hb h2, O.tot, ?_, ?_, ?_, ⟨fun _ => by rw [h32]; exact ⟨rfl, by omega⟩, fun z => ?_⟩, fun z => ?_, fun z => absurd z (List.cons_ne_nil _ _)⟩⟩
  · rw [h21, h32, hQ_m (s := (1, a, s.2.2.1, ⟨3, 0, s.2.1 + 1, 0⟩ :: s.2.2.2)) (by show (1 : Int) ≠ 3; decide), sQ_m (s := (1, a, s.2.2.1, ⟨3, 0, s.2.1 + 1, 0⟩ :: s.2.2.2)) (by show (1 : Int) ≠ 3; decide)]
    show x1 ν11 g Γ (dd + 1) (⟨3, 0, s.2.1 + 1, 0⟩ :: s.2.2.2) (μ 109 21) (hP (⟨3, 0, s.2.1 + 1, 0⟩ :: s.2.2.2)) (sP F (⟨3, 0, s.2.1 + 1, 0⟩ :: s.2.2.2)) dd (pN ν11 g (qP (⟨3, 0, s.2.1 + 1, 0⟩ :: s.2.2.2)) ((⟨3, 0, s.2.1 + 1, 0⟩ :: s.2.2.2 : List aE).length : Int)) (qP (⟨3, 0, s.2.1 + 1, 0⟩ :: s.2.2.2))
    rw [hs, hp3.h0, hp3.qm]
    exact xn.more fun k _ _ _ z => z.elim
  · rw [h21]
    show μ 109 21 + pEn (⟨3, 0, s.2.1 + 1, 0⟩ :: s.2.2.2) ≤ 2 * a + (sW Ln a.toNat : Int)
    rw [hs, pEn_cons, if_neg (by show ¬ ((3 : Int) = 4 ∨ (3 : Int) = 5 ∨ (3 : Int) = 6 ∨ (3 : Int) = 40 ∨ (3 : Int) = 41); decide)]
    omega
  · rw [h21]
    show 2 * Γ.2.2.1 (μ 109 21) ≤ a + pDo (⟨3, 0, s.2.1 + 1, 0⟩ :: s.2.2.2) + 2 * (sW Ln a.toNat : Int)
    rw [hs, pDo_cons, if_neg (by show ¬ (3 : Int) = 7; decide), if_neg (by show ¬ (3 : Int) = 20; decide)]
    omega
  · show nmI ν11 g Γ (tEv ν11 g (dd + 1)) (⟨3, 0, s.2.1 + 1, 0⟩ :: s.2.2.2) (ν11 109 21) a
    rw [hs, h21]
    refine ⟨by rw [h27]; omega, by rw [h30]; omega, by rw [f 123 g (by omega) (by omega), u.nf 123 g (by omega)]; omega, by rw [f 109 31 (by omega) (by omega), u.nf 109 31 (by omega)]; exact O.nm.rw, by rw [h32]; omega, fun i i0 i1 => ?_, ?_, fun y hy => by rw [h30]; have := O.nm.dc y (hD' y hy); omega⟩
    · rw [h27] at i1
      rw [h30, h32]
      by_cases il : i < μ 109 27
      · rw [f 126 i (by omega) (by omega), f 127 i (by omega) (by omega), (o5 i i0 il).1, (o5 i i0 il).2]
        obtain ⟨k0, k1, k2⟩ := O.nm.nk i i0 il
        exact ⟨fun z => ⟨(k0 z).1, by have := (k0 z).2.1; omega, Or.inl (hD _ (nb i i0 il z))⟩, k1, fun z => by have := k2 z; omega⟩
      · obtain ⟨t1, t2⟩ := o6 i (by omega) i1
        rw [f 126 i (by omega) (by omega), f 127 i (by omega) (by omega), t1, t2]
        refine ⟨fun _ => ⟨by omega, by omega, Or.inr (Or.inl ⟨by rw [cr]; show dd < dd + 1; omega, ?_, ?_⟩)⟩, fun z => absurd z (by decide), fun z => absurd z (by decide)⟩
        · rw [cr]; show ν11 119 (16 * g + dd) ≤ _; rw [h119]; omega
        · rw [cr]; show _ < ν11 119 (16 * g + dd) + ν11 120 (16 * g + dd); rw [h119, h120]; omega
    · unfold nB
      rw [if_pos (by show (3 : Int) = 1 ∨ (3 : Int) = 2 ∨ (3 : Int) = 3; decide)]
      show 0 ≤ ν11 130 0 ∧ ν11 130 0 ≤ ν11 109 27 ∧ nB ν11 (tEv ν11 g (dd + 1)) [] (ν11 130 0)
      rw [h130, h27]
      refine ⟨nmb.1, by omega, fun i i0 i1 i2 => ?_⟩
      rw [f 126 i (by omega) (by omega), (o5 i i0 i1).1] at i2
      rw [f 127 i (by omega) (by omega), (o5 i i0 i1).2]
      exact hD _ (nb i i0 i1 i2)
  · exfalso; apply z; show bK (⟨3, 0, s.2.1 + 1, 0⟩ :: s.2.2.2) = 3; rw [hs]; rfl
  · exfalso
    have z : bK (⟨3, 0, s.2.1 + 1, 0⟩ :: s.2.2.2) = 1 := z
    rw [hs] at z
    have z : (3 : Int) = 1 := z
    exact absurd z (by decide)
end M67

