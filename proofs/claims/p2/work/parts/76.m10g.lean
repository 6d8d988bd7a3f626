/-! THE REFERENCE, part 69: readDecl, goOver -/
section M69
variable {X : jm_X} {d : Nat} {P : Int → ab_m → Prop} {K : Int → Int} {W g : Int} {s0 : aS} {μ0 μ ν ν' : ab_m} {s s' : aS} {Γ Γ' : tQ} {F F' : Int → List Int} {dd : Int} {Ln : Int → Nat} {G : Int → List Int}
set_option maxHeartbeats 1000000 in
/-- the program begins -/
theorem c_rd_begin (hJ : J K W g s0 μ0 μ s) (hm : s.1 = 0) (hk : K s.2.1 ≠ 11 ∧ K s.2.1 ≠ 15 ∧ K s.2.1 ≠ 20) (hN : ∀ ν' s', J K W g s0 μ0 ν' s' ∧ aMs W s' < aMs W s → P 0 ν') : jj_mM_push X d 0 (ab_la [109, 1, 0, 0]) [] μ (fun r11 μ10 => jj_mM_beginBlock X d 0 (ab_la [109]) [] μ10 (fun r14 μ13 => (μ13 109 22 ≠ 1 → ∀ μ16, μ16 = ab_mu μ13 109 39 1 → P 0 μ16) ∧ (μ13 109 22 = 1 → ((0 : Int) ≤ μ13 109 20 ∧ (μ13 109 20 : Int) < 2) ∧ ∀ μ18, μ18 = ab_mu μ13 124 (μ13 109 20) (μ13 109 21) → ∀ μ19, μ19 = ab_mu μ18 109 39 1 → P 0 μ19))) := by
  obtain ⟨Γ, F, dd, Ln, G, hO, hZ⟩ := hJ.get
  have at0 := hJ.at'
  have g01 := hJ.i.g01
  have hs := hJ.i.w.m0 hm
  obtain ⟨r1, r2, -, r4, r5⟩ := hJ.i.r
  have l0 : μ 109 38 = 0 := by rw [r4, hs]; rfl
  have nx : aNext K s = some ((1, s.2.1, s.2.2.1, ⟨1, 0, 0, 0⟩ :: s.2.2.2), none) := by simp [aNext, aDecl, hm, hk]
  have aq := aNext_q hJ.i.kk hJ.i.w _ _ nx
  refine c_mM_push (by rw [l0]; decide) fun ν5 m5 => ?_
  obtain ⟨c1, c2, c3, c4, c5, c6, c7⟩ := m5
  rw [l0] at c1 c2 c3 c4 c5 c6 c7
  refine c_rd_beginBlock (L := 0) c2 (by decide) fun ν9 f9 e9 => ?_
  have f : ∀ c j, ¬ (129 ≤ c ∧ c ≤ 133 ∧ j = 0) → ¬ (c = 109 ∧ (j = 28 ∨ j = 29 ∨ j = 38)) → ν9 c j = μ c j := fun c j z1 z2 => by
    rw [f9 c j (by omega) (by omega)]; exact c1 c j (by omega) (by omega)
  have h38 : ν9 109 38 = 1 := by rw [f9 109 38 (by omega) (by omega)]; exact c2
  have h129 : ν9 129 0 = 1 := by rw [f9 129 0 (by omega) (by omega)]; exact c3
  have h130 : ν9 130 0 = μ 109 27 := by rw [e9, c1 109 27 (by omega) (by omega)]
  have ri : ∀ ν, (∀ c j, ¬ (c = 109 ∧ j = 39) → ¬ (c = 124 ∧ j = g) → ν c j = ν9 c j) → ν 109 39 = 1 → rI K W g μ0 ν (1, s.2.1, s.2.2.1, ⟨1, 0, 0, 0⟩ :: s.2.2.2) := fun ν fn h39 => by
    refine hJ.i.go nx (fun c j z => ?_) (fun j _ _ => Or.inl (by rw [fn 121 j (by omega) (by omega)]; exact f 121 j (by omega) (by omega))) (by rw [fn 109 43 (by omega) (by omega)]; exact f 109 43 (by omega) (by omega)) ⟨h39, by rw [fn 109 40 (by omega) (by omega), f 109 40 (by omega) (by omega)]; exact r2, fun m3 => absurd (show (1 : Int) = 3 from m3) (by decide), ?_, ?_⟩
    · rw [fn c j (fun y => z (by unfold rdW; omega)) (fun y => z (by unfold rdW; omega)), f c j (fun y => z (by unfold rdW; omega)) (fun y => z (by unfold rdW; omega))]
    · show ν 109 38 = ((_ :: s.2.2.2 : List aE).length : Int)
      rw [hs, fn 109 38 (by omega) (by omega)]; exact h38
    · show aP ν (_ :: s.2.2.2)
      rw [hs]
      exact ⟨aM_n (by show ν 129 0 = 1; rw [fn 129 0 (by omega) (by omega)]; exact h129) (by decide), trivial⟩
  have e22 : ν9 109 22 = μ 109 22 := f 109 22 (by omega) (by omega)
  refine ⟨fun n1 ν e => ?_, fun y1 => ?_⟩
  · have p0 : μ 109 22 = 0 := by have := hJ.i.p01; omega
    have fn : ∀ c j, ¬ (c = 109 ∧ j = 39) → ν c j = ν9 c j := fun c j z => by rw [e, ab_mud, if_neg z]
    exact hN _ _ ⟨⟨ri ν (fun c j z _ => fn c j z) (by rw [e, ab_mud, if_pos ⟨rfl, rfl⟩]), fun _ => ⟨G, (hZ p0).go hJ.i nx fun c j z => by rw [fn c j (by omega)]; exact f c j (by omega) (by omega)⟩, fun z => by rw [fn 109 22 (by omega)] at z; omega⟩, aq.ms⟩
  · have p1 : μ 109 22 = 1 := by omega
    have O := hO p1
    have q20 : ν9 109 20 = g := by rw [f 109 20 (by omega) (by omega)]; exact hJ.i.hf
    have q21 : ν9 109 21 = μ 109 21 := f 109 21 (by omega) (by omega)
    rw [q20, q21]
    refine ⟨by omega, fun ν18 e18 ν e => ?_⟩
    have fn : ∀ c j, ¬ (c = 109 ∧ j = 39) → ¬ (c = 124 ∧ j = g) → ν c j = ν9 c j := fun c j z1 z2 => by rw [e, ab_mud, if_neg z1, e18, ab_mud, if_neg z2]
    have fm : ∀ c j, ¬ (129 ≤ c ∧ c ≤ 133 ∧ j = 0) → ¬ (c = 109 ∧ (j = 28 ∨ j = 29 ∨ j = 38 ∨ j = 39)) → ¬ (c = 124 ∧ j = g) → ν c j = μ c j := fun c j z1 z2 z3 => by rw [fn c j (by omega) z3]; exact f c j z1 (by omega)
    have h124 : ν 124 g = μ 109 21 := by rw [e, ab_mud, if_neg (by omega), e18, ab_mud, if_pos ⟨rfl, rfl⟩]
    have rr := ri ν fn (by rw [e, ab_mud, if_pos ⟨rfl, rfl⟩])
    refine hN _ _ ⟨⟨rr, fun z => by rw [fm 109 22 (by omega) (by omega) (by omega)] at z; omega, fun _ => ?_⟩, aq.ms⟩
    obtain ⟨F', rest', eF⟩ := O.rest.next nx
    have eF : F = F' := eF
    subst eF
    have b3 := O.b3.2 (by rw [hs]; show (0 : Int) ≠ 3; decide)
    have X0 := O.x
    rw [hs, hQ_m (by omega), sQ_m (by omega), hs] at X0
    have h21 : ν 109 21 = μ 109 21 := fm 109 21 (by omega) (by omega) (by omega)
    have h32 : ν 109 32 = μ 109 32 := fm 109 32 (by omega) (by omega) (by omega)
    have am : aM ν 0 ⟨1, 0, 0, 0⟩ := by
      have := rr.r.2.2.2.2
      rw [hs] at this
      exact this.1
    have xn := X0.put (μ' := ν) (e := ⟨1, 0, 0, 0⟩) ⟨fun j _ _ => fm 115 _ (by omega) (by omega) (by omega), fun j _ _ => fm 116 _ (by omega) (by omega) (by omega), fun c j _ => fm c j (by omega) (by omega) (by omega), fun c j _ _ _ z => by simp at z; omega⟩ am (eF_n (by decide)) (fun z => absurd z (by decide)) (fun z => absurd z (by decide)) (fun z => absurd z (by decide))
    have hp1 : aPs [(⟨1, 0, 0, 0⟩ : aE)] := Or.inl ⟨Or.inl rfl, rfl⟩
    have bu := O.bu
    have bw := O.bw
    rw [hs] at bu bw
    have nb := O.nm.nb
    rw [hs] at nb
    have G0 : ∀ j, 0 ≤ j → j ≤ μ 109 21 → tQe Γ Γ j := fun _ _ _ => ⟨rfl, rfl, rfl, rfl, rfl⟩
    have sx : xS μ ν g (μ 109 21) 0 := ⟨fun j _ _ => fm 115 _ (by omega) (by omega) (by omega), fun j _ _ => fm 116 _ (by omega) (by omega) (by omega), fun c j _ => fm c j (by omega) (by omega) (by omega), fun c j _ _ _ z => by omega⟩
    have n0 := O.x.n0
    refine ⟨Γ, F, dd, Ln, ⟨?_, rest', O.tbs (fun c j z => fm c j (by omega) (by omega) (by omega)) (Int.le_refl _), fun y b hb h2 => by rw [fm 134 y (by omega) (by omega) (by omega)]; exact O.xc y b hb h2, O.tot, ?_, ?_, ?_, ⟨fun z => ?_, fun _ => by rw [h32]; exact b3⟩, fun _ => ?_, fun z => absurd z (List.cons_ne_nil _ _)⟩⟩
    · rw [h21, h32, hQ_m (s := (1, s.2.1, s.2.2.1, ⟨1, 0, 0, 0⟩ :: s.2.2.2)) (by show (1 : Int) ≠ 3; decide), sQ_m (s := (1, s.2.1, s.2.2.1, ⟨1, 0, 0, 0⟩ :: s.2.2.2)) (by show (1 : Int) ≠ 3; decide)]
      show x1 ν g Γ dd (⟨1, 0, 0, 0⟩ :: s.2.2.2) (μ 109 21) (hP (⟨1, 0, 0, 0⟩ :: s.2.2.2)) (sP F (⟨1, 0, 0, 0⟩ :: s.2.2.2)) (μ 109 32) (pN ν g (qP (⟨1, 0, 0, 0⟩ :: s.2.2.2)) ((⟨1, 0, 0, 0⟩ :: s.2.2.2 : List aE).length : Int)) (qP (⟨1, 0, 0, 0⟩ :: s.2.2.2))
      rw [hs]
      refine xn.more fun k _ _ _ z => ?_
      obtain ⟨i, i0, i1, -⟩ := z
      simp at i1; omega
    · rw [h21]
      show μ 109 21 + pEn (⟨1, 0, 0, 0⟩ :: s.2.2.2) ≤ 2 * s.2.1 + (sW Ln s.2.1.toNat : Int)
      rw [hs, pEn_cons, if_neg (by decide)]; omega
    · rw [h21]
      show 2 * Γ.2.2.1 (μ 109 21) ≤ s.2.1 + pDo (⟨1, 0, 0, 0⟩ :: s.2.2.2) + 2 * (sW Ln s.2.1.toNat : Int)
      rw [hs, pDo_cons, if_neg (by decide), if_neg (by decide)]; omega
    · show nmI ν g Γ (tEv ν g dd) (⟨1, 0, 0, 0⟩ :: s.2.2.2) (ν 109 21) s.2.1
      rw [hs, h21]
      refine nmI.same O.nm (sx.x G0) n0 (Int.le_refl _) rfl (O.x.tr n0 (Int.le_refl _)).r0 (fun c j z => fm c j (by omega) (by omega) (by omega)) ?_ ?_ (Int.le_refl _) ?_
      · rw [fm 109 27 (by omega) (by omega) (by omega)]; have := O.nm.nm; omega
      · exact dD (fm 123 g (by omega) (by omega) (by omega)).symm fun j => (fm 122 j (by omega) (by omega) (by omega)).symm
      · unfold nB
        rw [if_pos (by decide)]
        show 0 ≤ ν 130 0 ∧ ν 130 0 ≤ ν 109 27 ∧ nB ν (tEv ν g dd) [] (ν 130 0)
        rw [fn 130 0 (by omega) (by omega), h130, fm 109 27 (by omega) (by omega) (by omega)]
        exact ⟨O.nm.nm.1, Int.le_refl _, nb.same (dD (fm 123 g (by omega) (by omega) (by omega)) fun j => fm 122 j (by omega) (by omega) (by omega)) (fun i => ⟨fm 126 i (by omega) (by omega) (by omega), fm 127 i (by omega) (by omega) (by omega)⟩) fun i _ z => by simp at z; omega⟩
    · have z : bK (⟨1, 0, 0, 0⟩ :: s.2.2.2) = 3 := z
      rw [hs] at z
      exact absurd (show (1 : Int) = 3 from z) (by decide)
    · rw [h124, h21, h32]
      exact ⟨n0, Int.le_refl _, O.x.cr, by rw [O.x.ch, hQ_m (by omega), hs]; rfl, by rw [O.x.cs, sQ_m (by omega), hs]; rfl, O.z0 hs⟩
theorem c_rd_readDecl (hJ : J K W g s0 μ0 μ s) (hm : s.1 = 0) (hF : ∀ ν', rFt g μ0 ν' → P 0 ν') (hN : ∀ ν' s', J K W g s0 μ0 ν' s' ∧ aMs W s' < aMs W s → P 0 ν') : jj_mM_readDecl X (d + 5) 0 (ab_la [109]) [] μ P := by
  obtain ⟨Γ, F, dd, Ln, G, hO, hZ⟩ := hJ.get
  have at0 := hJ.at'
  refine bk_mM_readDecl_0 rfl ?_
  rw [hJ.i.r.2.1, hJ.i.K]
  exact ⟨by omega, ⟨fun z => c_rd_readDef (P := fun _ μ => P 0 μ) hJ hm z hF hN, fun z => c_rd_readInts (P := fun _ μ => P 0 μ) hJ hO hZ (fun _ _ _ => rfl) z (Or.inl ⟨hm, rfl⟩) hF hN, fun z => c_rd_readRow (P := fun _ μ => P 0 μ) hJ hm z hF hN, trivial⟩, fun z => c_rd_begin hJ hm ⟨z.1, z.2.1, z.2.2.1⟩ hN⟩
/-- one pass over the words -/
theorem c_rd_go : ∀ (n : Nat) {l : ab_l} {μ : ab_m} {s : aS}, (aMs W s).toNat = n → l 0 = 109 → J K W g s0 μ0 μ s → (∀ ν', rFt g μ0 ν' → P 0 ν') → (∀ ν', rEd K W g s0 μ0 ν' → P 0 ν') → jj_mM_goOver X (d + 7) 70 l [] μ P := by
  intro n
  induction n using Nat.strongRecOn with
  | ind n ih =>
    intro l μ s hn l0 hJ hF hE
    have md := hJ.i.w.md
    have m1 : μ 109 39 = s.1 := hJ.i.r.1
    have at0 := hJ.at'
    have ms0 : 0 < aMs W s := by
      unfold aMs
      split
      · omega
      · split <;> omega
    have hF' : ∀ ν', rFt g μ0 ν' → jj_mM_goOver X (d + 7) 70 l [] ν' P := fun ν' f => bk_mM_goOver_70 l0 ⟨fun _ => hF _ f, fun z => absurd f.m5 z⟩
    have hE' : ∀ ν', rEd K W g s0 μ0 ν' → jj_mM_goOver X (d + 7) 70 l [] ν' P := fun ν' f => bk_mM_goOver_70 l0 ⟨fun _ => hE _ f, fun z => absurd f.m5 z⟩
    have hN : ∀ ν' s', J K W g s0 μ0 ν' s' ∧ aMs W s' < aMs W s → jj_mM_goOver X (d + 7) 70 l [] ν' P := fun ν' s' ⟨J', lt⟩ => ih _ (by omega) rfl l0 J' hF hE
    refine bk_mM_goOver_70 l0 ?_
    rw [m1]
    exact ⟨fun z => by omega, fun _ => ⟨⟨fun z => c_rd_readDecl (P := fun _ μ => jj_mM_goOver X (d + 7) 70 l [] μ P) hJ z hF' hN, fun z => c_rd_readStatement (P := fun _ μ => jj_mM_goOver X (d + 7) 70 l [] μ P) hJ z hF' hE' hN, fun z => c_rd_readOperand (P := fun _ μ => jj_mM_goOver X (d + 7) 70 l [] μ P) hJ z hF' hN, fun z => c_rd_readBehind (P := fun _ μ => jj_mM_goOver X (d + 7) 70 l [] μ P) hJ z hF' hN, trivial⟩, fun z => c_rd_statementDone (P := fun _ μ => jj_mM_goOver X (d + 7) 70 l [] μ P) hJ (by omega) hF' hN⟩⟩
end M69

