/-! THE REFERENCE, part 45: readLeave -/
section M45
variable {X : jm_X} {d : Nat} {P : Int → ab_m → Prop} {K : Int → Int} {W g : Int} {s0 : aS} {μ0 μ ν ν' : ab_m} {s s' : aS} {Γ Γ' : tQ} {F : Int → List Int} {dd : Int} {Ln : Int → Nat} {G : Int → List Int} {a m o : Int} {p : List aE} {kp k wv hh : Int} {ss : List Int} {ex : Int → Prop} {q : Int}
theorem aPs.no21 {i : Int} : ∀ {p : List aE}, aPs p → aP μ p → 0 ≤ i → i < (p.length : Int) → 1 ≤ μ 129 i ∧ μ 129 i ≤ 7
  | [], h, _, _, _ => h.elim
  | e :: r, h, ha, a, b => by
    have l : ((e :: r).length : Int) = r.length + 1 := by simp
    have ke := h.k e (List.mem_cons_self ..)
    by_cases e1 : i = r.length
    · subst e1; rw [ha.1.1]; exact ke
    · have hr : aPs r := by
        rcases h with ⟨-, h⟩ | ⟨-, h⟩
        · exfalso; rw [h] at b e1; simp at b e1; omega
        · exact h
      exact hr.no21 ha.2 a (by omega)
set_option maxHeartbeats 1000000 in
theorem c_rd_readLeave {kd : Int} (hJ : J K W g s0 μ0 μ s) (hm : s.1 = 1) (hk : K s.2.1 = kd) (h14 : kd = 10 ∨ kd = 16) (hF : ∀ ν', rFt g μ0 ν' → P 0 ν') (hN : ∀ ν' s', J K W g s0 μ0 ν' s' ∧ aMs W s' < aMs W s → P 0 ν') : jj_mM_readLeave X (d + 3) 0 (ab_la [109, kd]) [] μ P := by
  obtain ⟨Γ, F, dd, Ln, G, hO, hZ⟩ := hJ.get
  have at0 := hJ.at'
  have room := hJ.room hO
  have len := hJ.len
  have v0 := hJ.v0 hO
  have a0 : 0 ≤ s.2.1 ∧ s.2.1 < 3002 := by omega
  have hp := hJ.i.w.m1 (Or.inl hm)
  have hq0 : hQ s = 0 := by unfold hQ; rw [hp.h0, if_neg (by omega)]; rfl
  have sq0 : sQ F s = sP F s.2.2.2 := by unfold sQ; rw [if_neg (by omega)]
  have l1 : s.2.1 + 1 ≤ W := by rcases h14 with e | e <;> rw [e] at hk <;> exact aK_lt hJ.i.kk at0.1 at0.2.2 hk (by decide)
  have W3 := hJ.i.kk.2.1
  have a1 : 0 ≤ s.2.1 + 1 ∧ s.2.1 + 1 < 3002 := by omega
  have s27 : ∀ l i, l 0 = 109 → l 1 = kd → l 2 = i → (μ 109 22 = 1 → 0 ≤ i ∧ i < (s.2.2.2.length : Int) ∧ (μ 129 i = 6 ∨ μ 129 i = 7) ∧ ∀ j, i < j → j < (s.2.2.2.length : Int) → μ 129 j ≠ 6 ∧ μ 129 j ≠ 7) → jj_mM_readLeave X (d + 3) 27 l [] μ P := by
    intro l i l0 l1' l2 hl
    refine bk_mM_readLeave_27 l0 ?_
    simp only [l1', l2]
    refine c_V_begun hJ.i v0 (fun w => by have := room w; omega) (by decide) fun ν1 v1 f1 _ ν4 e4 => ?_
    have v4 := v1.fa1 a0 e4
    have p4 : ∀ c j, 129 ≤ c → c ≤ 133 → ν4 c j = μ c j := fun c j z1 z2 => by rw [e4, ab_mud, if_neg (by omega)]; exact f1 c j (by omega) (by omega) (by omega) (by omega)
    refine bk_mM_take_0 rfl ⟨by rw [v4.at']; exact a1, fun e ν5 e5 => ?_, fun _ => c_V_misfit hJ.i v4 a1 fun ν' f => ⟨fun w => absurd rfl w, fun _ => hF ν' f⟩⟩
    have k59 : K (s.2.1 + 1) = 59 := by
      have e : ν4 111 (ν4 109 40) = 59 := e
      rw [v4.at', v4.Kk hJ.i] at e; exact e
    have v5 := v4.fa1 a1 e5
    have p5 : ∀ c j, 129 ≤ c → c ≤ 133 → ν5 c j = μ c j := fun c j z1 z2 => by rw [e5, ab_mud, if_neg (by omega)]; exact p4 c j z1 z2
    refine ⟨fun _ ν8 e8 => ?_, fun w => absurd w (by decide)⟩
    have v8 := v5.fm e8
    have p8 : ∀ c j, 129 ≤ c → c ≤ 133 → ν8 c j = μ c j := fun c j z1 z2 => by rw [e8, ab_mud, if_neg (by omega)]; exact p5 c j z1 z2
    have nx : aNext K s = some ((4, s.2.1 + 1 + 1, s.2.2.1, s.2.2.2), none) := by
      have ht : ∀ b : Int, aTop s.2.2.2 = b → True := fun _ _ => trivial
      rw [show s.2.1 + 1 + 1 = s.2.1 + 2 by omega]
      rcases h14 with e | e <;> rw [e] at hk <;> simp [aNext, aStat, hm, hk, k59]
    rw [v8.ps]
    refine ⟨fun n0 => ?_, fun z0 => hN _ _ (V.toS v8 hJ hO hZ hm (Or.inr rfl) nx (by decide) (by omega) (by omega) (by omega))⟩
    have w : μ 109 22 = 1 := by have := hJ.i.p01; omega
    obtain ⟨i0, i1, i2, i3⟩ := hl w
    have O := hO w
    have rm := room w
    have i0' : (0 : Int) ≤ i ∧ i < 3010 := by omega
    have lk := hp.loop (F := F) v0.ap i0 i1 i2
    have l6 := hp.n6 (F := F)
    rw [← sq0] at lk l6
    have mvk : ∀ kd' t, kd' = 24 ∨ kd' = 25 → tMv kd' (tAr (tEv ν8 g dd) kd' t) (hQ s) (sQ F s) = some (hQ s, sQ F s) := fun kd' t z => by
      rcases z with z | z <;> rw [z]
      · show (if (4 ∈ sQ F s ∨ 5 ∈ sQ F s) ∧ ¬ 6 ∈ sQ F s then some (hQ s, sQ F s) else none) = _
        rw [if_pos ⟨lk, l6⟩]
      · show (if (4 ∈ sQ F s ∨ 5 ∈ sQ F s) ∧ ¬ 6 ∈ sQ F s then some (hQ s, sQ F s) else none) = _
        rw [if_pos ⟨lk, l6⟩]
    obtain ⟨e, r, er, ek, ef⟩ := O.x.ent.at' v0.ap i0 i1
    have lt : μ 130 i < μ 109 21 := by
      rcases i2 with z | z
      · exact (ef.f6 (Or.inl (by rw [ek]; exact z))).2.1
      · exact (ef.f7 (by rw [ek]; exact z)).1.2.1
    refine ⟨fun n10 => ⟨i0', fun n6 => ⟨i0', ?_⟩, fun y6 => ⟨i0', ?_⟩⟩, fun y10 => ⟨i0', ?_⟩⟩
    · -- NEXT in a DO
      rw [p8 129 i (by decide) (by decide)] at n6
      refine c_V_step hJ.i v8 (fun w => by omega) (by decide) (by decide) (fun _ => mvk 25 _ (Or.inr rfl)) (fun _ _ _ _ => tVk_n (by decide)) fun ν9 r v9 f9 e9 => ⟨i0', fun ν12 e12 => ?_⟩
      obtain ⟨r1, r2, r3, r4⟩ := e9 w
      have p9 : ∀ c j, 129 ≤ c → c ≤ 133 → ν9 c j = μ c j := fun c j z1 z2 => by rw [f9 c j (by omega) (by omega) (by omega) (by omega)]; exact p8 c j z1 z2
      have v9' := v9.more (ex' := fun j => False ∨ j = μ 109 21 + (0 + 1)) fun _ _ _ _ j _ _ z => Or.inl (z.elim (fun z => z.elim) fun z => Or.inr z.2)
      have v12 := v9'.link (ν' := ν12) (c := 133) (i := i) (ex := fun _ => False) (by omega) (fun b j z => by rw [e12, ab_mud, if_neg z]) (by rw [e12, ab_mud, if_pos ⟨rfl, rfl⟩]; exact r1) ⟨i0, i1⟩ w (by rw [r4, p8 133 i (by decide) (by decide), p9 133 i (by decide) (by decide)]) (Or.inr (Or.inl ⟨rfl, by rw [p9 129 i (by decide) (by decide)]; omega, r3, by rw [hp.qm]; omega⟩)) hq0 (fun _ => ⟨by rw [p9 130 i (by decide) (by decide)]; omega, fun j j0 j1 => by
        rw [p9 129 j (by decide) (by decide)]
        have := i3 j j0 j1
        have := hp.no21 v0.ap (show 0 ≤ j by omega) j1
        omega⟩)
      exact hN _ _ (V.toS v12 hJ hO hZ hm (Or.inr rfl) nx (by decide) (by omega) (by omega) (by rw [show tPu 25 = 0 from rfl]; omega))
    · -- NEXT in a WHILE
      rw [p8 129 i (by decide) (by decide)] at y6
      refine c_V_step hJ.i v8 (fun w => by omega) (by decide) (by decide) (fun _ => mvk 25 _ (Or.inr rfl)) (fun _ _ _ _ => tVk_n (by decide)) fun ν9 r v9 f9 e9 => ?_
      obtain ⟨r1, r2, r3, r4⟩ := e9 w
      rw [p8 130 i (by decide) (by decide)] at r4
      have v9' := v9.more (ex' := fun _ => False) fun _ Γ' x Gk j _ _ z => Or.inr (by
        have z : j = μ 109 21 + (0 + 1) := z.elim (fun z => z.elim) fun z => z.2
        subst z
        have f6 := ef.f6 (Or.inl (by rw [ek]; exact y6))
        obtain ⟨t1, t2, t3, t4, t5⟩ := f6
        have la := x1.last (n := μ 109 21 + (0 + 1)) (by rw [show μ 109 21 + (0 + 1) + 1 = μ 109 21 + (0 + 1 + 1) by omega]; exact x) (by omega) r3 (by decide)
        have gA := Gk _ t1 (by omega)
        have gn := Gk (μ 109 21) (by omega) (by omega)
        have h0 : Γ'.1 (μ 109 21 + (0 + 1)) = 0 := by
          have l1 : (if (4 ∈ Γ'.2.1 (μ 109 21 + (0 + 1)) ∨ 5 ∈ Γ'.2.1 (μ 109 21 + (0 + 1))) ∧ ¬ 6 ∈ Γ'.2.1 (μ 109 21 + (0 + 1)) then some (Γ'.1 (μ 109 21 + (0 + 1)), Γ'.2.1 (μ 109 21 + (0 + 1))) else none) = some (hQ s, sQ F s) := la.1
          split at l1
          · injection l1 with l1; injection l1 with l1 l2; omega
          · cases l1
        unfold tJ tJt
        rw [show (tEv ν9 g dd).1 (μ 109 21 + (0 + 1)) = 25 from r3, show (tEv ν9 g dd).2.1 (μ 109 21 + (0 + 1)) = μ 130 i from r4]
        refine ⟨t1, by omega, ?_, ?_, Or.inl ⟨by omega, ?_⟩⟩
        · rw [gA.2.2.2.1, t5, O.x.cr, la.2, show μ 109 21 + (0 + 1) + 1 = μ 109 21 + (0 + 1 + 1) by omega, x.cr]
        · rw [gA.1, t4, h0]; rfl
        · show ν9 115 _ = 18
          rw [(v9.tx _ t1 t2).1]; exact t3)
      exact hN _ _ (V.toS v9' hJ hO hZ hm (Or.inr rfl) nx (by decide) (by omega) (by omega) (by rw [show tPu 25 = 0 from rfl]; omega))
    · -- BREAK
      refine c_V_step hJ.i v8 (fun w => by omega) (by decide) (by decide) (fun _ => mvk 24 _ (Or.inl rfl)) (fun _ _ _ _ => tVk_n (by decide)) fun ν9 r v9 f9 e9 => ⟨i0', fun ν12 e12 => ?_⟩
      obtain ⟨r1, r2, r3, r4⟩ := e9 w
      have p9 : ∀ c j, 129 ≤ c → c ≤ 133 → ν9 c j = μ c j := fun c j z1 z2 => by rw [f9 c j (by omega) (by omega) (by omega) (by omega)]; exact p8 c j z1 z2
      have v9' := v9.more (ex' := fun j => False ∨ j = μ 109 21 + (0 + 1)) fun _ _ _ _ j _ _ z => Or.inl (z.elim (fun z => z.elim) fun z => Or.inr z.2)
      have v12 := v9'.link (ν' := ν12) (c := 132) (i := i) (ex := fun _ => False) (by omega) (fun b j z => by rw [e12, ab_mud, if_neg z]) (by rw [e12, ab_mud, if_pos ⟨rfl, rfl⟩]; exact r1) ⟨i0, i1⟩ w (by rw [r4, p8 132 i (by decide) (by decide), p9 132 i (by decide) (by decide)]) (Or.inl ⟨rfl, by rw [p9 129 i (by decide) (by decide)]; omega, r3⟩) hq0 (fun _ => ⟨by rw [p9 130 i (by decide) (by decide)]; omega, fun j j0 j1 => by
        rw [p9 129 j (by decide) (by decide)]
        have := i3 j j0 j1
        have := hp.no21 v0.ap (show 0 ≤ j by omega) j1
        omega⟩)
      exact hN _ _ (V.toS v12 hJ hO hZ hm (Or.inr rfl) nx (by decide) (by omega) (by omega) (by rw [show tPu 24 = 0 from rfl]; omega))
  refine bk_mM_readLeave_0 rfl (c_mM_loop (by rw [v0.ln]; omega) fun i i0 i1 i2 i3 => ⟨fun n1 => s27 _ i rfl rfl rfl fun w => absurd w n1, fun w1 => ⟨fun i4 => s27 _ i rfl rfl rfl fun _ => ⟨i4, by rw [← v0.ln]; exact i1, i2 i4, fun j j0 j1 => i3 j j0 (by rw [v0.ln]; exact j1)⟩, fun _ => c_V_fail hJ.i v0 (by decide) (by rw [v0.at']; omega) hF⟩⟩)
end M45

/-! THE REFERENCE, part 46: readInts -/
section M46
variable {X : jm_X} {d : Nat} {P : Int → ab_m → Prop} {K : Int → Int} {W g : Int} {s0 : aS} {μ0 μ ν ν' : ab_m} {s s' : aS} {Γ Γ' : tQ} {F : Int → List Int} {dd : Int} {Ln : Int → Nat} {G : Int → List Int} {a m o : Int} {p : List aE} {kp k wv hh n dn : Int} {ss : List Int} {ex pd : Int → Prop} {q : Int}
/-- the same by other cells; more ints may be declared -/
theorem x1.grow (h : x1 μ g Γ dd p n hh ss dn pd q) (fS : ∀ j, 0 ≤ j → j < n → ν 115 (9000 * g + j) = μ 115 (9000 * g + j)) (fT : ∀ j, 0 ≤ j → j < n → ν 116 (9000 * g + j) = μ 116 (9000 * g + j)) (fd : ∀ c j, c = 118 ∨ c = 119 ∨ c = 120 ∨ c = 134 → ν c j = μ c j) (fp : ∀ c j, 129 ≤ c → c ≤ 133 → ν c j = μ c j) (hD : ∀ x, (tEv μ g dd).2.2.2.2.1 x → (tEv ν g dd).2.2.2.2.1 x) : x1 ν g Γ dd p n hh ss dn pd q := by
  have G : ∀ j, 0 ≤ j → j ≤ n → tQe Γ Γ j := fun _ _ _ => ⟨rfl, rfl, rfl, rfl, rfl⟩
  have x : tX (tEv μ g dd) (tEv ν g dd) Γ Γ n := ⟨fS, fun j a b _ => fT j a b, G, Int.le_refl _, fun y _ _ => ⟨fd 120 _ (by omega), fd 119 _ (by omega)⟩, hD⟩
  have r0 := (h.tr h.n0 (Int.le_refl _)).r0
  refine ⟨h.n0, fun k a b => ?_, h.ch, h.cs, h.cr, h.base, fun k a b => by rw [fS k a b]; exact h.ns k a b, h.ap.same fun c i a b c' d => fp c i a b, eP.same x h.n0 (Int.le_refl _) rfl r0 h.ent (fun i a b => ⟨fp 130 i (by decide) (by decide), fp 131 i (by decide) (by decide), fun _ => fp 132 i (by decide) (by decide)⟩) (fun w => fd 134 w (by omega)) h.ap, h.chn.same x.S G (Int.le_refl _) rfl (fun j a b _ => fT j a b) fun i a b => ⟨fp 129 i (by decide) (by decide), fp 130 i (by decide) (by decide), fp 132 i (by decide) (by decide), fp 133 i (by decide) (by decide)⟩, fun x a b => ?_, h.ddn⟩
  · obtain ⟨h1, h2⟩ := h.flat k a b
    refine ⟨x.k ⟨a, b⟩ (h.tr a (by omega)).r0 h1, fun go => ?_⟩
    have eS : (tEv ν g dd).1 k = (tEv μ g dd).1 k := fS k a b
    rw [eS] at go
    rcases h2 go with h3 | h3
    · exact Or.inl h3
    · refine Or.inr ?_
      unfold tJ
      rw [eS, show (tEv ν g dd).2.1 k = (tEv μ g dd).2.1 k from fT k a b]
      exact x.jt (Int.le_refl _) ⟨a, b⟩ h3
  · rw [fd 118 _ (by omega), fd 119 _ (by omega), fd 120 _ (by omega)]; exact h.defs x a b
theorem rO.fin' (h : rO K W g μ s Γ F dd Ln) (hi : rI K W g μ0 μ s) (e : aNext K s = some (s', none)) (x' : x1 ν g Γ' dd s'.2.2.2 (ν 109 21) (hQ s') (sQ F s') (ν 109 32) (pN ν g (qP s'.2.2.2) s'.2.2.2.length) (qP s'.2.2.2)) (ft : ∀ c j, c = 134 ∨ c = 135 ∨ c = 136 ∨ c = 137 → ν c j = μ c j) (bu : ν 109 21 + pEn s'.2.2.2 ≤ 2 * s'.2.1 + sW Ln s'.2.1.toNat) (bw : 2 * Γ'.2.2.1 (ν 109 21) ≤ s'.2.1 + pDo s'.2.2.2 + 2 * sW Ln s'.2.1.toNat) (nm : nmI ν g Γ' (tEv ν g dd) s'.2.2.2 (ν 109 21) s'.2.1) (f : ν 109 32 = μ 109 32 ∧ ν 124 g = μ 124 g) (bk : bK s'.2.2.2 = bK s.2.2.2) (Gk : ∀ j, 0 ≤ j → j ≤ μ 109 21 → tQe Γ Γ' j) (hn : μ 109 21 ≤ ν 109 21) (z0 : s'.2.2.2 = [] → Γ'.2.2.2.2 (ν 109 21) = ν 109 21) : rO K W g ν s' Γ' F dd Ln := by
  obtain ⟨F', r', eF⟩ := h.rest.next e
  have eF : F = F' := eF
  subst eF
  refine ⟨x', r', h.tbs ft (aNext_q hi.kk hi.w _ _ e).le, fun w b hb h2 => by rw [ft 134 w (by omega)]; exact h.xc w b hb h2, h.tot, bu, bw, nm, by rw [bk, f.1]; exact h.b3, fun q => ?_, z0⟩
  rw [bk] at q
  obtain ⟨b1, b2, b3, b4, b5, b6⟩ := h.b1 q
  obtain ⟨g1, g2, g3, g4, g5⟩ := Gk _ b1 b2
  rw [f.1, f.2]
  exact ⟨b1, by omega, by rw [g4]; exact b3, by rw [g1]; exact b4, by rw [g2]; exact b5, by rw [g5]; exact b6⟩
end M46
/-- names are being read: word a -/
def U (W g : Int) (μ : ab_m) (s : aS) (Γ : tQ) (F : Int → List Int) (dd : Int) (ν : ab_m) (a : Int) : Prop := (fRd g μ ν) ∧ (ν 109 40 = a) ∧ (s.2.1 < a) ∧ (a ≤ W) ∧ (ν 109 39 = s.1) ∧ (ν 109 38 = s.2.2.2.length) ∧ (ν 109 43 = 0) ∧ (∀ c j, c = 134 ∨ c = 135 ∨ c = 136 ∨ c = 137 ∨ (c = 109 ∧ j = 51) → ν c j = μ c j) ∧ (∀ j, ν 121 j = μ 121 j) ∧ (∀ c j, (118 ≤ c ∧ c ≤ 120) ∨ c = 124 ∨ (129 ≤ c ∧ c ≤ 133) ∨ (c = 109 ∧ (j = 31 ∨ j = 32)) → ν c j = μ c j) ∧ (μ 109 22 = 1 → ∃ Γ', x1 ν g Γ' dd s.2.2.2 (ν 109 21) (hQ s) (sQ F s) (μ 109 32) (pN ν g (qP s.2.2.2) s.2.2.2.length) (qP s.2.2.2) ∧ nmI ν g Γ' (tEv ν g dd) s.2.2.2 (ν 109 21) (a - 1) ∧ μ 109 21 ≤ ν 109 21 ∧ ν 109 21 ≤ μ 109 21 + 2 * (a - s.2.1 - 1) ∧ (∀ j, 0 ≤ j → j ≤ μ 109 21 → tQe Γ Γ' j) ∧ Γ'.2.2.1 (ν 109 21) = Γ.2.2.1 (μ 109 21) ∧ (s.2.2.2 = [] → Γ'.2.2.2.2 (ν 109 21) = ν 109 21))
theorem U.fr {W g : Int} {μ : ab_m} {s : aS} {Γ : tQ} {F : Int → List Int} {dd : Int} {ν : ab_m} {a : Int} (h'' : U W g μ s Γ F dd ν a) : fRd g μ ν := h''.1
theorem U.at' {W g : Int} {μ : ab_m} {s : aS} {Γ : tQ} {F : Int → List Int} {dd : Int} {ν : ab_m} {a : Int} (h'' : U W g μ s Γ F dd ν a) : ν 109 40 = a := h''.2.1
theorem U.ge {W g : Int} {μ : ab_m} {s : aS} {Γ : tQ} {F : Int → List Int} {dd : Int} {ν : ab_m} {a : Int} (h'' : U W g μ s Γ F dd ν a) : s.2.1 < a := h''.2.2.1
theorem U.le {W g : Int} {μ : ab_m} {s : aS} {Γ : tQ} {F : Int → List Int} {dd : Int} {ν : ab_m} {a : Int} (h'' : U W g μ s Γ F dd ν a) : a ≤ W := h''.2.2.2.1
theorem U.md {W g : Int} {μ : ab_m} {s : aS} {Γ : tQ} {F : Int → List Int} {dd : Int} {ν : ab_m} {a : Int} (h'' : U W g μ s Γ F dd ν a) : ν 109 39 = s.1 := h''.2.2.2.2.1
theorem U.ln {W g : Int} {μ : ab_m} {s : aS} {Γ : tQ} {F : Int → List Int} {dd : Int} {ν : ab_m} {a : Int} (h'' : U W g μ s Γ F dd ν a) : ν 109 38 = s.2.2.2.length := h''.2.2.2.2.2.1
theorem U.ft {W g : Int} {μ : ab_m} {s : aS} {Γ : tQ} {F : Int → List Int} {dd : Int} {ν : ab_m} {a : Int} (h'' : U W g μ s Γ F dd ν a) : ν 109 43 = 0 := h''.2.2.2.2.2.2.1
theorem U.tb {W g : Int} {μ : ab_m} {s : aS} {Γ : tQ} {F : Int → List Int} {dd : Int} {ν : ab_m} {a : Int} (h'' : U W g μ s Γ F dd ν a) : ∀ c j, c = 134 ∨ c = 135 ∨ c = 136 ∨ c = 137 ∨ (c = 109 ∧ j = 51) → ν c j = μ c j := h''.2.2.2.2.2.2.2.1
theorem U.rs {W g : Int} {μ : ab_m} {s : aS} {Γ : tQ} {F : Int → List Int} {dd : Int} {ν : ab_m} {a : Int} (h'' : U W g μ s Γ F dd ν a) : ∀ j, ν 121 j = μ 121 j := h''.2.2.2.2.2.2.2.2.1
theorem U.nf {W g : Int} {μ : ab_m} {s : aS} {Γ : tQ} {F : Int → List Int} {dd : Int} {ν : ab_m} {a : Int} (h'' : U W g μ s Γ F dd ν a) : ∀ c j, (118 ≤ c ∧ c ≤ 120) ∨ c = 124 ∨ (129 ≤ c ∧ c ≤ 133) ∨ (c = 109 ∧ (j = 31 ∨ j = 32)) → ν c j = μ c j := h''.2.2.2.2.2.2.2.2.2.1
theorem U.one {W g : Int} {μ : ab_m} {s : aS} {Γ : tQ} {F : Int → List Int} {dd : Int} {ν : ab_m} {a : Int} (h'' : U W g μ s Γ F dd ν a) : μ 109 22 = 1 → ∃ Γ', x1 ν g Γ' dd s.2.2.2 (ν 109 21) (hQ s) (sQ F s) (μ 109 32) (pN ν g (qP s.2.2.2) s.2.2.2.length) (qP s.2.2.2) ∧ nmI ν g Γ' (tEv ν g dd) s.2.2.2 (ν 109 21) (a - 1) ∧ μ 109 21 ≤ ν 109 21 ∧ ν 109 21 ≤ μ 109 21 + 2 * (a - s.2.1 - 1) ∧ (∀ j, 0 ≤ j → j ≤ μ 109 21 → tQe Γ Γ' j) ∧ Γ'.2.2.1 (ν 109 21) = Γ.2.2.1 (μ 109 21) ∧ (s.2.2.2 = [] → Γ'.2.2.2.2 (ν 109 21) = ν 109 21) := h''.2.2.2.2.2.2.2.2.2.2
section M46
variable {X : jm_X} {d : Nat} {P : Int → ab_m → Prop} {K : Int → Int} {W g : Int} {s0 : aS} {μ0 μ ν ν' : ab_m} {s s' : aS} {Γ Γ' : tQ} {F : Int → List Int} {dd : Int} {Ln : Int → Nat} {G : Int → List Int} {a m o : Int} {p : List aE} {kp k wv hh n dn : Int} {ss : List Int} {ex pd : Int → Prop} {q : Int}
theorem nmI.up {E : tE} {a' : Int} (h : nmI μ g Γ E p n a) (l : a ≤ a') : nmI μ g Γ E p n a' :=
  ⟨⟨h.nm.1, by have := h.nm; omega⟩, ⟨h.it.1, by have := h.it; omega⟩, ⟨h.dm.1, by have := h.dm; omega⟩, h.rw, h.dn, h.nk, h.nb, h.dc⟩
theorem nB.up {E : tE} : ∀ {p : List aE} {b b' : Int}, nB μ E p b → aPs p → b ≤ b' → nB μ E p b'
  | [], _, _, _, hp, _ => hp.elim
  | e :: r, b, b', h, hp, l => by
    unfold nB at h ⊢
    split at h
    · next q => rw [if_pos q]; exact ⟨h.1, by omega, h.2.2⟩
    · next q =>
      rw [if_neg q]
      refine h.up ?_ l
      rcases hp with ⟨z, -⟩ | ⟨-, z⟩
      · omega
      · exact z
/-- names are read from above alone -/
theorem nB.low {E E' : tE} (hD : ∀ x, E.2.2.2.2.1 x → E'.2.2.2.2.1 x) : ∀ {p : List aE} {b : Int}, nB μ E p b → (∀ i, 0 ≤ i → i < b → ν 126 i = μ 126 i ∧ ν 127 i = μ 127 i) → (∀ i, 0 ≤ i → i < (p.length : Int) → ν 130 i = μ 130 i) → nB ν E' p b
  | [], b, h, h6, _ => fun i a c d => by rw [(h6 i a c).2]; rw [(h6 i a c).1] at d; exact hD _ (h i a c d)
  | e :: r, b, h, h6, hp => by
    have l : ((e :: r).length : Int) = r.length + 1 := by simp
    unfold nB at h ⊢
    rw [hp r.length (by omega) (by omega)]
    split at h
    · next q => rw [if_pos q]; exact ⟨h.1, h.2.1, h.2.2.low hD (fun i a c => h6 i a (by omega)) fun i a c => hp i a (by omega)⟩
    · next q => rw [if_neg q]; exact h.low hD h6 fun i a c => hp i a (by omega)
theorem pN.all {k m : Int} (f : ∀ c j, (129 ≤ c ∧ c ≤ 133) ∨ (c = 116 ∧ j < 9000 * g + n) → ν c j = μ c j) (hc : cE μ g (tEv μ g dd) Γ n m q) (h : pN μ g q m k) : pN ν g q m k :=
  pN.same hc (fun j _ b _ => f 116 _ (by omega)) (fun i _ _ => ⟨f 129 i (by omega), f 130 i (by omega), f 131 i (by omega), f 132 i (by omega), f 133 i (by omega)⟩) h
end M46
/-- what newInt did in pass 1 -/
def uN (μ μ' : ab_m) : Prop := (∀ c j, ¬ (125 ≤ c ∧ c ≤ 128 ∧ j = μ 109 27) → ¬ (c = 109 ∧ (j = 27 ∨ j = 30)) → μ' c j = μ c j) ∧ (μ' 109 27 = μ 109 27 + 1) ∧ (μ' 109 30 = μ 109 30 + 1) ∧ (μ' 126 (μ 109 27) = 0) ∧ (μ' 127 (μ 109 27) = μ 109 30)
theorem uN.f {μ μ' : ab_m} (h'' : uN μ μ') : ∀ c j, ¬ (125 ≤ c ∧ c ≤ 128 ∧ j = μ 109 27) → ¬ (c = 109 ∧ (j = 27 ∨ j = 30)) → μ' c j = μ c j := h''.1
theorem uN.n {μ μ' : ab_m} (h'' : uN μ μ') : μ' 109 27 = μ 109 27 + 1 := h''.2.1
theorem uN.i {μ μ' : ab_m} (h'' : uN μ μ') : μ' 109 30 = μ 109 30 + 1 := h''.2.2.1
theorem uN.k {μ μ' : ab_m} (h'' : uN μ μ') : μ' 126 (μ 109 27) = 0 := h''.2.2.2.1
theorem uN.o {μ μ' : ab_m} (h'' : uN μ μ') : μ' 127 (μ 109 27) = μ 109 30 := h''.2.2.2.2
section M46
variable {X : jm_X} {d : Nat} {P : Int → ab_m → Prop} {K : Int → Int} {W g : Int} {s0 : aS} {μ0 μ ν ν' : ab_m} {s s' : aS} {Γ Γ' : tQ} {F : Int → List Int} {dd : Int} {Ln : Int → Nat} {G : Int → List Int} {a m o : Int} {p : List aE} {kp k wv hh n dn : Int} {ss : List Int} {ex pd : Int → Prop} {q : Int}
theorem c_U_newInt {w : Int} (hi : rI K W g μ0 μ s) (u : U W g μ s Γ F dd ν a) (hw : 0 ≤ w ∧ w < 3002) (h0 : μ 109 22 = 0 → P 0 ν) (h1 : μ 109 22 = 1 → ∀ ν', uN ν ν' → P (ν 109 30) ν') (hF : ∀ ν', rFt g μ0 ν' → P 0 ν') : jj_mM_newInt X (d + 1) 0 (ab_la [109, w]) [] ν P := by
  have ps : ν 109 22 = μ 109 22 := u.fr 109 22 (by unfold rdW; omega)
  rcases hi.p01 with e | e
  · exact c_mM_newInt0 (by rw [ps]; exact e) (h0 e)
  · obtain ⟨Γ', x, nm, -⟩ := u.one e
    have W3 := hi.kk.2.1
    have le := u.le
    refine c_mM_newInt (by rw [ps]; exact e) u.ft hw ⟨nm.nm.1, by have := nm.nm; omega⟩ ⟨nm.it.1, by have := nm.it; omega⟩ (fun ν1 ν2 m1 m2 m3 => h1 e ν2 ?_) fun ν' m' => hF _ (hi.fault u.fr u.rs m')
    obtain ⟨a1, a2, a3, a4⟩ := m1
    exact ⟨fun c j z1 z2 => by rw [m2 c j (by omega)]; exact a1 c j z1 (by omega), by rw [m2 109 27 (by omega)]; exact a2, m3, by rw [m2 126 _ (by omega)]; exact a3, by rw [m2 127 _ (by omega)]; exact a4⟩
set_option maxHeartbeats 1000000 in
/-- one more int is declared -/
theorem U.decl (u : U W g μ s Γ F dd ν a) {ν4 ν7 ν8 : ab_m} (w : μ 109 22 = 1) (hs : s.2.2.2 = []) (g01 : g = 0 ∨ g = 1) (haW : a + 1 ≤ W) (hW : W ≤ 3000) (n4 : uN ν ν4) (e7 : ν7 = ab_mu ν4 122 (3000 * g + ν 123 g) (ν 109 30)) (e8 : ν8 = ab_mu ν7 123 g (ν 123 g + 1)) {ν9 : ab_m} (e9 : ν9 = ab_mu ν8 109 40 (a + 1)) : U W g μ s Γ F dd ν9 (a + 1) := by
  obtain ⟨Γ', x, nm, n1, n2, Gk, ww, zz⟩ := u.one w
  have ge := u.ge
  have d0 := nm.dm
  have m0 := nm.nm
  have i0 := nm.it
  have f9 : ∀ c j, ¬ (125 ≤ c ∧ c ≤ 128 ∧ j = ν 109 27) → ¬ (c = 109 ∧ (j = 27 ∨ j = 30 ∨ j = 40)) → ¬ (c = 122 ∧ j = 3000 * g + ν 123 g) → ¬ (c = 123 ∧ j = g) → ν9 c j = ν c j := fun c j z1 z2 z3 z4 => by
    rw [e9, ab_mud, if_neg (by omega), e8, ab_mud, if_neg (by omega), e7, ab_mud, if_neg (by omega)]
    exact n4.f c j z1 (by omega)
  have q27 : ν9 109 27 = ν 109 27 + 1 := by rw [e9, ab_mud, if_neg (by omega), e8, ab_mud, if_neg (by omega), e7, ab_mud, if_neg (by omega)]; exact n4.n
  have q30 : ν9 109 30 = ν 109 30 + 1 := by rw [e9, ab_mud, if_neg (by omega), e8, ab_mud, if_neg (by omega), e7, ab_mud, if_neg (by omega)]; exact n4.i
  have q126 : ν9 126 (ν 109 27) = 0 := by rw [e9, ab_mud, if_neg (by omega), e8, ab_mud, if_neg (by omega), e7, ab_mud, if_neg (by omega)]; exact n4.k
  have q127 : ν9 127 (ν 109 27) = ν 109 30 := by rw [e9, ab_mud, if_neg (by omega), e8, ab_mud, if_neg (by omega), e7, ab_mud, if_neg (by omega)]; exact n4.o
  have q123 : ν9 123 g = ν 123 g + 1 := by rw [e9, ab_mud, if_neg (by omega), e8, ab_mud, if_pos ⟨rfl, rfl⟩]
  have q122 : ν9 122 (3000 * g + ν 123 g) = ν 109 30 := by rw [e9, ab_mud, if_neg (by omega), e8, ab_mud, if_neg (by omega), e7, ab_mud, if_pos ⟨rfl, rfl⟩]
  have q40 : ν9 109 40 = a + 1 := by rw [e9, ab_mud, if_pos ⟨rfl, rfl⟩]
  have q21 : ν9 109 21 = ν 109 21 := f9 109 21 (by omega) (by omega) (by omega) (by omega)
  have hD : ∀ y, (tEv ν g dd).2.2.2.2.1 y → (tEv ν9 g dd).2.2.2.2.1 y := fun y ⟨i, j0, j1, j2⟩ => ⟨i, j0, by rw [q123]; omega, by rw [f9 122 _ (by omega) (by omega) (by omega) (by omega)]; exact j2⟩
  have hD1 : (tEv ν9 g dd).2.2.2.2.1 (ν 109 30) := ⟨ν 123 g, d0.1, by rw [q123]; omega, q122⟩
  have hD2 : ∀ y, (tEv ν9 g dd).2.2.2.2.1 y → (tEv ν g dd).2.2.2.2.1 y ∨ y = ν 109 30 := fun y ⟨i, j0, j1, j2⟩ => by
    rw [q123] at j1
    by_cases e : i = ν 123 g
    · rw [e, q122] at j2; exact Or.inr j2.symm
    · rw [f9 122 _ (by omega) (by omega) (by omega) (by omega)] at j2
      exact Or.inl ⟨i, j0, by omega, j2⟩
  have xn := x.grow (ν := ν9) (fun j _ _ => f9 115 _ (by omega) (by omega) (by omega) (by omega)) (fun j _ _ => f9 116 _ (by omega) (by omega) (by omega) (by omega)) (fun c j hc => f9 c j (by omega) (by omega) (by omega) (by omega)) (fun c j z1 z2 => f9 c j (by omega) (by omega) (by omega) (by omega)) hD
  have G0 : ∀ j, 0 ≤ j → j ≤ ν 109 21 → tQe Γ' Γ' j := fun _ _ _ => ⟨rfl, rfl, rfl, rfl, rfl⟩
  have tx : tX (tEv ν g dd) (tEv ν9 g dd) Γ' Γ' (ν 109 21) := ⟨fun j _ _ => f9 115 _ (by omega) (by omega) (by omega) (by omega), fun j _ _ _ => f9 116 _ (by omega) (by omega) (by omega) (by omega), G0, Int.le_refl _, fun y _ _ => ⟨f9 120 _ (by omega) (by omega) (by omega) (by omega), f9 119 _ (by omega) (by omega) (by omega) (by omega)⟩, hD⟩
  refine ⟨fun c j z => ?_, q40, by omega, haW, by rw [f9 109 39 (by omega) (by omega) (by omega) (by omega)]; exact u.md, by rw [f9 109 38 (by omega) (by omega) (by omega) (by omega)]; exact u.ln, by rw [f9 109 43 (by omega) (by omega) (by omega) (by omega)]; exact u.ft, fun c j z => by rw [f9 c j (by omega) (by omega) (by omega) (by omega)]; exact u.tb c j z, fun j => by rw [f9 121 j (by omega) (by omega) (by omega) (by omega)]; exact u.rs j, fun c j z => by rw [f9 c j (by omega) (by omega) (by omega) (by omega)]; exact u.nf c j z, fun _ => ⟨Γ', ?_, ?_, by omega, by omega, Gk, by rw [q21]; exact ww, fun z => by rw [q21]; exact zz z⟩⟩
  · rw [f9 c j (fun y => z (by unfold rdW; omega)) (fun y => z (by unfold rdW; omega)) (fun y => z (by unfold rdW; omega)) (fun y => z (by unfold rdW; omega))]; exact u.fr c j z
  · rw [q21]
    exact xn.more fun j _ _ _ z => Or.inl (pN.all (n := ν 109 21) (fun c j zz => f9 c j (by omega) (by omega) (by omega) (by omega)) x.chn z)
  · rw [q21, hs]
    rw [hs] at nm
    refine ⟨by rw [q27]; omega, by rw [q30]; omega, by rw [q123]; omega, by rw [f9 109 31 (by omega) (by omega) (by omega) (by omega)]; exact nm.rw, by rw [f9 109 32 (by omega) (by omega) (by omega) (by omega)]; exact nm.dn, fun i j0 j1 => ?_, fun i j0 j1 j2 => ?_, fun y hy => ?_⟩
    · rw [q27] at j1
      rw [q30, f9 109 32 (by omega) (by omega) (by omega) (by omega)]
      by_cases e : i = ν 109 27
      · subst e
        rw [q126, q127]
        exact ⟨fun _ => ⟨i0.1, by omega, Or.inl hD1⟩, fun z => absurd z (by decide), fun z => absurd z (by decide)⟩
      · rw [f9 126 i (by omega) (by omega) (by omega) (by omega), f9 127 i (by omega) (by omega) (by omega) (by omega)]
        obtain ⟨k0, k1, k2⟩ := nm.nk i j0 (by omega)
        exact ⟨fun z => ⟨(k0 z).1, by have := (k0 z).2.1; omega, tx.ok ⟨x.n0, Int.le_refl _⟩ (x.tr x.n0 (Int.le_refl _)).r0 (k0 z).2.2⟩, k1, k2⟩
    · rw [q27] at j1
      by_cases e : i = ν 109 27
      · subst e; rw [q127]; exact hD1
      · rw [f9 127 i (by omega) (by omega) (by omega) (by omega)]
        rw [f9 126 i (by omega) (by omega) (by omega) (by omega)] at j2
        exact hD _ (nm.nb i j0 (by omega) j2)
    · rw [q30]
      rcases hD2 y hy with z | z
      · have := nm.dc y z; omega
      · omega
set_option maxHeartbeats 1000000 in
/-- one more int of a block -/
theorem U.new (u : U W g μ s Γ F dd ν a) {ν4 ν7 : ab_m} (w : μ 109 22 = 1) (hf : μ 109 20 = g) (hs : aPs s.2.2.2) (haW : a + 1 ≤ W) (hW : W ≤ 3000) (room : ν 109 21 < 9000) (n4 : uN ν ν4) (m7 : mSp ν4 ν7 11 (ν 109 30) 0) {ν9 : ab_m} (e9 : ν9 = ab_mu ν7 109 40 (a + 1)) : U W g μ s Γ F dd ν9 (a + 1) := by
  obtain ⟨Γ', x, nm, n1, n2, Gk, ww, zz⟩ := u.one w
  have ge := u.ge
  have d0 := nm.dm
  have m0 := nm.nm
  have i0 := nm.it
  have n0 := x.n0
  have h20 : ν4 109 20 = g := by rw [n4.f 109 20 (by omega) (by omega), u.fr 109 20 (by unfold rdW; omega)]; exact hf
  have h21 : ν4 109 21 = ν 109 21 := n4.f 109 21 (by omega) (by omega)
  have x4 := x.grow (ν := ν4) (fun j _ _ => n4.f 115 _ (by omega) (by omega)) (fun j _ _ => n4.f 116 _ (by omega) (by omega)) (fun c j hc => n4.f c j (by omega) (by omega)) (fun c j z1 z2 => n4.f c j (by omega) (by omega)) (fun y ⟨i, j0, j1, j2⟩ => ⟨i, j0, by rw [n4.f 123 _ (by omega) (by omega)]; exact j1, by rw [n4.f 122 _ (by omega) (by omega)]; exact j2⟩)
  obtain ⟨Γ2, x7, w7, G7⟩ := x4.step m7 h20 h21 (h' := hQ s) (s' := sQ F s) rfl ⟨fun z => absurd z (by decide), fun z => absurd z (by decide), fun z => absurd z (by decide), fun z => absurd z (by decide), fun _ => ⟨i0.1, by omega⟩, fun z => absurd z (by decide), fun z => absurd z (by decide)⟩ (by decide)
  obtain ⟨p1, p2, p3, p4, p5⟩ := m7
  rw [h20, h21] at p1 p3 p4
  rw [h21] at p2
  have f9 : ∀ c j, ¬ (125 ≤ c ∧ c ≤ 128 ∧ j = ν 109 27) → ¬ (c = 109 ∧ (j = 27 ∨ j = 30 ∨ j = 40 ∨ j = 21)) → ¬ (115 ≤ c ∧ c ≤ 117 ∧ j = 9000 * g + ν 109 21) → ν9 c j = ν c j := fun c j z1 z2 z3 => by
    rw [e9, ab_mud, if_neg (by omega), p1 c j z3 (by omega)]
    exact n4.f c j z1 (by omega)
  have q27 : ν9 109 27 = ν 109 27 + 1 := by rw [e9, ab_mud, if_neg (by omega), p1 109 27 (by omega) (by omega)]; exact n4.n
  have q30 : ν9 109 30 = ν 109 30 + 1 := by rw [e9, ab_mud, if_neg (by omega), p1 109 30 (by omega) (by omega)]; exact n4.i
  have q126 : ν9 126 (ν 109 27) = 0 := by rw [e9, ab_mud, if_neg (by omega), p1 126 _ (by omega) (by omega)]; exact n4.k
  have q127 : ν9 127 (ν 109 27) = ν 109 30 := by rw [e9, ab_mud, if_neg (by omega), p1 127 _ (by omega) (by omega)]; exact n4.o
  have q40 : ν9 109 40 = a + 1 := by rw [e9, ab_mud, if_pos ⟨rfl, rfl⟩]
  have q21 : ν9 109 21 = ν 109 21 + 1 := by rw [e9, ab_mud, if_neg (by omega)]; exact p2
  have qS : ν9 115 (9000 * g + ν 109 21) = 11 := by rw [e9, ab_mud, if_neg (by omega)]; exact p3
  have qT : ν9 116 (9000 * g + ν 109 21) = ν 109 30 := by rw [e9, ab_mud, if_neg (by omega)]; exact p4
  have x9 := x7.frame (μ' := ν9) ⟨fun j _ _ => by rw [e9, ab_mud, if_neg (by omega)], fun j _ _ => by rw [e9, ab_mud, if_neg (by omega)], fun c j _ => by rw [e9, ab_mud, if_neg (by omega)], fun c j _ _ _ _ => by rw [e9, ab_mud, if_neg (by omega)]⟩
  have hD : ∀ y, (tEv ν g dd).2.2.2.2.1 y → (tEv ν9 g dd).2.2.2.2.1 y := fun y ⟨i, j0, j1, j2⟩ => ⟨i, j0, by rw [f9 123 _ (by omega) (by omega) (by omega)]; exact j1, by rw [f9 122 _ (by omega) (by omega) (by omega)]; exact j2⟩
  have hD' : ∀ y, (tEv ν9 g dd).2.2.2.2.1 y → (tEv ν g dd).2.2.2.2.1 y := fun y ⟨i, j0, j1, j2⟩ => ⟨i, j0, by rw [← f9 123 _ (by omega) (by omega) (by omega)]; exact j1, by rw [← f9 122 _ (by omega) (by omega) (by omega)]; exact j2⟩
  have tx : tX (tEv ν g dd) (tEv ν9 g dd) Γ' Γ2 (ν 109 21) := ⟨fun j _ _ => f9 115 _ (by omega) (by omega) (by omega), fun j _ _ _ => f9 116 _ (by omega) (by omega) (by omega), G7, Int.le_refl _, fun y _ _ => ⟨f9 120 _ (by omega) (by omega) (by omega), f9 119 _ (by omega) (by omega) (by omega)⟩, hD⟩
  have gr := (G7 (ν 109 21) n0 (Int.le_refl _)).2.2.2.1
  have rr : Γ2.2.2.2.1 (ν 109 21 + 1) = Γ2.2.2.2.1 (ν 109 21) := by rw [x9.cr, gr, x.cr]
  refine ⟨fun c j z => ?_, q40, by omega, haW, by rw [f9 109 39 (by omega) (by omega) (by omega)]; exact u.md, by rw [f9 109 38 (by omega) (by omega) (by omega)]; exact u.ln, by rw [f9 109 43 (by omega) (by omega) (by omega)]; exact u.ft, fun c j z => by rw [f9 c j (by omega) (by omega) (by omega)]; exact u.tb c j z, fun j => by rw [f9 121 j (by omega) (by omega) (by omega)]; exact u.rs j, fun c j z => by rw [f9 c j (by omega) (by omega) (by omega)]; exact u.nf c j z, fun _ => ⟨Γ2, ?_, ?_, by omega, by omega, fun j j0 j1 => ?_, by rw [q21, w7, show tPu 11 = 0 from rfl, ww]; omega, fun z => absurd z hs.ne⟩⟩
  · rw [f9 c j (fun y => z (by unfold rdW; omega)) (fun y => z (by unfold rdW; omega)) (fun y => z (by unfold rdW; omega))]; exact u.fr c j z
  · rw [q21]
    refine x9.more fun j _ _ _ z => ?_
    rcases z with z | z
    · exact Or.inl (pN.all (n := ν 109 21) (fun c j zz => f9 c j (by omega) (by omega) (by omega)) x.chn z)
    · exact absurd z.1 (by unfold tGo; decide)
  · rw [q21]
    refine ⟨by rw [q27]; omega, by rw [q30]; omega, by rw [f9 123 g (by omega) (by omega) (by omega)]; omega, by rw [f9 109 31 (by omega) (by omega) (by omega)]; exact nm.rw, by rw [f9 109 32 (by omega) (by omega) (by omega)]; exact nm.dn, fun i j0 j1 => ?_, ?_, fun y hy => by rw [q30]; have := nm.dc y (hD' y hy); omega⟩
    · rw [q27] at j1
      rw [q30, f9 109 32 (by omega) (by omega) (by omega)]
      by_cases e : i = ν 109 27
      · subst e
        rw [q126, q127]
        exact ⟨fun _ => ⟨i0.1, by omega, Or.inr (Or.inr ⟨ν 109 21, n0, by omega, qS, rr.symm, qT⟩)⟩, fun z => absurd z (by decide), fun z => absurd z (by decide)⟩
      · rw [f9 126 i (by omega) (by omega) (by omega), f9 127 i (by omega) (by omega) (by omega)]
        obtain ⟨k0, k1, k2⟩ := nm.nk i j0 (by omega)
        exact ⟨fun z => ⟨(k0 z).1, by have := (k0 z).2.1; omega, (tx.ok ⟨n0, Int.le_refl _⟩ (x.tr n0 (Int.le_refl _)).r0 (k0 z).2.2).up (by omega) rr⟩, k1, k2⟩
    · rw [q27]
      exact (nm.nb.low hD (fun i j0 j1 => ⟨f9 126 i (by omega) (by omega) (by omega), f9 127 i (by omega) (by omega) (by omega)⟩) fun i _ _ => f9 130 i (by omega) (by omega) (by omega)).up hs (by omega)
  · obtain ⟨b1, b2, b3, b4, b5⟩ := Gk j j0 j1
    obtain ⟨c1, c2, c3, c4, c5⟩ := G7 j j0 (by omega)
    exact ⟨c1.trans b1, c2.trans b2, c3.trans b3, c4.trans b4, c5.trans b5⟩
end M46

/-! THE REFERENCE, part 47: readInts, the loop -/
section M47
variable {X : jm_X} {d : Nat} {P : Int → ab_m → Prop} {K : Int → Int} {W g : Int} {s0 : aS} {μ0 μ ν ν' : ab_m} {s s' : aS} {Γ Γ' : tQ} {F : Int → List Int} {dd : Int} {Ln : Int → Nat} {G : Int → List Int} {a m o : Int} {p : List aE} {kp k wv hh n dn : Int} {ss : List Int} {ex pd : Int → Prop} {q : Int}
theorem dD (e3 : ν 123 g = μ 123 g) (e2 : ∀ j, ν 122 j = μ 122 j) : ∀ x, (tEv μ g dd).2.2.2.2.1 x → (tEv ν g dd).2.2.2.2.1 x := fun y ⟨i, j0, j1, j2⟩ => ⟨i, j0, by rw [e3]; exact j1, by rw [e2]; exact j2⟩
/-- a word more -/
theorem U.word (u : U W g μ s Γ F dd ν a) (haW : a + 1 ≤ W) (e : mF1 40 ν ν') (e40 : ν' 109 40 = a + 1) : U W g μ s Γ F dd ν' (a + 1) := by
  have ge := u.ge
  have e := fun c j z => e c j z
  refine ⟨fun c j z => ?_, e40, by omega, haW, by rw [e 109 39 (by omega)]; exact u.md, by rw [e 109 38 (by omega)]; exact u.ln, by rw [e 109 43 (by omega)]; exact u.ft, fun c j z => by rw [e c j (by omega)]; exact u.tb c j z, fun j => by rw [e 121 j (by omega)]; exact u.rs j, fun c j z => by rw [e c j (by omega)]; exact u.nf c j z, fun w => ?_⟩
  · rw [e c j (fun y => z (by unfold rdW; omega))]; exact u.fr c j z
  · obtain ⟨Γ', x, nm, n1, n2, Gk, ww, zz⟩ := u.one w
    have q21 : ν' 109 21 = ν 109 21 := e 109 21 (by omega)
    have G0 : ∀ j, 0 ≤ j → j ≤ ν 109 21 → tQe Γ' Γ' j := fun _ _ _ => ⟨rfl, rfl, rfl, rfl, rfl⟩
    have fx : ∀ n m, xS ν ν' g n m := fun n m => ⟨fun j _ _ => e 115 _ (by omega), fun j _ _ => e 116 _ (by omega), fun c j _ => e c j (by omega), fun c j _ _ _ _ => e c j (by omega)⟩
    refine ⟨Γ', ?_, ?_, by omega, by omega, Gk, by rw [q21]; exact ww, fun z => by rw [q21]; exact zz z⟩
    · rw [q21]
      exact (x.frame (fx _ _)).more fun j _ _ _ z => Or.inl (pN.all (n := ν 109 21) (fun c j zz => e c j (by omega)) x.chn z)
    · rw [q21]
      refine nmI.same nm ((fx _ 0).x G0) x.n0 (Int.le_refl _) rfl (x.tr x.n0 (Int.le_refl _)).r0 (fun c j z => e c j (by omega)) ?_ ?_ (by omega) ?_
      · rw [e 109 27 (by omega)]; have := nm.nm; omega
      · intro y ⟨i, j0, j1, j2⟩
        exact ⟨i, j0, by rw [← e 123 _ (by omega)]; exact j1, by rw [← e 122 _ (by omega)]; exact j2⟩
      · rw [e 109 27 (by omega)]
        exact nm.nb.same (dD (e 123 g (by omega)) fun j => e 122 j (by omega)) (fun i => ⟨e 126 i (by omega), e 127 i (by omega)⟩) fun i _ _ => e 130 i (by omega)
/-- names are read to their end -/
theorem U.fin (u : U W g μ s Γ F dd ν a) (hJ : J K W g s0 μ0 μ s) (hO : μ 109 22 = 1 → rO K W g μ s Γ F dd Ln) (hZ : μ 109 22 = 0 → rZ K W s0 μ s G) (hm : s.1 = 0 ∨ s.1 = 1) (e : aNext K s = some ((s.1, a, s.2.2.1, s.2.2.2), none)) : J K W g s0 μ0 ν (s.1, a, s.2.2.1, s.2.2.2) ∧ aMs W (s.1, a, s.2.2.1, s.2.2.2) < aMs W s := by
  have aq := aNext_q hJ.i.kk hJ.i.w _ _ e
  have e22 : ν 109 22 = μ 109 22 := u.fr 109 22 (by unfold rdW; omega)
  have at0 := hJ.i.w.at0
  have ge := u.ge
  have ap : aP ν s.2.2.2 := hJ.i.r.2.2.2.2.same fun c i z1 z2 _ _ => u.nf c i (by omega)
  have ri : rI K W g μ0 ν (s.1, a, s.2.2.1, s.2.2.2) := hJ.i.go e u.fr (fun j _ _ => Or.inl (u.rs j)) (by rw [u.ft, hJ.i.ft]) ⟨u.md, u.at', fun m3 => by have m3 : s.1 = 3 := m3; omega, u.ln, ap⟩
  refine ⟨⟨ri, fun w => ⟨G, ?_⟩, fun w => ?_⟩, aq.ms⟩
  · exact (hZ (by rw [← e22]; exact w)).go hJ.i e u.tb
  · rw [e22] at w
    have O := hO w
    obtain ⟨Γ', x, nm, n1, n2, Gk, ww, zz⟩ := u.one w
    have e32 := u.nf 109 32 (by omega)
    have b3 := O.bu
    have b4 := O.bw
    have sl : (sW Ln s.2.1.toNat : Int) ≤ sW Ln a.toNat := sW_at at0 (by omega)
    refine ⟨Γ', F, dd, Ln, O.fin' hJ.i e ?_ (fun c j z => u.tb c j (by omega)) ?_ ?_ ?_ ⟨e32, u.nf 124 g (by omega)⟩ rfl Gk n1 zz⟩
    · rw [e32]
      have e1 : hQ (s.1, a, s.2.2.1, s.2.2.2) = hQ s := rfl
      have e2 : sQ F (s.1, a, s.2.2.1, s.2.2.2) = sQ F s := rfl
      rw [e1, e2]; exact x
    · show ν 109 21 + pEn s.2.2.2 ≤ 2 * a + (sW Ln a.toNat : Int)
      omega
    · rw [ww]
      show 2 * Γ.2.2.1 (μ 109 21) ≤ a + pDo s.2.2.2 + 2 * (sW Ln a.toNat : Int)
      omega
    · exact nm.up (by show a - 1 ≤ a; omega)
set_option maxHeartbeats 1000000 in
theorem c_rd_readInts {isd : Int} (hJ : J K W g s0 μ0 μ s) (hO : μ 109 22 = 1 → rO K W g μ s Γ F dd Ln) (hZ : μ 109 22 = 0 → rZ K W s0 μ s G) (f42 : mF1 42 μ ν) (hk : K s.2.1 = 15) (hm : (s.1 = 0 ∧ isd = 1) ∨ (s.1 = 1 ∧ isd = 0 ∧ (aTop s.2.2.2 = 1 ∨ aTop s.2.2.2 = 2 ∨ aTop s.2.2.2 = 3))) (hF : ∀ ν', rFt g μ0 ν' → P 0 ν') (hN : ∀ ν' s', J K W g s0 μ0 ν' s' ∧ aMs W s' < aMs W s → P 0 ν') : jj_mM_readInts X (d + 3) 0 (ab_la [109, isd]) [] ν P := by
  have at0 := hJ.at'
  have room := hJ.room hO
  have l1 := aK_lt hJ.i.kk at0.1 at0.2.2 hk (by decide)
  have W3 := hJ.i.kk.2.1
  have r := hJ.i.r
  have rooms : ∀ ν a, U W g μ s Γ F dd ν a → μ 109 22 = 1 → ν 109 21 < 9000 := fun ν a u w => by
    obtain ⟨Γ', x, nm, n1, n2, -⟩ := u.one w
    have O := (hO w).bu
    have t := (hO w).tot
    have := u.le
    have := pEn0 s.2.2.2
    have : sW Ln s.2.1.toNat ≤ sW Ln (W + 1).toNat := sW_mono (by omega)
    omega
  -- the end
  have last : ∀ l ν a, l 0 = 109 → l 2 = 0 → U W g μ s Γ F dd ν a → aNm K 3002 (s.2.1 + 1) = some a → jj_mM_readInts X (d + 3) 12 l [] ν P := by
    intro l ν a l0 l2 u e
    refine bk_mM_readInts_12 l0 ⟨fun _ => ?_, fun w => absurd l2 w⟩
    have kk : ∀ i, ν 111 i = K i := fun i => by rw [u.fr 111 i (by unfold rdW; omega)]; exact hJ.i.K i
    have ge := u.ge
    have le := u.le
    refine c_mM_take u.ft (by rw [u.at']; omega) (fun e59 ν1 f1 q1 => ?_) fun ν1 m1 => hF _ (hJ.i.fault u.fr u.rs m1)
    rw [u.at', kk] at e59
    have lW := aK_lt hJ.i.kk (by omega) le e59 (by decide)
    refine hN _ _ ((u.word lW f1 (by rw [q1, u.at'])).fin hJ hO hZ (by omega) ?_)
    rcases hm with hm | hm
    · simp [aNext, aDecl, hm.1, hk, e, e59]
    · simp [aNext, aStat, hm.1, hk, e, e59, hm.2.2]
  have main : ∀ (m : Nat) l ν a (f : Nat), l 0 = 109 → l 1 = isd → l 2 = 1 → U W g μ s Γ F dd ν a → aNm K 3002 (s.2.1 + 1) = aNm K f a → 3002 ≤ (f : Int) + a → (W - a).toNat = m → jj_mM_readInts X (d + 3) 12 l [] ν P := by
    intro m
    induction m using Nat.strongRecOn with
    | ind m ih =>
      intro l ν a f l0 l1' l2 u e hf hmm
      have kk : ∀ i, ν 111 i = K i := fun i => by rw [u.fr 111 i (by unfold rdW; omega)]; exact hJ.i.K i
      have ge := u.ge
      have le := u.le
      have ps : ν 109 22 = μ 109 22 := u.fr 109 22 (by unfold rdW; omega)
      have h20 : ν 109 20 = g := by rw [u.fr 109 20 (by unfold rdW; omega)]; exact hJ.i.hf
      refine bk_mM_readInts_12 l0 ⟨fun w => by rw [l2] at w; exact absurd w (by decide), fun _ => ?_⟩
      rw [u.at', kk]
      refine ⟨by omega, fun k1 => ?_, fun _ => c_mM_misfit u.ft (by rw [u.at']; omega) fun ν1 m1 => hF _ (hJ.i.fault u.fr u.rs m1)⟩
      have lW := aK_lt hJ.i.kk (by omega) le k1 (by decide)
      obtain ⟨f', rfl⟩ : ∃ f', f = f' + 1 := ⟨f - 1, by omega⟩
      have e' : aNm K 3002 (s.2.1 + 1) = if K (a + 1) = 44 then aNm K f' (a + 2) else some (a + 1) := by
        rw [e]
        show (if K a ≠ 1 then none else if K (a + 1) = 44 then aNm K f' (a + 2) else some (a + 1)) = _
        rw [if_neg (by omega)]
      -- behind the name
      have s112 : ∀ l ν8, l 0 = 109 → l 1 = isd → ν8 109 40 = a → (∀ ν9, ν9 = ab_mu ν8 109 40 (a + 1) → U W g μ s Γ F dd ν9 (a + 1)) → jj_mM_readInts X (d + 3) 112 l [] ν8 P := by
        intro l ν8 l0 l1' q40 hu
        refine bk_mM_readInts_112 l0 fun ν9 e9 => ?_
        rw [q40, show ab_w (a + 1) = a + 1 from ab_wi (by omega) (by omega)] at e9
        have u9 := hu ν9 e9
        have kk9 : ∀ i, ν9 111 i = K i := fun i => by rw [u9.fr 111 i (by unfold rdW; omega)]; exact hJ.i.K i
        rw [u9.at', kk9]
        refine ⟨by omega, fun n44 => ?_, fun y44 => ?_⟩
        · refine bk_mM_readInts_141 l0 ⟨fun _ ν1 e1 => ?_, fun w => absurd rfl w⟩
          rw [u9.at', Int.add_zero, show ab_w (a + 1) = a + 1 from ab_wi (by omega) (by omega)] at e1
          have : ν1 = ν9 := by
            rw [e1]
            funext c j
            rw [ab_mud]
            split
            · next q => rw [q.1, q.2, u9.at']
            · rfl
          subst this
          exact last _ _ (a + 1) l0 rfl u9 (by rw [e', if_neg n44])
        · have lW2 := aK_lt hJ.i.kk (by omega) lW y44 (by decide)
          refine bk_mM_readInts_141 l0 ⟨fun w => absurd w (by decide), fun _ ν1 e1 => ?_⟩
          rw [u9.at', show ab_w (a + 1 + 1) = a + 1 + 1 from ab_wi (by omega) (by omega)] at e1
          have u1 := u9.word lW2 (ν' := ν1) (by rw [e1]; exact mF1.mu) (by rw [e1, ab_mud, if_pos ⟨rfl, rfl⟩])
          exact ih _ (by omega) _ ν1 (a + 1 + 1) f' l0 l1' rfl u1 (by rw [e', if_pos y44, show a + 1 + 1 = a + 2 by omega]) (by omega) rfl
      refine c_U_newInt hJ.i u (by omega) (fun z0 => ⟨fun _ => ?_, fun w => ?_⟩) (fun w ν4 n4 => ⟨fun _ => ?_, fun w5 => ?_⟩) (fun ν1 f1 => ⟨fun w => absurd f1.m5 w, fun _ => hF _ f1⟩)
      · -- pass 0
        rw [l1']
        refine ⟨fun _ => ⟨fun _ => s112 _ ν l0 l1' u.at' fun ν9 e9 => u.word lW (by rw [e9]; exact mF1.mu) (by rw [e9, ab_mud, if_pos ⟨rfl, rfl⟩]), fun w => by omega⟩, fun _ => c_mM_step0 (by omega) (s112 _ ν l0 l1' u.at' fun ν9 e9 => u.word lW (by rw [e9]; exact mF1.mu) (by rw [e9, ab_mud, if_pos ⟨rfl, rfl⟩]))⟩
      · rw [u.md] at w; omega
      · -- pass 1
        have p4 : ν4 109 22 = 1 := by rw [n4.f 109 22 (by omega) (by omega), ps]; exact w
        have g4 : ν4 109 20 = g := by rw [n4.f 109 20 (by omega) (by omega)]; exact h20
        have d4 : ν4 123 g = ν 123 g := n4.f 123 g (by omega) (by omega)
        have g01 := hJ.i.g01
        have rm := rooms ν a u w
        rw [l1']
        rcases hm with hm | hm
        · have hs := hJ.i.w.m0 hm.1
          obtain ⟨Γ', x, nm, -⟩ := u.one w
          have dm := nm.dm
          refine ⟨fun _ => ⟨fun z => absurd p4 z, fun _ => ?_⟩, fun z => by omega⟩
          rw [g4, d4, show ab_w (3000 * g) = 3000 * g from ab_wi (by omega) (by omega), show ab_w (3000 * g + ν 123 g) = 3000 * g + ν 123 g from ab_wi (by omega) (by omega)]
          refine ⟨by omega, by omega, fun ν7 e7 => ?_⟩
          have g7 : ν7 109 20 = g := by rw [e7, ab_mud, if_neg (by omega)]; exact g4
          have d7 : ν7 123 g = ν 123 g := by rw [e7, ab_mud, if_neg (by omega)]; exact d4
          rw [g7, d7, show ab_w (ν 123 g + 1) = ν 123 g + 1 from ab_wi (by omega) (by omega)]
          refine ⟨by omega, by omega, fun ν8 e8 => s112 _ ν8 l0 l1' ?_ fun ν9 e9 => u.decl w hs g01 lW W3 n4 e7 e8 e9⟩
          rw [e8, ab_mud, if_neg (by omega), e7, ab_mud, if_neg (by omega), n4.f 109 40 (by omega) (by omega)]; exact u.at'
        · have hs := hJ.i.w.m1 (Or.inl hm.1)
          obtain ⟨Γ', x, nm, -⟩ := u.one w
          refine ⟨fun z => absurd hm.2.1 z, fun _ => ?_⟩
          have n21 : ν4 109 21 = ν 109 21 := n4.f 109 21 (by omega) (by omega)
          refine c_mM_step p4 (by rw [g4]; exact g01) (by rw [n21]; have := x.n0; omega) fun ν7 m7 => s112 _ ν7 l0 l1' ?_ fun ν9 e9 => u.new w hJ.i.hf hs lW W3 rm n4 m7 e9
          rw [m7.1 109 40 (by omega) (by omega), n4.f 109 40 (by omega) (by omega)]; exact u.at'
      · rw [n4.f 109 39 (by omega) (by omega), u.md] at w5; omega
  refine bk_mM_readInts_0 rfl fun ν1 e1 => ?_
  have q40 : ν 109 40 = s.2.1 := by rw [f42 109 40 (by omega)]; exact r.2.1
  rw [q40, show ab_w (s.2.1 + 1) = s.2.1 + 1 from ab_wi (by omega) (by omega)] at e1
  have f1 : ∀ c j, ¬ (c = 109 ∧ (j = 40 ∨ j = 42)) → ν1 c j = μ c j := fun c j z => by rw [e1, ab_mud, if_neg (by omega)]; exact f42 c j (by omega)
  refine main _ _ ν1 (s.2.1 + 1) 3002 rfl rfl rfl ?_ rfl (by omega) rfl
  refine ⟨fun c j z => f1 c j fun y => z (by unfold rdW; omega), by rw [e1, ab_mud, if_pos ⟨rfl, rfl⟩], by omega, l1, by rw [f1 109 39 (by omega)]; exact r.1, by rw [f1 109 38 (by omega)]; exact r.2.2.2.1, by rw [f1 109 43 (by omega)]; exact hJ.i.ft, fun c j z => f1 c j (by omega), fun j => f1 121 j (by omega), fun c j z => f1 c j (by omega), fun w => ?_⟩
  have O := hO w
  have q21 : ν1 109 21 = μ 109 21 := f1 109 21 (by omega)
  have G0 : ∀ j, 0 ≤ j → j ≤ μ 109 21 → tQe Γ Γ j := fun _ _ _ => ⟨rfl, rfl, rfl, rfl, rfl⟩
  have fx : ∀ n m, xS μ ν1 g n m := fun n m => ⟨fun j _ _ => f1 115 _ (by omega), fun j _ _ => f1 116 _ (by omega), fun c j _ => f1 c j (by omega), fun c j _ _ _ _ => f1 c j (by omega)⟩
  refine ⟨Γ, ?_, ?_, by omega, by omega, G0, by rw [q21], fun z => by rw [q21]; exact O.z0 z⟩
  · rw [q21]
    exact (O.x.frame (fx _ _)).more fun j _ _ _ z => Or.inl (pN.all (n := μ 109 21) (fun c j zz => f1 c j (by omega)) O.x.chn z)
  · rw [q21]
    have nm := O.nm
    refine nmI.same nm ((fx _ 0).x G0) O.x.n0 (Int.le_refl _) rfl (O.x.tr O.x.n0 (Int.le_refl _)).r0 (fun c j z => f1 c j (by omega)) ?_ ?_ (by omega) ?_
    · rw [f1 109 27 (by omega)]; have := nm.nm; omega
    · intro y ⟨i, j0, j1, j2⟩
      exact ⟨i, j0, by rw [← f1 123 _ (by omega)]; exact j1, by rw [← f1 122 _ (by omega)]; exact j2⟩
    · rw [f1 109 27 (by omega)]
      exact nm.nb.same (dD (f1 123 g (by omega)) fun j => f1 122 j (by omega)) (fun i => ⟨f1 126 i (by omega), f1 127 i (by omega)⟩) fun i _ _ => f1 130 i (by omega)
end M47

/-! THE REFERENCE, part 48: blocks, DO -/
section M48
variable {X : jm_X} {d : Nat} {P : Int → ab_m → Prop} {K : Int → Int} {W g : Int} {s0 : aS} {μ0 μ ν ν' : ab_m} {s s' : aS} {Γ Γ' : tQ} {F : Int → List Int} {dd : Int} {Ln : Int → Nat} {G : Int → List Int} {a m o : Int} {p : List aE} {kp k wv hh n dn : Int} {ss : List Int} {ex pd : Int → Prop} {q : Int}
theorem c_rd_beginBlock {L : Int} (hl : ν 109 38 = L + 1) (hL : 0 ≤ L ∧ L < 3010) (hP : ∀ ν2, (∀ c j, ¬ ((c = 130 ∨ c = 131) ∧ j = L) → ¬ (c = 109 ∧ (j = 28 ∨ j = 29)) → ν2 c j = ν c j) → ν2 130 L = ν 109 27 → P 0 ν2) : jj_mM_beginBlock X d 0 (ab_la [109]) [] ν P := by
  refine bk_mM_beginBlock_0 rfl ?_
  have e : ab_w (L + 1 - 1) = L := by rw [ab_wi (by omega) (by omega)]; omega
  rw [hl, e]
  refine ⟨by omega, fun ν1 e1 => ?_⟩
  have g1 : ∀ j, ν1 109 j = ν 109 j := fun j => by rw [e1, mu_ne (by decide)]
  rw [g1, g1, hl, e]
  refine ⟨by omega, fun ν2 e2 ν3 e3 ν4 e4 => hP ν4 (fun c j x y => ?_) ?_⟩
  · rw [e4, ab_mud, if_neg (by omega), e3, ab_mud, if_neg (by omega), e2, ab_mud, if_neg (by omega), e1, ab_mud, if_neg (by omega)]
  · rw [e4, mu_ne (by decide), e3, mu_ne (by decide), e2, mu_ne (by decide), e1, ab_mud, if_pos ⟨rfl, rfl⟩]
/-- a block begins: { -/
theorem c_rd_block (hJ : J K W g s0 μ0 μ s) (hm : s.1 = 1) (hk : K s.2.1 = 123) (hF : ∀ ν', rFt g μ0 ν' → P 0 ν') (hN : ∀ ν' s', J K W g s0 μ0 ν' s' ∧ aMs W s' < aMs W s → P 0 ν') : jj_mM_opens X (d + 1) 0 (ab_la [109]) [] μ (fun r52 μ51 => (r52 = 0 → P 0 μ51) ∧ (r52 ≠ 0 → ∀ μ54, μ54 = ab_mu μ51 109 42 (ab_w ((μ51 109 42) + 1)) → ∀ μ55, μ55 = ab_mu μ54 109 40 (ab_w ((μ54 109 40) + 1)) → jj_mM_push X (d + 1) 0 (ab_la [109, 2, 0, 0]) [] μ55 (fun r57 μ56 => jj_mM_beginBlock X (d + 1) 0 (ab_la [109]) [] μ56 (fun r60 μ59 => P 0 μ59)))) := by
  obtain ⟨Γ, F, dd, Ln, G, hO, hZ⟩ := hJ.get
  have at0 := hJ.at'
  have len := hJ.len
  have a0 : 0 ≤ s.2.1 ∧ s.2.1 < 3002 := by omega
  have hp := hJ.i.w.m1 (Or.inl hm)
  refine c_V_opens hJ.i (hJ.v0 hO) a0 (fun ν1 v1 => ⟨fun w => absurd w (by decide), fun _ ν4 e4 ν5 e5 => ?_⟩) (fun ν1 f1 => ⟨fun _ => hF ν1 f1, fun w => absurd rfl w⟩)
  have v5 := (v1.f1 e4 (Or.inr rfl)).fa1 a0 e5
  refine c_mM_push (by rw [v5.ln]; omega) fun ν6 m6 => ?_
  obtain ⟨q1, q2, q3, q4, q5, q6, q7⟩ := m6
  rw [v5.ln] at q1 q2 q3 q4 q5 q6 q7
  refine c_rd_beginBlock q2 (by omega) fun ν7 f7 e7 => ?_
  have f75 : ∀ c j : Int, ¬ (129 ≤ c ∧ c ≤ 133 ∧ j = s.2.2.2.length) → ¬ (c = 109 ∧ (j = 38 ∨ j = 28 ∨ j = 29)) → ν7 c j = ν5 c j := fun c j z1 z2 => by rw [f7 c j (by omega) (by omega)]; exact q1 c j z1 (by omega)
  have v7 := v5.put (e := ⟨2, 0, 0, 0⟩) (ν' := ν7) (ex' := fun _ => False) (kp' := s.2.2.2.length) f75 (by rw [f7 109 38 (by omega) (by omega)]; exact q2) (aM_n (by rw [f7 129 _ (by omega) (by omega)]; exact q3) (by decide)) ⟨Int.le_refl _, Int.le_refl _⟩ fun w Γ' x G' => ⟨eF_n (by decide), fun z => absurd z (by decide), fun z => absurd z (by decide), fun z => absurd z (by decide), fun j z => z.elim⟩
  have sl : μ 109 22 = 1 → (sW Ln s.2.1.toNat : Int) ≤ sW Ln (s.2.1 + 1).toNat := fun _ => sW_at at0.1 (by omega)
  have nx : aNext K s = some ((s.1, s.2.1 + 1, s.2.2.1, ⟨2, 0, 0, 0⟩ :: s.2.2.2), none) := by simp [aNext, aStat, hm, hk]
  refine hN _ _ (V.fin (s' := (s.1, s.2.1 + 1, s.2.2.1, ⟨2, 0, 0, 0⟩ :: s.2.2.2)) (kp := s.2.2.2.length) (k := 0) (wv := 0) (o := μ 109 46) ?_ hJ hO hZ nx (fun w => by have w : s.1 = 3 := w; omega) (by decide) (fun w => ?_) (fun w => ?_) (fun w => ?_) (bK_cons hp.ne) (List.cons_ne_nil _ _))
  · have e1 : hQ (s.1, s.2.1 + 1, s.2.2.1, ⟨2, 0, 0, 0⟩ :: s.2.2.2) = hQ s := by unfold hQ; dsimp only; rw [hP_cons]; simp
    have e2 : sQ F (s.1, s.2.1 + 1, s.2.2.1, ⟨2, 0, 0, 0⟩ :: s.2.2.2) = sQ F s := by unfold sQ; dsimp only; rw [sP_cons]; simp [sO, hm]
    rw [e1, e2]
    exact v7
  · have := sl w
    show 0 + pEn (⟨2, 0, 0, 0⟩ :: s.2.2.2) + (sW Ln s.2.1.toNat : Int) ≤ pEn s.2.2.2 + 2 * (s.2.1 + 1 - s.2.1) + (sW Ln (s.2.1 + 1).toNat : Int)
    rw [pEn_cons]; simp; omega
  · have := sl w
    show 2 * 0 + pDo s.2.2.2 + 2 * (sW Ln s.2.1.toNat : Int) ≤ s.2.1 + 1 - s.2.1 + pDo (⟨2, 0, 0, 0⟩ :: s.2.2.2) + 2 * (sW Ln (s.2.1 + 1).toNat : Int)
    rw [pDo_cons]; simp; omega
  · show nB ν7 (tEv ν7 g dd) (⟨2, 0, 0, 0⟩ :: s.2.2.2) (μ 109 27)
    unfold nB
    rw [if_pos (by decide), e7, q1 109 27 (by omega) (by omega), v5.nf 109 27 (by omega)]
    exact ⟨(hO w).nm.nm.1, Int.le_refl _, v7.nb (hO w).nm.nb (Int.le_refl _)⟩
/-- a DO begins -/
theorem c_rd_do (hJ : J K W g s0 μ0 μ s) (hm : s.1 = 1) (hk : K s.2.1 = 12) (hF : ∀ ν', rFt g μ0 ν' → P 0 ν') (hN : ∀ ν' s', J K W g s0 μ0 ν' s' ∧ aMs W s' < aMs W s → P 0 ν') : jj_mM_opens X (d + 1) 0 (ab_la [109]) [] μ (fun r8 μ7 => (r8 = 0 → P 0 μ7) ∧ (r8 ≠ 0 → jj_mM_begun X (d + 1) 0 (ab_la [109]) [] μ7 (fun r11 μ10 => jj_mM_step X (d + 1) 0 (ab_la [109, 21, 0]) [] μ10 (fun r14 μ13 => jj_mM_push X (d + 1) 0 (ab_la [109, 7, r14, 0]) [] μ13 (fun r17 μ16 => ∀ μ19, μ19 = ab_mu μ16 109 40 (ab_w ((μ16 109 40) + 1)) → P 0 μ19))))) := by
  obtain ⟨Γ, F, dd, Ln, G, hO, hZ⟩ := hJ.get
  have at0 := hJ.at'
  have len := hJ.len
  have room := hJ.room hO
  have a0 : 0 ≤ s.2.1 ∧ s.2.1 < 3002 := by omega
  have hp := hJ.i.w.m1 (Or.inl hm)
  have hq0 : hQ s = 0 := by unfold hQ; rw [hp.h0, if_neg (by omega)]; rfl
  have sq0 : sQ F s = sP F s.2.2.2 := by unfold sQ; rw [if_neg (by omega)]
  refine c_V_opens hJ.i (hJ.v0 hO) a0 (fun ν1 v1 => ⟨fun w => absurd w (by decide), fun _ => ?_⟩) (fun ν1 f1 => ⟨fun _ => hF ν1 f1, fun w => absurd rfl w⟩)
  refine c_V_begun hJ.i v1 (fun w => by have := room w; omega) (by decide) fun ν2 v2 _ _ => ?_
  refine c_V_step hJ.i v2 (fun w => by have := room w; omega) (by decide) (by decide) (h' := hQ s) (s1 := 5 :: sQ F s) (fun _ => rfl) (fun _ _ _ _ => tVk_n (by decide)) fun ν3 r v3 _ e3 => ?_
  have v3' := v3.more (ex' := fun _ => False) fun _ _ _ _ j _ _ z => z.elim (fun z => z.elim) fun z => absurd z.1 (by unfold tGo; decide)
  refine c_V_push (e := ⟨7, 0, 0, 0⟩) (ex' := fun _ => False) hJ.i v3' (by omega) (Int.le_refl _) (fun ν' m => aM_n (m.kd v3'.ln).1 (by decide)) (fun w ν' Γ' m x G' => ?_) fun ν4 v4 _ ν5 e5 => ?_
  · obtain ⟨r1, r2, r3, r4⟩ := e3 w
    have rm := room w
    have k130 := (m.kd v3'.ln).2.1
    have la := x1.last (n := μ 109 21 + (0 + 1)) (by rw [show μ 109 21 + (0 + 1) + 1 = μ 109 21 + (0 + 1 + 1) by omega]; exact x) (by omega) r3 (by decide)
    have k2 : Γ'.1 (μ 109 21 + (0 + 1)) = hQ s ∧ Γ'.2.1 (μ 109 21 + (0 + 1)) = sQ F s := by
      have this : some (Γ'.1 (μ 109 21 + (0 + 1)), 5 :: Γ'.2.1 (μ 109 21 + (0 + 1))) = some (hQ s, 5 :: sQ F s) := la.1
      injection this with this
      injection this with t1 t2
      injection t2 with t2 t3
      exact ⟨t1, t3⟩
    refine ⟨eF_7 rfl ⟨?_, ?_⟩, fun _ => ?_, fun j z => z.elim⟩
    · rw [k130, r1, show μ 109 21 + (0 + 1 + 1) = μ 109 21 + (0 + 1) + 1 by omega]
      refine ⟨by omega, by omega, ?_, by rw [k2.1, hq0], la.2⟩
      show ν' 115 _ = 21
      rw [m.1 115 _ (by omega) (by omega)]; exact r3
    · rw [k130, r1, k2.2, sq0]
      exact fun z => hp.tl (sP6 z)
    · rw [r1]
      intro i i0 i1 L a n3 y hy
      have sy := x.chn.S i0 i1 a hy
      have : y ≠ μ 109 21 + (0 + 1) := fun e => by
        rw [e, show (tEv ν3 g dd).1 (μ 109 21 + (0 + 1)) = 21 from r3] at sy
        omega
      omega
  · have v5 := v4.fa1 a0 e5
    have sl : μ 109 22 = 1 → (sW Ln s.2.1.toNat : Int) ≤ sW Ln (s.2.1 + 1).toNat := fun _ => sW_at at0.1 (by omega)
    have nx : aNext K s = some ((s.1, s.2.1 + 1, s.2.2.1, ⟨7, 0, 0, 0⟩ :: s.2.2.2), none) := by simp [aNext, aStat, hm, hk]
    refine hN _ _ (V.fin (s' := (s.1, s.2.1 + 1, s.2.2.1, ⟨7, 0, 0, 0⟩ :: s.2.2.2)) (kp := s.2.2.2.length) (k := 2) (wv := 1) (o := μ 109 46) ?_ hJ hO hZ nx (fun w => by have w : s.1 = 3 := w; omega) (by decide) (fun w => ?_) (fun w => ?_) (fun w => nB_cons (by decide) (v5.nb (hO w).nm.nb (Int.le_refl _))) (bK_cons hp.ne) (List.cons_ne_nil _ _))
    · have e1 : hQ (s.1, s.2.1 + 1, s.2.2.1, ⟨7, 0, 0, 0⟩ :: s.2.2.2) = hQ s := by unfold hQ; dsimp only; rw [hP_cons]; simp
      have e2 : sQ F (s.1, s.2.1 + 1, s.2.2.1, ⟨7, 0, 0, 0⟩ :: s.2.2.2) = 5 :: sQ F s := by unfold sQ; dsimp only; rw [sP_cons]; simp [sO, hm]
      rw [e1, e2]
      exact v5
    · have := sl w
      show 2 + pEn (⟨7, 0, 0, 0⟩ :: s.2.2.2) + (sW Ln s.2.1.toNat : Int) ≤ pEn s.2.2.2 + 2 * (s.2.1 + 1 - s.2.1) + (sW Ln (s.2.1 + 1).toNat : Int)
      rw [pEn_cons]; simp; omega
    · have := sl w
      show 2 * 1 + pDo s.2.2.2 + 2 * (sW Ln s.2.1.toNat : Int) ≤ s.2.1 + 1 - s.2.1 + pDo (⟨7, 0, 0, 0⟩ :: s.2.2.2) + 2 * (sW Ln (s.2.1 + 1).toNat : Int)
      rw [pDo_cons]; simp; omega
/-- a block ends: } -/
theorem c_rd_endBlock (hJ : J K W g s0 μ0 μ s) (hm : s.1 = 1) (hk : K s.2.1 = 125) (ht : aTop s.2.2.2 = 2) (hN : ∀ ν' s', J K W g s0 μ0 ν' s' ∧ aMs W s' < aMs W s → P 0 ν') : jj_mM_endBlock X (d + 1) 0 (ab_la [109]) [] μ (fun r5 μ4 => ∀ μ7, μ7 = ab_mu μ4 109 38 (ab_w ((μ4 109 38) - 1)) → ∀ μ8, μ8 = ab_mu μ7 109 41 (ab_w ((μ7 109 41) - 1)) → ∀ μ9, μ9 = ab_mu μ8 109 40 (ab_w ((μ8 109 40) + 1)) → ∀ μ10, μ10 = ab_mu μ9 109 39 4 → P 0 μ10) := by
  obtain ⟨Γ, F, dd, Ln, G, hO, hZ⟩ := hJ.get
  have at0 := hJ.at'
  have len := hJ.len
  obtain ⟨r1, r2, r3, r4, r5⟩ := hJ.i.r
  have hp := hJ.i.w.m1 (Or.inl hm)
  cases hs : s.2.2.2 with
  | nil => rw [hs] at hp; exact hp.elim
  | cons e r =>
    rw [hs] at hp ht r4 r5 len
    have ek : e.1 = 2 := ht
    have hr := hp.tail (by omega)
    have ll : ((e :: r).length : Int) = r.length + 1 := by simp
    refine c_mM_endBlock (by omega) fun ν4 f4 e4 ν7 e7 ν8 e8 ν9 e9 ν10 e10 => ?_
    have q38 : ν4 109 38 = r.length + 1 := by rw [f4 109 38 (by omega), r4, ll]
    rw [q38, show ab_w ((r.length : Int) + 1 - 1) = r.length by rw [ab_wi (by omega) (by omega)]; omega] at e7
    have q40 : ν8 109 40 = s.2.1 := by rw [e8, ab_mud, if_neg (by omega), e7, ab_mud, if_neg (by omega), f4 109 40 (by omega)]; exact r2
    rw [q40, show ab_w (s.2.1 + 1) = s.2.1 + 1 from ab_wi (by omega) (by omega)] at e9
    have f : ∀ c j, ¬ (c = 109 ∧ (j = 27 ∨ j = 29 ∨ j = 38 ∨ j = 39 ∨ j = 40 ∨ j = 41)) → ν10 c j = μ c j := fun c j z => by
      rw [e10, ab_mud, if_neg (by omega), e9, ab_mud, if_neg (by omega), e8, ab_mud, if_neg (by omega), e7, ab_mud, if_neg (by omega)]
      exact f4 c j (by omega)
    have a39 : ν10 109 39 = 4 := by rw [e10, ab_mud, if_pos ⟨rfl, rfl⟩]
    have a40 : ν10 109 40 = s.2.1 + 1 := by rw [e10, ab_mud, if_neg (by omega), e9, ab_mud, if_pos ⟨rfl, rfl⟩]
    have a38 : ν10 109 38 = r.length := by rw [e10, ab_mud, if_neg (by omega), e9, ab_mud, if_neg (by omega), e8, ab_mud, if_neg (by omega), e7, ab_mud, if_pos ⟨rfl, rfl⟩]
    have a27 : ν10 109 27 = μ 130 r.length := by
      rw [e10, ab_mud, if_neg (by omega), e9, ab_mud, if_neg (by omega), e8, ab_mud, if_neg (by omega), e7, ab_mud, if_neg (by omega), e4, r4, ll]
      congr 1; omega
    have nx : aNext K s = some ((4, s.2.1 + 1, s.2.2.1, r), none) := by
      simp [aNext, aStat, hm, hk, hs, aTop, ek]
    have aq := aNext_q hJ.i.kk hJ.i.w _ _ nx
    have e22 : ν10 109 22 = μ 109 22 := f 109 22 (by omega)
    have ri : rI K W g μ0 ν10 (4, s.2.1 + 1, s.2.2.1, r) := hJ.i.go nx (fun c j z => f c j fun y => z (by unfold rdW; omega)) (fun j _ _ => Or.inl (f 121 j (by omega))) (f 109 43 (by omega)) ⟨a39, a40, fun m3 => absurd (show (4 : Int) = 3 from m3) (by decide), a38, r5.2.same fun c i z1 z2 _ _ => f c i (by omega)⟩
    refine hN _ _ ⟨⟨ri, fun w => ⟨G, (hZ (by rw [← e22]; exact w)).go hJ.i nx fun c j z => f c j (by omega)⟩, fun w => ?_⟩, aq.ms⟩
    rw [e22] at w
    have O := hO w
    have sl : (sW Ln s.2.1.toNat : Int) ≤ sW Ln (s.2.1 + 1).toNat := sW_at at0.1 (by omega)
    have b3 := O.bu
    have b4 := O.bw
    have q21 : ν10 109 21 = μ 109 21 := f 109 21 (by omega)
    have q32 : ν10 109 32 = μ 109 32 := f 109 32 (by omega)
    have G0 : ∀ j, 0 ≤ j → j ≤ μ 109 21 → tQe Γ Γ j := fun _ _ _ => ⟨rfl, rfl, rfl, rfl, rfl⟩
    have fx : ∀ n m, xS μ ν10 g n m := fun n m => ⟨fun j _ _ => f 115 _ (by omega), fun j _ _ => f 116 _ (by omega), fun c j _ => f c j (by omega), fun c j _ _ _ _ => f c j (by omega)⟩
    have X0 := O.x
    rw [hs, hp.qm] at X0
    have nb := O.nm.nb
    rw [hs] at nb b3 b4
    unfold nB at nb
    rw [if_pos (by omega)] at nb
    refine ⟨Γ, F, dd, Ln, O.fin' hJ.i nx ?_ (fun c j z => f c j (by omega)) ?_ ?_ ?_ ⟨q32, f 124 g (by omega)⟩ (by rw [hs]; exact (bK_cons hr.ne).symm) G0 (by omega) fun z => absurd z hr.ne⟩
    · have x2 := (X0.frame (fx _ _)).pop
      have e1 : hQ (4, s.2.1 + 1, s.2.2.1, r) = hQ s := by unfold hQ; rw [hs]; dsimp only; rw [hP_cons]; simp [ek, hm]
      have e2 : sQ F (4, s.2.1 + 1, s.2.2.1, r) = sQ F s := by unfold sQ; rw [hs]; dsimp only; rw [sP_cons]; simp [ek, hm, sO]
      rw [q21, q32, e1, e2]
      show x1 ν10 g Γ dd r (μ 109 21) (hQ s) (sQ F s) (μ 109 32) (pN ν10 g (qP r) r.length) (qP r)
      rw [hr.qm]
      refine x2.more fun j _ _ _ z => Or.inl ?_
      obtain ⟨i, i0, i1, pe⟩ := z
      by_cases ei : i = r.length
      · subst ei
        have : μ 129 r.length = 2 := by rw [r5.1.1]; exact ek
        exfalso
        unfold pE at pe
        rw [this] at pe
        omega
      · obtain ⟨u, u0, u1, pe⟩ := pN.all (ν := ν10) (n := μ 109 21) (fun c j zz => f c j (by omega)) X0.chn ⟨i, i0, i1, pe⟩
        by_cases eu : u = r.length
        · subst eu
          have : ν10 129 r.length = 2 := by rw [f 129 _ (by omega), r5.1.1]; exact ek
          exfalso
          unfold pE at pe
          rw [this] at pe
          omega
        · exact ⟨u, u0, by omega, pe⟩
    · rw [pEn_cons] at b3
      rw [q21]
      show μ 109 21 + pEn r ≤ 2 * (s.2.1 + 1) + (sW Ln (s.2.1 + 1).toNat : Int)
      split at b3 <;> omega
    · rw [pDo_cons, if_neg (by omega), if_neg (by omega)] at b4
      rw [q21]
      show 2 * Γ.2.2.1 (μ 109 21) ≤ s.2.1 + 1 + pDo r + 2 * (sW Ln (s.2.1 + 1).toNat : Int)
      omega
    · rw [q21]
      refine nmI.same O.nm ((fx _ 0).x G0) O.x.n0 (Int.le_refl _) rfl (O.x.tr O.x.n0 (Int.le_refl _)).r0 (fun c j z => f c j (by omega)) ?_ ?_ (by show s.2.1 ≤ s.2.1 + 1; omega) ?_
      · rw [a27]; exact ⟨nb.1, nb.2.1⟩
      · intro y ⟨i, j0, j1, j2⟩
        exact ⟨i, j0, by rw [← f 123 _ (by omega)]; exact j1, by rw [← f 122 _ (by omega)]; exact j2⟩
      · rw [a27]
        exact nb.2.2.same (dD (f 123 g (by omega)) fun j => f 122 j (by omega)) (fun i => ⟨f 126 i (by omega), f 127 i (by omega)⟩) fun i _ _ => f 130 i (by omega)
end M48

/-! THE REFERENCE, part 49: the end of a call -/
section M49
variable {X : jm_X} {d : Nat} {P : Int → ab_m → Prop} {K : Int → Int} {W g : Int} {s0 : aS} {μ0 μ ν ν' : ab_m} {s s' : aS} {Γ Γ' : tQ} {F F' : Int → List Int} {dd : Int} {Ln : Int → Nat} {G : Int → List Int} {a m o : Int} {p : List aE} {kp k wv hh n dn : Int} {ss : List Int} {ex pd : Int → Prop} {q : Int}
theorem sP_cf (h : ∀ w, cF F' w = cF F w) : ∀ {p : List aE}, sP F' p = sP F p
  | [] => rfl
  | e :: r => by
    rw [sP_cons, sP_cons, sP_cf h]
    have : sO F' e = sO F e := by unfold sO; rw [h]
    rw [this]
/-- what a lay takes off -/
theorem cF_cnt {w c : Int} (hc : 0 ≤ c) (e : F = fun x => if x = w then (c + 2) :: F' x else F' x) : ∀ x, cF F' x = cF F x := fun x => by
  rw [e]
  unfold cF
  dsimp only
  split
  · rw [List.filter_cons, if_neg (by simp; omega)]
  · rfl
/-- pass 1: a call was read -/
theorem V.finC {w c : Int} (v : V g μ Γ dd ν s'.2.1 s'.1 o s'.2.2.2 kp k wv (hQ s') (sQ F s') (fun _ => False) (qP s'.2.2.2)) (hJ : J K W g s0 μ0 μ s) (w1 : μ 109 22 = 1) (O : rO K W g μ s Γ F dd Ln) (e : aNext K s = some (s', some (w, c + 2))) (hc : 0 ≤ c) (ho : s'.1 = 3 → o = s'.2.2.1) (k0 : 0 ≤ k) (bu : k + pEn s'.2.2.2 + sW Ln s.2.1.toNat ≤ pEn s.2.2.2 + 2 * (s'.2.1 - s.2.1) + sW Ln s'.2.1.toNat) (bw : 2 * wv + pDo s.2.2.2 + 2 * sW Ln s.2.1.toNat ≤ s'.2.1 - s.2.1 + pDo s'.2.2.2 + 2 * sW Ln s'.2.1.toNat) (nb : nB ν (tEv ν g dd) s'.2.2.2 (μ 109 27)) (bk : bK s'.2.2.2 = bK s.2.2.2) (ne : s'.2.2.2 ≠ []) : J K W g s0 μ0 ν s' ∧ aMs W s' < aMs W s := by
  have aq := aNext_q hJ.i.kk hJ.i.w _ _ e
  have e22 : ν 109 22 = μ 109 22 := v.ps
  have ri : rI K W g μ0 ν s' := hJ.i.go e v.fr (fun j _ _ => Or.inl (v.rs j)) (by rw [v.ft, hJ.i.ft]) ⟨v.md, v.at', fun m3 => by rw [v.op]; exact ho m3, v.ln, v.ap⟩
  refine ⟨⟨ri, fun z => by omega, fun _ => ?_⟩, aq.ms⟩
  obtain ⟨Γ', x, n, Gk, ww⟩ := v.one w1
  obtain ⟨F', r', eF⟩ := O.rest.next e
  have eF : F = fun x => if x = w then (c + 2) :: F' x else F' x := eF
  have cf := cF_cnt hc eF
  have e32 := v.nf 109 32 (by omega)
  have e27 := v.nf 109 27 (by omega)
  have n0 := O.x.n0
  have b3 := O.bu
  have b4 := O.bw
  have r0 := (O.x.tr n0 (Int.le_refl _)).r0
  have hr : Γ'.2.2.2.1 (μ 109 21 + k) = Γ.2.2.2.1 (μ 109 21) := by rw [x.cr, O.x.cr]
  have sub : ∀ x b, b ∈ F' x → b ∈ F x := fun x b hb => by
    rw [eF]
    dsimp only
    split
    · exact List.mem_cons_of_mem _ hb
    · exact hb
  refine ⟨Γ', F', dd, Ln, ⟨?_, r', fun y a1 a2 => ?_, fun y b hb h2 => by rw [v.tb 134 y (by omega)]; exact O.xc y b (sub y b hb) h2, O.tot, by rw [n]; omega, by rw [n, ww]; omega, ?_, by rw [bk, e32]; exact O.b3, fun z => ?_, fun z => absurd z ne⟩⟩
  · rw [n, e32]
    have e2 : sQ F' s' = sQ F s' := by unfold sQ; rw [sP_cf cf, cf]
    rw [e2]
    exact x.more fun j _ _ _ z => Or.inl (z.elim id False.elim)
  · obtain ⟨bs, b1, b2, b3⟩ := O.tb y (by have := aq.le; omega) a2
    exact ⟨bs, by rw [v.tb 135 y (by omega)]; exact b1.same fun c j hc => v.tb c j (by omega), b2, by rw [cf]; exact b3⟩
  · rw [n]
    refine O.nm.same (v.toTX Gk) n0 (by omega) hr r0 (fun c j z => v.nf c j (by omega)) ?_ ?_ (by have := aq.le; omega) ?_
    · rw [e27]; have := O.nm.nm; omega
    · exact dD (v.nf 123 g (by omega)).symm fun j => (v.nf 122 j (by omega)).symm
    · rw [e27]; exact nb
  · rw [bk] at z
    obtain ⟨b1, b2, b3, b4, b5, b6⟩ := O.b1 z
    obtain ⟨g1, g2, g3, g4, g5⟩ := Gk _ b1 b2
    rw [e32, v.nf 124 g (by omega), n]
    exact ⟨b1, by omega, by rw [g4]; exact b3, by rw [g1]; exact b4, by rw [g2]; exact b5, by rw [g5]; exact b6⟩
/-- pass 0: a call was read -/
theorem V.finC0 {w c : Int} {μ1 : ab_m} (v : V g μ1 Γ dd ν s'.2.1 s'.1 o s'.2.2.2 kp k wv hh ss ex q) (e1 : μ1 = ab_mu μ 134 w c) (hJ : J K W g s0 μ0 μ s) (w0 : μ 109 22 = 0) (Z : rZ K W s0 μ s G) (e : aNext K s = some (s', some (w, c + 2))) (hc : 0 ≤ c) (ho : s'.1 = 3 → o = s'.2.2.1) (hw : ∀ b ∈ G w, b < 2) (hp : ∀ x ∈ s'.2.2.2, x.1 = 28 → x.2.2.1 ≠ w) : J K W g s0 μ0 ν s' ∧ aMs W s' < aMs W s := by
  have aq := aNext_q hJ.i.kk hJ.i.w _ _ e
  have fr : fRd g μ ν := fun c j z => by rw [v.fr c j z, e1, ab_mud, if_neg (fun y => z (by unfold rdW; omega))]
  have e22 : ν 109 22 = μ 109 22 := fr 109 22 (by unfold rdW; omega)
  have ri : rI K W g μ0 ν s' := hJ.i.go e fr (fun j _ _ => Or.inl (by rw [v.rs j, e1, ab_mud, if_neg (by omega)])) (by rw [v.ft, hJ.i.ft]) ⟨v.md, v.at', fun m3 => by rw [v.op]; exact ho m3, v.ln, v.ap⟩
  refine ⟨⟨ri, fun _ => ⟨_, Z.cnt hJ.i e hc hw hp (by rw [v.tb 134 w (by omega), e1, ab_mud, if_pos ⟨rfl, rfl⟩]) fun b j z => by rw [v.tb b j (by omega), e1, ab_mud, if_neg (by omega)]⟩, fun z => by omega⟩, aq.ms⟩
theorem V.rebase {w c : Int} (v : V g μ Γ dd ν a m o p kp k wv hh ss ex q) (w0 : μ 109 22 ≠ 1) : V g (ab_mu μ 134 w c) Γ dd (ab_mu ν 134 w c) a m o p kp k wv hh ss ex q := by
  have f : ∀ (α : ab_m) b j, b ≠ 134 → ab_mu α 134 w c b j = α b j := fun α b j z => by rw [ab_mud, if_neg (by omega)]
  have f2 : ∀ (α β : ab_m) b j, α b j = β b j → ab_mu α 134 w c b j = ab_mu β 134 w c b j := fun α β b j z => by rw [ab_mud, ab_mud, z]
  refine ⟨fun b j z => f2 _ _ _ _ (v.fr b j z), by rw [f _ _ _ (by decide)]; exact v.at', by rw [f _ _ _ (by decide)]; exact v.md, by rw [f _ _ _ (by decide)]; exact v.op, by rw [f _ _ _ (by decide)]; exact v.ln, v.ap.same fun b i _ _ _ _ => f _ _ _ (by omega), by rw [f _ _ _ (by decide)]; exact v.ft, fun b j z => f2 _ _ _ _ (v.tb b j z), fun j => f2 _ _ _ _ (v.rs j), fun b j z => f2 _ _ _ _ (v.nf b j z), fun i x y => f2 _ _ _ _ (v.kp i x y), by rw [f _ _ _ (by decide)]; exact v.hf, fun j x y => ?_, fun w1 => by rw [f _ _ _ (by decide)] at w1; exact absurd w1 w0⟩
  rw [f _ _ _ (by decide)] at y
  have := v.tx j x y
  rw [f _ _ _ (by decide), f _ _ _ (by decide), f _ _ _ (by decide), f _ _ _ (by decide)]
  exact this
set_option maxHeartbeats 1000000 in
theorem c_V_endCall {e : aE} (hJ : J K W g s0 μ0 μ s) (hO : μ 109 22 = 1 → rO K W g μ s Γ F dd Ln) (hZ : μ 109 22 = 0 → rZ K W s0 μ s G) (v : V g μ Γ dd ν a m o (e :: p) kp k wv hh ss (fun _ => False) (qP p)) (ek : e.1 = 28) (ha : 0 ≤ a ∧ a ≤ W ∧ K a = 41) (hw : 0 ≤ e.2.2.1 ∧ e.2.2.1 < 3002) (kk : 0 ≤ k) (rmk : μ 109 22 = 1 → 0 ≤ μ 109 21 ∧ μ 109 21 + k + 2 < 9000) (c0 : 0 ≤ e.2.2.2) (hlen : (p.length : Int) ≤ 3001) (hx : μ 109 22 = 1 → e.2.2.2 = μ 134 e.2.2.1) (hh1 : μ 109 22 = 1 → hh = hP p + e.2.2.2 ∧ 0 ≤ hP p) (nxA : e.2.1 ≠ 1 → aNext K s = some ((3, a + 1, e.2.2.1, p), some (e.2.2.1, e.2.2.2 + 2))) (nxB : e.2.1 = 1 → K (a + 1) = 59 → aNext K s = some ((4, a + 2, s.2.2.1, p), some (e.2.2.1, e.2.2.2 + 2))) (np : μ 109 22 = 0 → ∀ b ∈ G e.2.2.1, b < 2) (pd : ∀ x ∈ p, x.1 = 28 → x.2.2.1 ≠ e.2.2.1) (ssA : e.2.1 ≠ 1 → ss = oN (cF F e.2.2.1) ++ sP F p) (ssB : e.2.1 = 1 → ss = sP F p ∧ hP p = 0) (bu : μ 109 22 = 1 → k + 1 + pEn p + sW Ln s.2.1.toNat ≤ pEn s.2.2.2 + 2 * (a + 1 - s.2.1) + sW Ln (a + 1).toNat) (bw : μ 109 22 = 1 → 2 * wv + pDo s.2.2.2 + 2 * sW Ln s.2.1.toNat ≤ a + 1 - s.2.1 + pDo p + 2 * sW Ln (a + 1).toNat) (nb : μ 109 22 = 1 → nB μ (tEv μ g dd) p (μ 109 27)) (hkp : (p.length : Int) ≤ kp) (bk : bK p = bK s.2.2.2) (pne : p ≠ []) (hF : ∀ ν', rFt g μ0 ν' → P 0 ν') (hN : ∀ ν' s', J K W g s0 μ0 ν' s' ∧ aMs W s' < aMs W s → P 0 ν') : jj_mM_endCall X (d + 3) 0 (ab_la [109]) [] ν P := by
  have W3 := hJ.i.kk.2.1
  have lW := aK_lt hJ.i.kk ha.1 ha.2.1 ha.2.2 (by decide)
  have ll : ((e :: p).length : Int) = p.length + 1 := by simp
  refine bk_mM_endCall_0 rfl fun ν1 e1 ν2 e2 => ?_
  have v2 := (v.fa1 ⟨ha.1, by omega⟩ e1).f1 e2 (Or.inl rfl)
  have w38 : ab_w (ν2 109 38 - 1) = p.length := by rw [v2.ln, ll, ab_wi (by omega) (by omega)]; omega
  rw [w38]
  obtain ⟨am1, am2, am3, am4, am5, am6, am7⟩ := v2.ap.1
  obtain ⟨b131, b133, b132⟩ := am6 ek
  have b3 : (0 : Int) ≤ p.length ∧ (p.length : Int) < 3010 := by omega
  have main : ∀ (l : ab_l) (al : Int), l 0 = 109 → l 1 = e.2.2.1 → (al = 0 ∧ e.2.1 ≠ 1 ∨ al = 1 ∧ e.2.1 = 1) → jj_mM_endCall X (d + 3) 52 l [(0, al)] ν2 P := by
    intro l al l0 l1 hal
    refine bk_mM_endCall_52 l0 ?_
    rw [w38, l1, b132]
    refine ⟨b3, hw, fun ν3 e3 => ?_⟩
    rcases hJ.i.p01 with p0 | p1
    · -- pass 0
      have Z := hZ p0
      have v3 : V g (ab_mu μ 134 e.2.2.1 e.2.2.2) Γ dd ν3 (a + 1) m o (e :: p) kp k wv hh ss (fun _ => False) (qP p) := by rw [e3]; exact v2.rebase (by omega)
      have w38' : ab_w (ν3 109 38 - 1) = p.length := by rw [v3.ln, ll, ab_wi (by omega) (by omega)]; omega
      rw [w38']
      have ps3 : ν3 109 22 = 0 := by rw [e3, ab_mud, if_neg (by omega), v2.ps]; exact p0
      refine ⟨b3, c_mM_step0 ps3 fun ν5 e5 => ?_⟩
      rw [w38'] at e5
      have v5 := v3.pop (ν' := ν5) (kp' := kp) (fun c j z => by rw [e5, ab_mud, if_neg (by omega)]) (by rw [e5, ab_mud, if_pos ⟨rfl, rfl⟩]) (Int.le_refl _)
      have ps5 : ν5 109 22 = 0 := by rw [e5, ab_mud, if_neg (by omega)]; exact ps3
      refine ⟨fun n0 => ?_, fun z0 ν6 e6 ν7 e7 => ?_⟩
      · have al1 : e.2.1 = 1 := by omega
        refine c_mM_step0 ps5 ?_
        have kk5 : ∀ i, ν5 111 i = K i := fun i => by rw [v5.fr 111 i (by unfold rdW; omega), ab_mud, if_neg (by omega)]; exact hJ.i.K i
        refine bk_mM_take_0 rfl ⟨by rw [v5.at']; omega, fun e59 ν6 e6 => ⟨fun w => absurd w (by decide), fun _ ν7 e7 => ?_⟩, fun _ => c_mM_misfit v5.ft (by rw [v5.at']; omega) fun ν6 m6 => ⟨fun _ => hF _ (hJ.i.fault (μ1 := ν5) (fun c j z => by rw [v5.fr c j z, ab_mud, if_neg (fun y => z (by unfold rdW; omega))]) (fun j => by rw [v5.rs j, ab_mud, if_neg (by omega)]) m6), fun w => absurd rfl w⟩⟩
        have e59 : ν5 111 (ν5 109 40) = 59 := e59
        rw [v5.at', kk5] at e59
        have v7 := (v5.fa1 ⟨by omega, by omega⟩ e6).fm e7
        rw [show a + 1 + 1 = a + 2 by omega] at v7
        exact hN _ _ (V.finC0 (s' := (4, a + 2, s.2.2.1, p)) v7 rfl hJ p0 Z (nxB al1 e59) c0 (fun z => absurd (show (4 : Int) = 3 from z) (by decide)) (np p0) pd)
      · have al0 : e.2.1 ≠ 1 := by omega
        have v7 := (v5.fo e6).fm e7
        exact hN _ _ (V.finC0 (s' := (3, a + 1, e.2.2.1, p)) v7 rfl hJ p0 Z (nxA al0) c0 (fun _ => rfl) (np p0) pd)
    · -- pass 1
      have O := hO p1
      have rm := rmk p1
      have ee : ν3 = ν2 := by
        rw [e3]
        funext c j
        rw [ab_mud]
        split
        · next z => rw [z.1, z.2, hx p1, v2.tb 134 e.2.2.1 (by omega)]
        · rfl
      subst ee
      rw [w38]
      obtain ⟨h1, h1p⟩ := hh1 p1
      obtain ⟨Γa, xa, na, Ga, wa⟩ := v2.one p1
      have f28 := xa.ent.1.f28 ek
      have lmA : (tEv ν3 g dd).2.2.1 (ν3 130 p.length) = e.2.2.2 := by rw [f28.2.2.2, v2.tb 134 e.2.2.1 (by omega)]; exact (hx p1).symm
      refine ⟨b3, ?_⟩
      refine c_V_step hJ.i v2 (fun w => by omega) kk (by decide) (h' := hP p + 1) (s1 := ss) (fun _ => ?_) (fun _ Γ' x G' => ?_) fun ν4 r4 v4 f4 e4 ν5 e5 => ?_
      · show (if 0 ≤ tAr (tEv ν3 g dd) 9 (ν3 130 p.length) ∧ tAr (tEv ν3 g dd) 9 (ν3 130 p.length) ≤ hh then some (hh - tAr (tEv ν3 g dd) 9 (ν3 130 p.length) + 1, ss) else none) = _
        rw [show tAr (tEv ν3 g dd) 9 (ν3 130 p.length) = e.2.2.2 from lmA, if_pos (by omega), h1]
        congr 2; omega
      · have f := x.ent.1.f28 ek
        exact ⟨fun z => absurd z (by decide), fun z => absurd z (by decide), fun z => absurd z (by decide), fun _ => ⟨f.1, f.2.1, f.2.2.1⟩, fun z => absurd z (by decide), fun z => absurd z (by decide), fun z => absurd z (by decide)⟩
      · have v4' := v4.more (ex' := fun _ => False) fun _ _ _ _ j _ _ z => z.elim (fun z => z.elim) fun z => absurd z.1 (by unfold tGo; decide)
        have w384 : ab_w (ν4 109 38 - 1) = p.length := by rw [v4.ln, ll, ab_wi (by omega) (by omega)]; omega
        rw [w384] at e5
        have v5 := v4'.pop (ν' := ν5) (kp' := kp) (fun c j z => by rw [e5, ab_mud, if_neg (by omega)]) (by rw [e5, ab_mud, if_pos ⟨rfl, rfl⟩]) (Int.le_refl _)
        have v5' := v5.more (ex' := fun _ => False) fun _ _ _ _ j _ _ z => z.elim (fun z => z.elim) fun z => by
          have k4 : ν4 129 p.length = 28 := by rw [v4.ap.1.1]; exact ek
          exfalso
          unfold pE at z
          rw [k4] at z
          omega
        rw [show wv + tPu 9 = wv by rw [show tPu 9 = 0 from rfl]; omega] at v5'
        have b1 := bu p1
        have b2 := bw p1
        refine ⟨fun n0 => ?_, fun z0 ν6 e6 ν7 e7 => ?_⟩
        · have al1 : e.2.1 = 1 := by omega
          obtain ⟨sb, hb⟩ := ssB al1
          refine c_V_step hJ.i v5' (fun w => by omega) (by omega) (by decide) (h' := hP p) (s1 := ss) (fun _ => ?_) (fun _ _ _ _ => tVk_n (by decide)) fun ν6 r6 v6 f6 e6 => ?_
          · show (if 1 ≤ hP p + 1 then some (hP p + 1 - 1, ss) else none) = _
            rw [if_pos (by omega)]; congr 2; omega
          · have v6' := v6.more (ex' := fun _ => False) fun _ _ _ _ j _ _ z => z.elim (fun z => z.elim) fun z => absurd z.1 (by unfold tGo; decide)
            rw [show wv + tPu 10 = wv by rw [show tPu 10 = 0 from rfl]; omega] at v6'
            refine c_V_take hJ.i v6' ⟨by omega, by omega⟩ (fun e59 ν7 v7 => ⟨fun w => absurd w (by decide), fun _ ν8 e8 => ?_⟩) (fun ν7 f7 => ⟨fun _ => hF _ f7, fun w => absurd rfl w⟩)
            have v8 := v7.fm e8
            rw [show a + 1 + 1 = a + 2 by omega] at v8
            have sl : (sW Ln (a + 1).toNat : Int) ≤ sW Ln (a + 2).toNat := sW_at (by omega) (by omega)
            refine hN _ _ (V.finC (s' := (4, a + 2, s.2.2.1, p)) (kp := kp) (k := k + 1 + 1) (wv := wv) (o := o) ?_ hJ p1 O (nxB al1 e59) c0 (fun z => absurd (show (4 : Int) = 3 from z) (by decide)) (by omega) ?_ ?_ (v8.nb (nb p1) hkp) bk pne)
            · have q1 : hQ (4, a + 2, s.2.2.1, p) = hP p := by unfold hQ; dsimp only; rw [if_neg (by decide)]; omega
              have q2 : sQ F (4, a + 2, s.2.2.1, p) = ss := by unfold sQ; dsimp only; rw [if_neg (by decide), sb]
              rw [q1, q2]; exact v8
            · show k + 1 + 1 + pEn p + (sW Ln s.2.1.toNat : Int) ≤ pEn s.2.2.2 + 2 * (a + 2 - s.2.1) + (sW Ln (a + 2).toNat : Int)
              omega
            · show 2 * wv + pDo s.2.2.2 + 2 * (sW Ln s.2.1.toNat : Int) ≤ a + 2 - s.2.1 + pDo p + 2 * (sW Ln (a + 2).toNat : Int)
              omega
        · have al0 : e.2.1 ≠ 1 := by omega
          have v7 := (v5'.fo e6).fm e7
          refine hN _ _ (V.finC (s' := (3, a + 1, e.2.2.1, p)) (kp := kp) (k := k + 1) (wv := wv) (o := e.2.2.1) ?_ hJ p1 O (nxA al0) c0 (fun _ => rfl) (by omega) b1 b2 (v7.nb (nb p1) hkp) bk pne)
          have q1 : hQ (3, a + 1, e.2.2.1, p) = hP p + 1 := by unfold hQ; dsimp only; rw [if_pos rfl]
          have q2 : sQ F (3, a + 1, e.2.2.1, p) = ss := by unfold sQ; dsimp only; rw [if_pos rfl, ssA al0]
          rw [q1, q2]; exact v7
  rw [b131, b133]
  exact ⟨b3, b3, fun n1 => main _ 0 rfl rfl (Or.inl ⟨rfl, n1⟩), fun y1 => main _ 1 rfl rfl (Or.inr ⟨rfl, y1⟩)⟩
end M49

/-! THE REFERENCE, part 50: readNamed -/
section M50
variable {X : jm_X} {d : Nat} {P : Int → ab_m → Prop} {K : Int → Int} {W g : Int} {s0 : aS} {μ0 μ ν ν' : ab_m} {s s' : aS} {Γ Γ' : tQ} {F F' : Int → List Int} {dd : Int} {Ln : Int → Nat} {G : Int → List Int} {a m o : Int} {p : List aE} {kp k wv hh n dn : Int} {ss : List Int} {ex pd : Int → Prop} {q : Int}
theorem aRest.some' (h : aRest K s F) (hs : s.1 ≠ 1 ∨ K s.2.1 ≠ 0) : ∃ x, aNext K s = some x := by
  rcases h.inv with ⟨a, b, c, -⟩ | ⟨s2, e, -⟩ | ⟨s2, F', w, b, e, -, -⟩
  · omega
  · exact ⟨_, e⟩
  · exact ⟨_, e⟩
/-- what pass 0 counted -/
theorem rO.cnt {w c : Int} (O : rO K W g μ s Γ F dd Ln) (hc : 0 ≤ c) (e : aNext K s = some (s', some (w, c + 2))) : c = μ 134 w := by
  obtain ⟨F', r', eF⟩ := O.rest.next e
  have eF : F = fun x => if x = w then (c + 2) :: F' x else F' x := eF
  have := O.xc w (c + 2) (by rw [eF]; simp) (by omega)
  omega
theorem c_V_meaningOfCall {w : Int} (hi : rI K W g μ0 μ s) (hO : μ 109 22 = 1 → rO K W g μ s Γ F dd Ln) (v : V g μ Γ dd ν a m o p kp k wv hh ss ex q) (m5 : m ≠ 5) (hw : 0 ≤ w ∧ w < 3002) (hP : ∀ r, (μ 109 22 = 1 → 0 ≤ r ∧ r < μ 109 32 ∧ μ 120 (16 * g + r) = μ 134 w) → P r ν) (hF : ∀ r ν', rFt g μ0 ν' → P r ν') : jj_mM_meaningOfCall X (d + 2) 0 (ab_la [109, w]) [] ν P := by
  refine bk_mM_meaningOfCall_0 rfl (c_V_meaning hi hO v hw (fun r hr => ⟨fun n1 => hP r fun z => absurd (by rw [v.ps]; exact z) n1, fun y1 => ⟨fun z => absurd (v.md.symm.trans z) m5, fun _ => ?_⟩⟩) fun r ν' f => ⟨fun _ => hF _ _ f, fun _ => ⟨fun _ => hF _ _ f, fun z => absurd f.m5 z⟩⟩)
  rw [v.ps] at y1
  obtain ⟨i, i0, i1, i2, i3⟩ := hr y1
  have nk := ((hO y1).nm.nk i i0 i1).2.2 i2
  have dn := (hO y1).nm.dn
  have g01 := hi.g01
  rw [← i3] at nk
  rw [v.h20, show ab_w (16 * g) = 16 * g from ab_wi (by omega) (by omega), show ab_w (16 * g + r) = 16 * g + r from ab_wi (by omega) (by omega), v.nf 120 _ (by omega)]
  refine ⟨by omega, hw, fun e => hP r fun _ => ⟨nk.1, nk.2, ?_⟩, fun _ => c_V_fail hi v (by decide) hw fun ν' f => hF _ _ f⟩
  rw [e]; exact v.tb 134 _ (by omega)
/-- a call's entry comes to lie on top -/
theorem V.put28 {x y al : Int} {ν1 ν2 ν3 : ab_m} (v : V g μ Γ dd ν a m o p kp k wv hh ss (fun _ => False) q) (hO : μ 109 22 = 1 → rO K W g μ s Γ F dd Ln) (hk : kp ≤ p.length) (m1 : mPu ν ν1 28 x y) (e2 : ν2 = ab_mu ν1 132 p.length 0) (e3 : ν3 = ab_mu ν2 133 p.length al) (hr : μ 109 22 = 1 → 0 ≤ x ∧ x < μ 109 32 ∧ μ 120 (16 * g + x) = μ 134 y) : V g μ Γ dd ν3 a m o (⟨28, al, y, 0⟩ :: p) kp k wv hh ss (fun _ => False) q := by
  obtain ⟨q1, q2, q3, q4, q5, q6, q7⟩ := m1
  rw [v.ln] at q1 q2 q3 q4 q5 q6 q7
  have f : ∀ c j : Int, ¬ (129 ≤ c ∧ c ≤ 133 ∧ j = p.length) → ¬ (c = 109 ∧ (j = 38 ∨ j = 28 ∨ j = 29)) → ν3 c j = ν c j := fun c j z1 z2 => by rw [e3, ab_mud, if_neg (by omega), e2, ab_mud, if_neg (by omega)]; exact q1 c j z1 (by omega)
  have b130 : ν3 130 p.length = x := by rw [e3, ab_mud, if_neg (by omega), e2, ab_mud, if_neg (by omega)]; exact q4
  refine v.put f (by rw [e3, ab_mud, if_neg (by omega), e2, ab_mud, if_neg (by omega)]; exact q2) ⟨by rw [e3, ab_mud, if_neg (by omega), e2, ab_mud, if_neg (by omega)]; exact q3, fun z => absurd z (by show ¬ (28 : Int) = 40; decide), fun z => absurd z (by show ¬ (28 : Int) = 41; decide), fun z => absurd z (by show ¬ (28 : Int) = 23; decide), fun z => absurd z (by show ¬ (28 : Int) = 24; decide), fun _ => ⟨?_, ?_, ?_⟩, fun z => absurd z (by show ¬ (28 : Int) = 3; decide)⟩ ⟨Int.le_refl _, hk⟩ fun w Γ' x' G' => ⟨eF_28 rfl ?_, fun z => absurd z (by show ¬ ((28 : Int) = 3 ∨ (28 : Int) = 6 ∨ (28 : Int) = 7); decide), fun z => absurd z (by show ¬ (28 : Int) = 7; decide), fun z => absurd z (by show ¬ ((28 : Int) = 6 ∨ (28 : Int) = 7 ∨ (28 : Int) = 21); decide), fun j z => z.elim⟩
  · rw [e3, ab_mud, if_neg (by omega), e2, ab_mud, if_neg (by omega)]; exact q5
  · rw [e3, ab_mud, if_pos ⟨rfl, rfl⟩]
  · rw [e3, ab_mud, if_neg (by omega), e2, ab_mud, if_pos ⟨rfl, rfl⟩]
  · obtain ⟨h1, h2, h3⟩ := hr w
    rw [b130, x'.cr]
    have := x'.ddn
    refine ⟨h1, h2, by show x < dd; omega, ?_⟩
    show ν3 120 (16 * g + x) = ν3 134 y
    rw [f 120 _ (by omega) (by omega), f 134 _ (by omega) (by omega), v.nf 120 _ (by omega), v.tb 134 _ (by omega)]
    exact h3
/-- what the name's meaning r is when the word t follows -/
def nmR (μ : ab_m) (g w t r : Int) : Prop := (t ≠ 91 → t ≠ 40 → ∃ i, 0 ≤ i ∧ i < μ 109 27 ∧ μ 126 i = 0 ∧ r = μ 127 i) ∧ (t = 91 → ∃ i, 0 ≤ i ∧ i < μ 109 27 ∧ μ 126 i = 1 ∧ r = μ 127 i) ∧ (t = 40 → 0 ≤ r ∧ r < μ 109 32 ∧ μ 120 (16 * g + r) = μ 134 w)
set_option maxHeartbeats 1000000 in
theorem c_rd_readNamed (hJ : J K W g s0 μ0 μ s) (hm : s.1 = 1) (hk : K s.2.1 = 1) (hF : ∀ ν', rFt g μ0 ν' → P 0 ν') (hN : ∀ ν' s', J K W g s0 μ0 ν' s' ∧ aMs W s' < aMs W s → P 0 ν') : jj_mM_readNamed X (d + 5) 0 (ab_la [109]) [] μ P := by
  obtain ⟨Γ, F, dd, Ln, G, hO, hZ⟩ := hJ.get
  have v0 := hJ.v0 hO
  have at0 := hJ.at'
  have room := hJ.room hO
  have len := hJ.len
  have W3 := hJ.i.kk.2.1
  have hp := hJ.i.w.m1 (Or.inl hm)
  have a0 : 0 ≤ s.2.1 ∧ s.2.1 < 3002 := by omega
  have l1 := aK_lt hJ.i.kk at0.1 at0.2.2 hk (by decide)
  have a1 : 0 ≤ s.2.1 + 1 ∧ s.2.1 + 1 < 3002 := by omega
  have hq0 : hQ s = 0 := by unfold hQ; rw [hp.h0, if_neg (by omega)]; rfl
  have sq0 : sQ F s = sP F s.2.2.2 := by unfold sQ; rw [if_neg (by omega)]
  -- behind the name's meaning
  have s80 : ∀ l t r, l 0 = 109 → l 1 = s.2.1 → l 2 = t → K (s.2.1 + 1) = t → (t = 61 ∨ t = 91 ∨ t = 40) → (μ 109 22 = 1 → nmR μ g s.2.1 t r) → jj_mM_readNamed X (d + 5) 80 l [(0, r)] μ P := by
    intro l t r l0 l1' l2 kt ht hr
    have tn : t ≠ 0 := by omega
    have lW2 := aK_lt hJ.i.kk a1.1 l1 kt tn
    have a2 : 0 ≤ s.2.1 + 1 + 1 ∧ s.2.1 + 1 + 1 < 3002 := by omega
    refine bk_mM_readNamed_80 l0 ⟨fun _ => ?_, fun z => by rw [v0.md] at z; omega⟩
    simp only [l1', l2]
    refine c_V_begun hJ.i v0 (fun w => by have := room w; omega) (by decide) fun ν1 v1 _ _ ν4 e4 => ?_
    have v4 := v1.fa1 a0 e4
    refine ⟨fun n61 => ?_, fun y61 ν5 e5 => ?_⟩
    · refine c_V_takeOpen hJ.i v4 a1 (fun _ ν5 v5 => ⟨fun _ => ⟨fun n91 => ?_, fun y91 => ?_⟩, fun w => absurd w (by decide)⟩) (fun ν1 f1 => ⟨fun w => absurd rfl w, fun _ => hF ν1 f1⟩)
      · -- a call
        have y40 : t = 40 := by omega
        subst y40
        refine c_mM_push (by rw [v5.ln]; omega) fun ν8 m8 => ?_
        have ln8 : ab_w (ν8 109 38 - 1) = s.2.2.2.length := by rw [m8.2.1, v5.ln, ab_wi (by omega) (by omega)]; omega
        rw [ln8]
        refine ⟨by omega, fun ν11 e11 => ?_⟩
        have ln11 : ab_w (ν11 109 38 - 1) = s.2.2.2.length := by rw [e11, ab_mud, if_neg (by omega)]; exact ln8
        rw [ln11]
        refine ⟨by omega, fun ν12 e12 => ?_⟩
        have v12 := v5.put28 hO (Int.le_refl _) m8 e11 e12 (fun w => (hr w).2.2 rfl)
        refine bk_mM_beginCall_0 rfl ?_
        rw [v12.at', v12.Kk hJ.i]
        refine ⟨a2, fun n41 ν13 e13 => ?_, fun y41 => ?_⟩
        · refine hN _ _ (V.toX (v12.fm e13) hJ hO hZ hm ?_ (by decide) (Or.inr ⟨rfl, rfl, rfl⟩) rfl (if_neg (by show ¬ (28 : Int) = 21; decide)).symm (by omega) (by omega) (by omega))
          have n41' : ¬ K (s.2.1 + 2) = 41 := by rw [show s.2.1 + 2 = s.2.1 + 1 + 1 by omega]; exact n41
          simp [aNext, aStat, hm, hk, kt, n41'] <;> omega
        · have y41' : K (s.2.1 + 2) = 41 := by rw [show s.2.1 + 2 = s.2.1 + 1 + 1 by omega]; exact y41
          have nxB : K (s.2.1 + 3) = 59 → aNext K s = some ((4, s.2.1 + 1 + 1 + 2, s.2.2.1, s.2.2.2), some (s.2.1, 0 + 2)) := fun k59 => by
            rw [show s.2.1 + 1 + 1 + 2 = s.2.1 + 4 by omega]
            simp [aNext, aStat, hm, hk, kt, y41', k59]
          have e47 : s.2.1 + 1 + 1 + 1 = s.2.1 + 3 := by omega
          refine c_V_endCall (p := s.2.2.2) (G := G) hJ hO hZ v12 rfl ⟨a2.1, by omega, y41⟩ a0 (by decide) (fun w => by have := room w; omega) (by show (0 : Int) ≤ 0; decide) len (fun p1 => ?_) (fun _ => ⟨by rw [hq0, hp.h0]; rfl, by rw [hp.h0]; decide⟩) (fun z => absurd rfl z) (fun _ k59 => nxB (by rw [← e47]; exact k59)) (fun p0 b hb => ?_) (fun x hx hxk => ?_) (fun z => absurd rfl z) (fun _ => ⟨sq0, hp.h0⟩) (fun _ => ?_) (fun _ => ?_) (fun w => (hO w).nm.nb) (Int.le_refl _) rfl hp.ne hF hN
          · have O := hO p1
            obtain ⟨x, ex⟩ := O.rest.some' (Or.inr (by omega))
            have k59 : K (s.2.1 + 3) = 59 := by
              by_cases z : K (s.2.1 + 3) = 59
              · exact z
              · exfalso
                simp [aNext, aStat, hm, hk, kt, y41', z] at ex
            exact O.cnt (c := 0) (by decide) (nxB k59)
          · have z : G s.2.1 = [] := (hZ p0).nw s.2.1 (Int.le_refl _)
            have hb : b ∈ G s.2.1 := hb
            rw [z] at hb
            cases hb
          · have := hp.k x hx; omega
          · have : (sW Ln s.2.1.toNat : Int) ≤ sW Ln (s.2.1 + 1 + 1 + 1).toNat := sW_at at0.1 (by omega)
            omega
          · have : (sW Ln s.2.1.toNat : Int) ≤ sW Ln (s.2.1 + 1 + 1 + 1).toNat := sW_at at0.1 (by omega)
            omega
      · subst y91
        refine c_V_push (e := ⟨25, 0, 0, 0⟩) (ex' := fun _ => False) hJ.i v5 (by omega) (Int.le_refl _) (fun ν' m => aM_n (m.kd v5.ln).1 (by decide)) (fun w ν' Γ' m x G' => ⟨eF_25 rfl ?_, fun z => absurd z (by decide), fun j z => z.elim⟩) fun ν6 v6 _ ν7 e7 => hN _ _ (V.toX (v6.fm e7) hJ hO hZ hm ?_ (by decide) (by decide) rfl rfl (by omega) (by omega) (by omega))
        · obtain ⟨i, i0, i1, i2, i3⟩ := (hr w).2.1 rfl
          rw [(m.kd v5.ln).2.1, i3]
          exact ((hO w).nm.nk i i0 i1).2.1 i2
        · simp [aNext, aStat, hm, hk, kt] <;> omega
    · subst y61
      have v5 := v4.fa1 a1 e5
      refine c_V_push (e := ⟨26, 0, 0, 0⟩) (ex' := fun _ => False) hJ.i v5 (by omega) (Int.le_refl _) (fun ν' m => aM_n (m.kd v5.ln).1 (by decide)) (fun w ν' Γ' m x G' => ⟨eF_26 rfl ?_, fun z => absurd z (by decide), fun j z => z.elim⟩) fun ν6 v6 _ ν7 e7 => hN _ _ (V.toX (v6.fm e7) hJ hO hZ hm ?_ (by decide) (by decide) rfl rfl (by omega) (by omega) (by omega))
      · obtain ⟨i, i0, i1, i2, i3⟩ := (hr w).1 (by decide) (by decide)
        have nk := ((hO w).nm.nk i i0 i1).1 i2
        have it := (hO w).nm.it
        rw [(m.kd v5.ln).2.1]
        rw [← i3] at nk
        refine ⟨nk.1, by omega, ?_⟩
        have ok := v5.ok (hO w) (by decide) x G' nk.2.2
        have fx : xS ν5 ν' g (μ 109 21 + (0 + 1)) 0 := ⟨fun j _ _ => m.1 115 _ (by omega) (by omega), fun j _ _ => m.1 116 _ (by omega) (by omega), fun c j _ => m.1 c j (by omega) (by omega), fun c j _ _ z1 z2 => by omega⟩
        exact (fx.x (fun _ _ _ => ⟨rfl, rfl, rfl, rfl, rfl⟩)).ok ⟨by have := room w; omega, Int.le_refl _⟩ (x.tr (by have := room w; omega) (Int.le_refl _)).r0 ok
      · simp [aNext, aStat, hm, hk, kt] <;> omega
  have s50 : ∀ l t, l 0 = 109 → l 1 = s.2.1 → l 2 = t → K (s.2.1 + 1) = t → (t = 61 ∨ t = 91 ∨ t = 40) → jj_mM_readNamed X (d + 5) 50 l [] μ P := by
    intro l t l0 l1' l2 kt ht
    refine bk_mM_readNamed_50 l0 ?_
    simp only [l1', l2]
    have ft : ∀ r ν', rFt g μ0 ν' → jj_mM_readNamed X (d + 5) 80 l [(0, r)] ν' P := fun r ν' f => bk_mM_readNamed_80 l0 ⟨fun z => absurd f.m5 z, fun _ => hF _ f⟩
    refine ⟨fun n40 => ⟨fun n91 => ?_, fun y91 => ?_⟩, fun y40 => ?_⟩
    · exact c_V_meaning hJ.i hO v0 a0 (fun r hr => s80 l t r l0 l1' l2 kt ht fun w => ⟨fun _ _ => hr w, fun z => absurd z n91, fun z => absurd z n40⟩) ft
    · exact c_V_meaning hJ.i hO v0 a0 (fun r hr => s80 l t r l0 l1' l2 kt ht fun w => ⟨fun z => absurd y91 z, fun _ => hr w, fun z => absurd z n40⟩) ft
    · exact c_V_meaningOfCall hJ.i hO v0 (by omega) a0 (fun r hr => s80 l t r l0 l1' l2 kt ht fun w => ⟨fun _ z => absurd y40 z, fun z => absurd (z.symm.trans y40) (by decide), fun _ => hr w⟩) ft
  refine bk_mM_readNamed_0 rfl ?_
  rw [v0.at', show ab_w (s.2.1 + 1) = s.2.1 + 1 from ab_wi (by omega) (by omega), v0.Kk hJ.i]
  refine ⟨a1, fun y => s50 _ (K (s.2.1 + 1)) rfl rfl rfl rfl (by omega), fun _ => ⟨fun y => s50 _ (K (s.2.1 + 1)) rfl rfl rfl rfl (by omega), fun _ => ⟨fun y => s50 _ (K (s.2.1 + 1)) rfl rfl rfl rfl (by omega), fun _ ν1 e1 => ?_⟩⟩⟩
  have v1 := v0.fa e1
  exact c_V_misfit hJ.i v1 a1 hF
end M50

