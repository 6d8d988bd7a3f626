/-! THE REFERENCE, part 51: statementDone -/
section M51
variable {X : jm_X} {d : Nat} {P : Int → ab_m → Prop} {K : Int → Int} {W g : Int} {s0 : aS} {μ0 μ ν ν' : ab_m} {s s' : aS} {Γ Γ' : tQ} {F F' : Int → List Int} {dd : Int} {Ln : Int → Nat} {G : Int → List Int} {a m o : Int} {p r : List aE} {kp k wv hh n dn : Int} {ss : List Int} {ex pd : Int → Prop} {q : Int} {e : aE}
/-- a jump that was told well -/
theorem tJ_mk {n0 y kd hv t : Int} (Gk : ∀ j, 0 ≤ j → j ≤ n0 → tQe Γ Γ' j) (hj : pj (tEv μ g dd) Γ n0 y kd hv) (tx : ν 115 (9000 * g + y) = μ 115 (9000 * g + y)) (hT : ν 116 (9000 * g + y) = t) (ht : y < t ∧ t ≤ n) (h1 : Γ'.1 t = tHj kd hv) (r1 : Γ'.2.2.2.1 t = Γ.2.2.2.1 n0) (no6 : 6 ∈ Γ'.2.1 t → 6 ∈ Γ.2.1 y) : tJ (tEv ν g dd) Γ' n y := by
  obtain ⟨j1, j2, j3, j4, j5⟩ := hj
  obtain ⟨g1, g2, g3, g4, g5⟩ := Gk y j1 (by omega)
  have eS : (tEv ν g dd).1 y = kd := by show ν 115 _ = kd; rw [tx]; exact j3
  unfold tJ tJt
  rw [eS, show (tEv ν g dd).2.1 y = t from hT]
  refine ⟨by omega, ht.2, by rw [g4, r1, j5], by rw [h1, g1, j4], Or.inr (Or.inl ⟨ht.1, fun z => ?_⟩)⟩
  rw [g2]; exact no6 z
theorem c_V_step2 {kd t h' : Int} {s1 : List Int} (hi : rI K W g μ0 μ s) (v : V g μ Γ dd ν a m o p kp k wv hh ss ex q) (hn : μ 109 22 = 1 → 0 ≤ μ 109 21 ∧ μ 109 21 + k < 9000) (hk : 0 ≤ k) (n30 : kd ≠ 30) (mv : μ 109 22 = 1 → tMv kd (tAr (tEv ν g dd) kd t) hh ss = some (h', s1)) (vk : μ 109 22 = 1 → ∀ Γ', x1 ν g Γ' dd p (μ 109 21 + k) hh ss (μ 109 32) (fun j => pN ν g q p.length j ∨ ex j) q → (∀ j, 0 ≤ j → j ≤ μ 109 21 → tQe Γ Γ' j) → tVk (tEv ν g dd) Γ' (μ 109 21 + k) kd t) (hP : ∀ ν' r, V g μ Γ dd ν' a m o p kp (k + 1) (wv + tPu kd) h' s1 (fun j => ex j ∨ (tGo kd ∧ j = μ 109 21 + k)) q → (∀ c j, ¬ (115 ≤ c ∧ c ≤ 117 ∧ j = 9000 * g + (μ 109 21 + k)) → ¬ (c = 109 ∧ j = 21) → ν' c j = ν c j) → (μ 109 22 = 1 → r = μ 109 21 + k ∧ ν' 109 21 = μ 109 21 + k + 1 ∧ ν' 115 (9000 * g + (μ 109 21 + k)) = kd ∧ ν' 116 (9000 * g + (μ 109 21 + k)) = t) → P r ν') : jj_mM_step X d 0 (ab_la [109, kd, t]) [] ν P := by
  rcases hi.p01 with h0 | h1
  · exact c_mM_step0 (by rw [v.ps]; exact h0) (hP ν 0 (v.zero (by omega)) (fun _ _ _ _ => rfl) fun w => by omega)
  · obtain ⟨Γ', x, n, -⟩ := v.one h1
    refine c_mM_step (by rw [v.ps]; exact h1) (by rw [v.h20]; exact hi.g01) (by rw [n]; have := hn h1; omega) fun ν1 m1 => ?_
    have hn := hn h1
    obtain ⟨v1, e1, e2⟩ := v.step h1 m1 (by omega) (mv h1) (vk h1) n30 hk
    have mm := m1.1
    rw [v.h20, n] at mm
    rw [n]
    exact hP ν1 _ v1 mm fun _ => ⟨rfl, by rw [m1.2.1, n], e1, e2⟩
theorem c_V_tell {y t : Int} (hi : rI K W g μ0 μ s) (v : V g μ Γ dd ν a m o p kp k wv hh ss ex q) (hy : μ 109 22 = 1 → (0 ≤ y ∧ y < μ 109 21 + k ∧ y < 9000) ∧ (ν 115 (9000 * g + y) = 7 ∨ ν 115 (9000 * g + y) = 15 ∨ ν 115 (9000 * g + y) = 16 ∨ ν 115 (9000 * g + y) = 19) ∧ (pN ν g q p.length y ∨ ex y)) (hP : ∀ ν', V g μ Γ dd ν' a m o p kp k wv hh ss ex q → (∀ c j, ¬ (c = 116 ∧ j = 9000 * g + y) → ν' c j = ν c j) → (μ 109 22 = 1 → ν' 116 (9000 * g + y) = t) → P 0 ν') : jj_mM_tell X d 0 (ab_la [109, y, t]) [] ν P := by
  refine c_mM_tell (by rw [v.h20]; exact hi.g01) (fun w => ?_) (fun w => ?_) fun w ν' f e => ?_
  · rw [v.ps] at w; have := (hy w).1; omega
  · rw [v.ps] at w; exact hP ν v (fun _ _ _ => rfl) fun z => absurd z w
  · rw [v.ps] at w
    rw [v.h20] at f e
    obtain ⟨h1, h2, h3⟩ := hy w
    exact hP ν' (v.tell (t := t) f h1 h2 h3) f fun _ => e
theorem sQ_m (h : s.1 ≠ 3) : sQ F s = sP F s.2.2.2 := by unfold sQ; rw [if_neg h]
theorem hQ_m (h : s.1 ≠ 3) : hQ s = hP s.2.2.2 := by unfold hQ; rw [if_neg h]; omega
/-- the entry on top of statements goes, the mode stays -/
theorem V.toD (v : V g μ Γ dd ν s.2.1 4 o r kp k wv 0 (sP F r) (fun _ => False) (-1)) (hJ : J K W g s0 μ0 μ s) (hO : μ 109 22 = 1 → rO K W g μ s Γ F dd Ln) (hZ : μ 109 22 = 0 → rZ K W s0 μ s G) (hm : s.1 = 4) (hs : s.2.2.2 = e :: r) (ek : e.1 = 4 ∨ e.1 = 5 ∨ e.1 = 6) (en : aNext K s = some ((s.1, s.2.1, s.2.2.1, r), none)) (k0 : 0 ≤ k ∧ k ≤ 1) (wv0 : wv = 0) (hkp : (r.length : Int) ≤ kp) : J K W g s0 μ0 ν (s.1, s.2.1, s.2.2.1, r) ∧ aMs W (s.1, s.2.1, s.2.2.1, r) < aMs W s := by
  have hp := hJ.i.w.m1 (Or.inr hm)
  rw [hs] at hp
  have hr := hp.tail (by omega)
  refine V.fin (s' := (s.1, s.2.1, s.2.2.1, r)) (kp := kp) (k := k) (wv := wv) (o := o) ?_ hJ hO hZ en (fun w => by have w : s.1 = 3 := w; omega) k0.1 (fun w => ?_) (fun w => ?_) (fun w => ?_) (by rw [hs]; exact (bK_cons hr.ne).symm) hr.ne
  · have e1 : hQ (s.1, s.2.1, s.2.2.1, r) = 0 := by rw [hQ_m (by show s.1 ≠ 3; omega)]; exact hr.h0
    have e2 : sQ F (s.1, s.2.1, s.2.2.1, r) = sP F r := sQ_m (by show s.1 ≠ 3; omega)
    rw [e1, e2]
    show V _ _ _ _ _ s.2.1 s.1 _ r _ _ _ _ _ _ (qP r)
    rw [hr.qm, hm]
    exact v
  · show k + pEn r + (sW Ln s.2.1.toNat : Int) ≤ pEn s.2.2.2 + 2 * (s.2.1 - s.2.1) + (sW Ln s.2.1.toNat : Int)
    rw [hs, pEn_cons, if_pos (by omega)]; omega
  · show 2 * wv + pDo s.2.2.2 + 2 * (sW Ln s.2.1.toNat : Int) ≤ s.2.1 - s.2.1 + pDo r + 2 * (sW Ln s.2.1.toNat : Int)
    rw [hs, pDo_cons, if_neg (by omega), if_neg (by omega)]; omega
  · have nb := (hO w).nm.nb
    rw [hs] at nb
    unfold nB at nb
    rw [if_neg (by omega)] at nb
    exact v.nb nb hkp
set_option maxHeartbeats 2000000 in
theorem c_rd_statementDone (hJ : J K W g s0 μ0 μ s) (hm : s.1 = 4) (hF : ∀ ν', rFt g μ0 ν' → P 0 ν') (hN : ∀ ν' s', J K W g s0 μ0 ν' s' ∧ aMs W s' < aMs W s → P 0 ν') : jj_mM_statementDone X (d + 3) 0 (ab_la [109]) [] μ P := by
  obtain ⟨Γ, F, dd, Ln, G, hO, hZ⟩ := hJ.get
  have v0 := hJ.v0 hO
  have at0 := hJ.at'
  have room := hJ.room hO
  have len := hJ.len
  have W3 := hJ.i.kk.2.1
  have hp := hJ.i.w.m1 (Or.inr hm)
  have a0 : 0 ≤ s.2.1 ∧ s.2.1 < 3002 := by omega
  have g01 := hJ.i.g01
  cases hs : s.2.2.2 with
  | nil => rw [hs] at hp; exact hp.elim
  | cons e r =>
    rw [hm] at v0
    rw [sQ_m (by omega), hQ_m (by omega), hs] at v0
    rw [hs] at hp len
    rw [hp.h0, hp.qm] at v0
    have ke := hp.k e (List.mem_cons_self ..)
    have ll : ((e :: r).length : Int) = r.length + 1 := by simp
    have w38 : ab_w (μ 109 38 - 1) = r.length := by rw [v0.ln, ll, ab_wi (by omega) (by omega)]; omega
    have b3 : (0 : Int) ≤ r.length ∧ (r.length : Int) < 3010 := by omega
    have k129 : μ 129 r.length = e.1 := v0.ap.1.1
    have kp0 : ((e :: r).length : Int) = s.2.2.2.length := by rw [hs]
    have O1 : μ 109 22 = 1 → eF μ (tEv μ g dd) Γ (μ 109 21) e r r.length ∧ Γ.1 (μ 109 21) = 0 ∧ Γ.2.1 (μ 109 21) = sP F (e :: r) ∧ Γ.2.2.2.1 (μ 109 21) = μ 109 32 ∧ cE μ g (tEv μ g dd) Γ (μ 109 21) ((r.length : Int) + 1) (-1) ∧ 0 ≤ μ 109 21 ∧ μ 109 21 + 1500 ≤ 9000 := fun w => by
      have x := (hO w).x
      have c1 := x.chn
      rw [hs, hp.qm, ll] at c1
      have e1 := x.ent
      rw [hs] at e1
      refine ⟨e1.1, ?_, ?_, x.cr, c1, room w⟩
      · rw [x.ch, hQ_m (by omega), hs]; exact hp.h0
      · rw [x.cs, sQ_m (by omega), hs]
    have no6 : ¬ 6 ∈ sP F (e :: r) := fun z => hp.tl (sP6 z)
    refine bk_mM_statementDone_0 rfl ?_
    rw [w38, k129, v0.at', v0.Kk hJ.i]
    -- a jump at the entry was told where we stand, and the entry goes
    have fi : ∀ (ν1 : ab_m) (dec : Int), (e.1 = 4 ∨ e.1 = 5) → aNext K s = some ((s.1, s.2.1, s.2.2.1, r), none) → V g μ Γ dd ν1 s.2.1 4 (μ 109 46) (e :: r) (e :: r).length 0 0 0 (sP F (e :: r)) (fun _ => False) (-1) → (μ 109 22 = 1 → ν1 116 (9000 * g + μ 130 r.length) = μ 109 21) → jj_mM_step X (d + 2) 0 (ab_la [109, 17, 0]) [] ν1 (fun r5 μ4 => ∀ μ7, μ7 = ab_mu μ4 109 38 (ab_w ((μ4 109 38) - 1)) → ∀ μ8, μ8 = ab_mu μ7 109 41 (ab_w ((μ7 109 41) - dec)) → P 0 μ8) := by
      intro ν1 dec ek en v1 t1
      have hso : sP F (e :: r) = 7 :: sP F r := by rw [sP_cons, if_neg (by omega)]; unfold sO; rw [if_pos (by omega)]; rfl
      refine c_V_step2 hJ.i v1 (fun w => by have := room w; omega) (by decide) (by decide) (h' := 0) (s1 := sP F r) (fun _ => by rw [hso]; rfl) (fun _ _ _ _ => tVk_n (by decide)) fun ν4 r4 v4 f4 e4 ν7 e7 ν8 e8 => ?_
      have v4' := v4.more (ex' := fun _ => False) fun _ _ _ _ j _ _ z => z.elim (fun z => z.elim) fun z => absurd z.1 (by unfold tGo; decide)
      have w4 : ab_w (ν4 109 38 - 1) = r.length := by rw [v4.ln, ll, ab_wi (by omega) (by omega)]; omega
      rw [w4] at e7
      have v7 := v4'.pop (ν' := ν7) (kp' := r.length) (fun c j z => by rw [e7, ab_mud, if_neg (by omega)]) (by rw [e7, ab_mud, if_pos ⟨rfl, rfl⟩]) (by omega)
      have v7' := v7.more (ex' := fun _ => False) fun w Γ' x Gk j j0 j1 z => Or.inr (by
        have z : pE ν4 g (-1) r.length j := z.elim (fun z => z.elim) id
        obtain ⟨o1, o2, o3, o4, o5, o6⟩ := O1 w
        have k4 : ν4 129 r.length = e.1 := v4.ap.1.1
        have z : j = ν4 130 r.length := by
          unfold pE at z
          rw [k4] at z
          omega
        have p4 : ν4 130 r.length = μ 130 r.length := v4.kp _ (by omega) (by omega)
        rw [p4] at z
        subst z
        have gn := Gk (μ 109 21) o6.1 (Int.le_refl _)
        have T7 : (0 ≤ μ 130 r.length ∧ μ 130 r.length < μ 109 21) → ν7 116 (9000 * g + μ 130 r.length) = μ 109 21 := fun y => by
          rw [e7, ab_mud, if_neg (by omega), f4 116 _ (by omega) (by omega)]
          exact t1 w
        rcases ek with ek | ek
        · have f := o1.f4 ek
          exact tJ_mk Gk f (v7.tx _ f.1 f.2.1).1 (T7 ⟨f.1, f.2.1⟩) ⟨f.2.1, by omega⟩ (by rw [gn.1, o2]; rfl) gn.2.2.2.1 (fun z => absurd (by rw [gn.2.1, o3] at z; exact z) no6)
        · have f := o1.f5 ek
          exact tJ_mk Gk f (v7.tx _ f.1 f.2.1).1 (T7 ⟨f.1, f.2.1⟩) ⟨f.2.1, by omega⟩ (by rw [gn.1, o2]; rfl) gn.2.2.2.1 (fun z => absurd (by rw [gn.2.1, o3] at z; exact z) no6))
      have v8 := v7'.f1 e8 (Or.inl rfl)
      exact hN _ _ (V.toD v8 hJ hO hZ hm hs (by omega) en (by omega) rfl (Int.le_refl _))
    have tl0 : ∀ {P0 : Int → ab_m → Prop}, (e.1 = 4 ∨ e.1 = 5) → (∀ ν1, V g μ Γ dd ν1 s.2.1 4 (μ 109 46) (e :: r) (e :: r).length 0 0 0 (sP F (e :: r)) (fun _ => False) (-1) → (μ 109 22 = 1 → ν1 116 (9000 * g + μ 130 r.length) = μ 109 21) → P0 0 ν1) → jj_mM_tell X (d + 2) 0 (ab_la [109, μ 130 r.length, μ 109 21]) [] μ P0 := by
      intro P0 ek hP0
      refine c_V_tell hJ.i v0 (fun w => ?_) fun ν1 v1 _ t1 => hP0 ν1 v1 t1
      obtain ⟨o1, o2, o3, o4, o5, o6⟩ := O1 w
      have pn : pN μ g (-1) ((e :: r).length) (μ 130 r.length) := ⟨r.length, by omega, by omega, Or.inl ⟨by rw [k129]; omega, rfl⟩⟩
      rcases ek with ek | ek
      · have f := o1.f4 ek
        exact ⟨⟨f.1, by have := f.2.1; omega, by have := f.2.1; omega⟩, Or.inr (Or.inl f.2.2.1), Or.inl pn⟩
      · have f := o1.f5 ek
        exact ⟨⟨f.1, by have := f.2.1; omega, by have := f.2.1; omega⟩, Or.inr (Or.inr (Or.inl f.2.2.1)), Or.inl pn⟩
    refine ⟨b3, ⟨fun e4 => ⟨a0, fun n13 => ⟨b3, tl0 (Or.inl e4) fun ν1 v1 t1 => fi ν1 1 (Or.inl e4) ?_ v1 t1⟩, fun y13 => ?_⟩, fun e5 => ⟨b3, tl0 (Or.inr e5) fun ν1 v1 t1 => fi ν1 2 (Or.inr e5) ?_ v1 t1⟩, fun e6 => ⟨b3, ?_⟩, fun e7 => ⟨a0, fun y21 ν55 e55 => ?_, fun n21 => c_V_misfit hJ.i v0 a0 hF⟩, trivial⟩, fun eo ν1 e1 => ?_⟩
    · simp [aNext, aDone, hm, hs, aTop, e4, n13]
    · -- ELSE
      have hso : sP F (e :: r) = 7 :: sP F r := by rw [sP_cons, if_neg (by omega)]; unfold sO; rw [if_pos (by omega)]; rfl
      refine c_V_opens hJ.i v0 a0 (fun ν11 v11 => ⟨fun _ ν14 e14 => ?_, fun w => absurd w (by decide)⟩) (fun ν1 f1 => ⟨fun w => absurd rfl w, fun _ => hF ν1 f1⟩)
      have v14 := v11.fa1 a0 e14
      refine c_V_step2 hJ.i v14 (fun w => by have := room w; omega) (by decide) (by decide) (h' := 0) (s1 := sP F (e :: r)) (fun _ => by rw [hso]; rfl) (fun _ _ _ _ => tVk_n (by decide)) fun ν15 r16 v15 f15 e15 => ⟨b3, ?_⟩
      have p15 : ν15 130 r.length = μ 130 r.length := v15.kp _ (by omega) (by omega)
      rw [p15]
      refine c_V_tell hJ.i v15 (fun w => ?_) fun ν18 v18 f18 t18 => ⟨b3, fun ν21 e21 => ⟨b3, fun ν22 e22 ν23 e23 => ?_⟩⟩
      · obtain ⟨o1, o2, o3, o4, o5, o6⟩ := O1 w
        have f := o1.f4 e4
        refine ⟨⟨f.1, by have := f.2.1; omega, by have := f.2.1; omega⟩, Or.inr (Or.inl (by rw [(v15.tx _ f.1 f.2.1).1]; exact f.2.2.1)), Or.inl ⟨r.length, by omega, by omega, Or.inl ⟨by rw [v15.ap.1.1]; omega, p15.symm⟩⟩⟩
      · have vh := v18.pop (ν' := ab_mu ν18 109 38 r.length) (kp' := r.length) (fun c j z => by rw [ab_mud, if_neg (by omega)]) (by rw [ab_mud, if_pos ⟨rfl, rfl⟩]) (by omega)
        have vh' := vh.more (ex' := fun j => j = μ 109 21 + 0) fun w Γ' x Gk j j0 j1 z => by
          rcases z with (z | z) | z
          · exact z.elim
          · exact Or.inl z.2
          · refine Or.inr ?_
            obtain ⟨o1, o2, o3, o4, o5, o6⟩ := O1 w
            have k18 : ν18 129 r.length = e.1 := v18.ap.1.1
            have p18 : ν18 130 r.length = μ 130 r.length := v18.kp _ (by omega) (by omega)
            have z : j = μ 130 r.length := by
              unfold pE at z
              rw [k18, p18] at z
              omega
            subst z
            have f := o1.f4 e4
            refine tJ_mk (t := μ 109 21 + (0 + 1)) Gk f (vh.tx _ f.1 f.2.1).1 ?_ ⟨by have := f.2.1; omega, Int.le_refl _⟩ (by rw [x.ch]; rfl) (by rw [x.cr, o4]) (fun z => absurd (by rw [x.cs] at z; exact z) no6)
            rw [ab_mud, if_neg (by omega), t18 w, (e15 w).2.1]; omega
        have f22 : ∀ c j : Int, ¬ (129 ≤ c ∧ c ≤ 133 ∧ j = r.length) → ν22 c j = ν18 c j := fun c j z1 => by rw [e22, ab_mud, if_neg (by omega), e21, ab_mud, if_neg (by omega)]
        have v22 := vh'.put (e := ⟨5, 0, 0, 0⟩) (ν' := ν22) (ex' := fun _ => False) (kp' := r.length) (fun c j z1 z2 => by rw [f22 c j z1, ab_mud, if_neg (by omega)]) (by rw [f22 109 38 (by omega), v18.ln, ll]) (aM_n (by rw [e22, ab_mud, if_neg (by omega), e21, ab_mud, if_pos ⟨rfl, rfl⟩]) (by decide)) ⟨by omega, Int.le_refl _⟩ fun w Γ' x G' => by
          obtain ⟨o1, o2, o3, o4, o5, o6⟩ := O1 w
          obtain ⟨q1, q2, q3, q4⟩ := e15 w
          have gn := G' (μ 109 21) o6.1 (Int.le_refl _)
          have b22 : ν22 130 r.length = μ 109 21 + 0 := by rw [e22, ab_mud, if_pos ⟨rfl, rfl⟩]; exact q1
          refine ⟨eF_5 rfl ?_, fun z => absurd z (by decide), fun z => absurd z (by decide), fun z => absurd z (by decide), fun j z => Or.inl (Or.inl ⟨Or.inr (by rw [e22, ab_mud, if_neg (by omega), e21, ab_mud, if_pos ⟨rfl, rfl⟩]), by rw [b22]; exact z⟩)⟩
          rw [b22]
          refine ⟨by omega, by omega, ?_, ?_, ?_⟩
          · show ν22 115 _ = 16
            rw [f22 115 _ (by omega), f18 115 _ (by omega)]; exact q3
          · rw [show μ 109 21 + 0 = μ 109 21 by omega, gn.1, o2]
          · rw [x.cr, show μ 109 21 + 0 = μ 109 21 by omega, gn.2.2.2.1, o4]
        have v23 := v22.fm e23
        have hr := hp.tail (by omega)
        have nx : aNext K s = some ((1, s.2.1 + 1, s.2.2.1, ⟨5, 0, 0, 0⟩ :: r), none) := by simp [aNext, aDone, hm, hs, aTop, e4, y13]
        have sl : (sW Ln s.2.1.toNat : Int) ≤ sW Ln (s.2.1 + 1).toNat := sW_at at0.1 (by omega)
        refine hN _ _ (V.fin (s' := (1, s.2.1 + 1, s.2.2.1, ⟨5, 0, 0, 0⟩ :: r)) (kp := r.length) (k := 1) (wv := 0) (o := μ 109 46) ?_ hJ hO hZ nx (fun w => absurd (show (1 : Int) = 3 from w) (by decide)) (by decide) (fun w => ?_) (fun w => ?_) (fun w => ?_) (by rw [hs]; exact (bK_cons hr.ne).trans (bK_cons hr.ne).symm) (List.cons_ne_nil _ _))
        · have hp5 : aPs (⟨5, 0, 0, 0⟩ :: r) := aPss (by decide) hr
          rw [hQ_m (s := (1, s.2.1 + 1, s.2.2.1, ⟨5, 0, 0, 0⟩ :: r)) (by show (1 : Int) ≠ 3; decide), sQ_m (s := (1, s.2.1 + 1, s.2.2.1, ⟨5, 0, 0, 0⟩ :: r)) (by show (1 : Int) ≠ 3; decide)]
          show V _ _ _ _ _ (s.2.1 + 1) 1 _ (⟨5, 0, 0, 0⟩ :: r) _ _ _ (hP (⟨5, 0, 0, 0⟩ :: r)) (sP F (⟨5, 0, 0, 0⟩ :: r)) _ (qP (⟨5, 0, 0, 0⟩ :: r))
          rw [hp5.h0, hp5.qm, show sP F (⟨5, 0, 0, 0⟩ :: r) = sP F (e :: r) by rw [hso]; rfl]
          exact v23
        · show 1 + pEn (⟨5, 0, 0, 0⟩ :: r) + (sW Ln s.2.1.toNat : Int) ≤ pEn s.2.2.2 + 2 * (s.2.1 + 1 - s.2.1) + (sW Ln (s.2.1 + 1).toNat : Int)
          rw [hs, pEn_cons, pEn_cons, if_pos (by decide), if_pos (by omega)]; omega
        · show 2 * 0 + pDo s.2.2.2 + 2 * (sW Ln s.2.1.toNat : Int) ≤ s.2.1 + 1 - s.2.1 + pDo (⟨5, 0, 0, 0⟩ :: r) + 2 * (sW Ln (s.2.1 + 1).toNat : Int)
          rw [hs, pDo_cons, pDo_cons, if_neg (by omega), if_neg (by omega), if_neg (by decide), if_neg (by decide)]; omega
        · have nb := (hO w).nm.nb
          rw [hs] at nb
          unfold nB at nb
          rw [if_neg (by omega)] at nb
          exact nB_cons (by decide) (v23.nb nb (Int.le_refl _))
    · simp [aNext, aDone, hm, hs, aTop, e5]
    · -- the end of a WHILE
      have hso : sP F (e :: r) = 4 :: sP F r := by rw [sP_cons, if_neg (by omega)]; unfold sO; rw [if_neg (by omega), if_pos e6]; rfl
      have hr := hp.tail (by omega)
      have nx : aNext K s = some ((s.1, s.2.1, s.2.2.1, r), none) := by simp [aNext, aDone, hm, hs, aTop, e6]
      refine c_V_step2 hJ.i v0 (fun w => by have := room w; omega) (by decide) (by decide) (h' := 0) (s1 := sP F r) (fun _ => by rw [hso]; rfl) (fun _ _ _ _ => tVk_n (by decide)) fun ν42 r43 v42 f42 e42 => ⟨b3, ?_⟩
      have v42' := v42.more (ex' := fun _ => False) fun w Γ' x Gk j _ _ z => Or.inr (by
        have z : j = μ 109 21 + 0 := z.elim (fun z => z.elim) fun z => z.2
        subst z
        obtain ⟨o1, o2, o3, o4, o5, o6⟩ := O1 w
        obtain ⟨q1, q2, q3, q4⟩ := e42 w
        obtain ⟨t1, t2, t3, t4, t5⟩ := o1.f6 (Or.inl e6)
        have gA := Gk _ t1 (by omega)
        have gn := Gk (μ 109 21) o6.1 (Int.le_refl _)
        unfold tJ tJt
        rw [show (tEv ν42 g dd).1 (μ 109 21 + 0) = 20 from q3, show (tEv ν42 g dd).2.1 (μ 109 21 + 0) = μ 130 r.length from q4]
        refine ⟨t1, by omega, ?_, ?_, Or.inl ⟨by omega, ?_⟩⟩
        · rw [gA.2.2.2.1, t5, show μ 109 21 + 0 = μ 109 21 by omega, gn.2.2.2.1]
        · rw [gA.1, t4, show μ 109 21 + 0 = μ 109 21 by omega, gn.1, o2]; rfl
        · show ν42 115 _ = 18
          rw [(v42.tx _ t1 t2).1]; exact t3)
      have p42 : ∀ c j, 129 ≤ c → c ≤ 133 → ν42 c j = μ c j := fun c j z1 z2 => f42 c j (by omega) (by omega)
      rw [p42 131 _ (by decide) (by decide)]
      refine c_V_tell hJ.i v42' (fun w => ?_) fun ν45 v45 f45 t45 => ⟨b3, ?_⟩
      · obtain ⟨o1, o2, o3, o4, o5, o6⟩ := O1 w
        have f := o1.g6 e6
        exact ⟨⟨f.1, by have := f.2.1; omega, by have := f.2.1; omega⟩, Or.inr (Or.inr (Or.inr (by rw [(v42.tx _ f.1 f.2.1).1]; exact f.2.2.1))), Or.inl ⟨r.length, by omega, by omega, Or.inr (Or.inl ⟨by rw [v42.ap.1.1]; exact e6, (p42 131 _ (by decide) (by decide)).symm⟩)⟩⟩
      · have fin : ∀ ν48 ν51 ν52, ν51 = ab_mu ν48 109 38 r.length → ν52 = ab_mu ν51 109 41 (ab_w (ν51 109 41 - 1)) → V g μ Γ dd ν51 s.2.1 4 (μ 109 46) r r.length (0 + 1) (0 + tPu 20) 0 (sP F r) (fun _ => False) (-1) → P 0 ν52 := fun ν48 ν51 ν52 e51 e52 v51 => hN _ _ (V.toD (v51.f1 e52 (Or.inl rfl)) hJ hO hZ hm hs (by omega) nx (by omega) rfl (Int.le_refl _))
        have w45 : ∀ ν48 : ab_m, ν48 109 38 = (e :: r).length → ab_w (ν48 109 38 - 1) = r.length := fun ν48 z => by rw [z, ll, ab_wi (by omega) (by omega)]; omega
        rcases hJ.i.p01 with p0 | p1
        · refine c_mM_tellChain (L := []) (by rw [v45.h20]; exact g01) (fun z => by rw [v45.ps] at z; omega) (fun _ ν51 e51 ν52 e52 => ?_) fun z => by rw [v45.ps] at z; omega
          rw [w45 ν45 v45.ln] at e51
          exact fin ν45 ν51 ν52 e51 e52 ((v45.pop (kp' := r.length) (fun c j z => by rw [e51, ab_mud, if_neg (by omega)]) (by rw [e51, ab_mud, if_pos ⟨rfl, rfl⟩]) (by omega)).zero (by omega))
        · obtain ⟨o1, o2, o3, o4, o5, o6⟩ := O1 p1
          obtain ⟨Γa, xa, na, Ga, wa⟩ := v45.one p1
          have k45 : ν45 129 r.length = 6 := by rw [v45.ap.1.1]; exact e6
          obtain ⟨L, mL, hL⟩ := xa.chn.lo r.length (by omega) (by omega) (Or.inl k45)
          have fB := o1.g6 e6
          refine c_mM_tellChain (L := L) (by rw [v45.h20]; exact g01) (fun _ => by rw [v45.h20]; exact mL) (fun z => absurd (by rw [v45.ps]; exact p1) z) fun _ ν48 f48 t48 ν51 e51 ν52 e52 => ?_
          rw [v45.h20] at f48 t48
          have fo : ∀ c j, c ≠ 116 → ν48 c j = ν45 c j := fun c j z => f48 c j fun y => z y.1
          rw [w45 ν48 (by rw [fo 109 38 (by decide)]; exact v45.ln)] at e51
          have vh := v45.pop (ν' := ab_mu ν45 109 38 r.length) (kp' := r.length) (fun c j z => by rw [ab_mud, if_neg (by omega)]) (by rw [ab_mud, if_pos ⟨rfl, rfl⟩]) (by omega)
          have ex1 : ∀ y ∈ L, False ∨ pE ν45 g (-1) r.length y := fun y hy => Or.inr (Or.inr (Or.inr (Or.inr (Or.inl ⟨Or.inl k45, L, mL, hy⟩))))
          have v51 := vh.chain (ν' := ν51) (L := L) (fun c j z => by
            rw [e51, ab_mud, ab_mud]
            split
            · rfl
            · exact f48 c j z) (fun y hy => ⟨ex1 y hy, by
                have := (hL y hy).1.2.2.1
                rw [ab_mud, if_neg (by omega), show ν45 115 (9000 * g + y) = 24 from this]
                unfold tGo; decide, (hL y hy).1.1, by have := (hL y hy).1.2.1; omega⟩) (fun i L' i0 i1 ca y hy hyL => by
                have ca : cA ν45 g (-1) i L' := by
                  unfold cA at ca ⊢
                  rw [ab_mud, if_neg (by omega), ab_mud, if_neg (by omega), ab_mud, if_neg (by omega)] at ca
                  have mc : ∀ {L x}, mCh (ab_mu ν45 109 38 r.length) g L x → mCh ν45 g L x := fun m => m.same fun y _ => by rw [ab_mud, if_neg (by omega)]
                  rcases ca with ca | ca
                  · exact Or.inl ⟨ca.1, mc ca.2⟩
                  · exact Or.inr ⟨ca.1, ca.2.1, mc ca.2.2⟩
                by_cases k3 : ν45 129 i = 3
                · obtain ⟨L3, m3, h3⟩ := xa.chn.df i i0 (by omega) k3
                  rcases ca with ca | ca
                  · rw [ca.2.uniq m3] at hy
                    have a1 := (h3 y hy).2.2.1
                    have a2 := (hL y hyL).1.2.2.1
                    rw [a1] at a2
                    exact absurd a2 (by decide)
                  · have := ca.2.1; omega
                · have b1 := xa.chn.cLt ⟨by omega, by omega⟩ (Or.inl k45) i i0 i1 L' ca k3 y hy
                  have b2 := (hL y hyL).2.1
                  omega)
          refine fin ν48 ν51 ν52 e51 e52 (v51.more fun w Γ' x Gk j j0 j1 z => Or.inr ?_)
          have z : pE ν45 g (-1) r.length j := z.elim (fun z => z.elim) id
          have n1 : ν45 109 21 = μ 109 21 + (0 + 1) := na
          have gaa : ∀ j, 0 ≤ j → j ≤ μ 109 21 → tQe Γa Γ' j := fun j j0 j1 => by
            obtain ⟨a1, a2, a3, a4, a5⟩ := Ga j j0 j1
            obtain ⟨b1, b2, b3, b4, b5⟩ := Gk j j0 j1
            exact ⟨b1.trans a1.symm, b2.trans a2.symm, b3.trans a3.symm, b4.trans a4.symm, b5.trans a5.symm⟩
          have p45 : ν45 131 r.length = μ 131 r.length := by rw [f45 131 _ (by omega), p42 131 _ (by decide) (by decide)]
          have cases2 : j = μ 131 r.length ∨ j ∈ L := by
            unfold pE at z
            rw [k45] at z
            rcases z with z | z | z | ⟨-, L2, m2, h2⟩ | z
            · omega
            · rw [p45] at z; exact Or.inl z.2
            · omega
            · rw [m2.uniq mL] at h2; exact Or.inr h2
            · omega
          rcases cases2 with z | z
          · subst z
            refine tJ_mk (t := μ 109 21 + (0 + 1)) Gk fB (v51.tx _ fB.1 fB.2.1).1 ?_ ⟨by have := fB.2.1; omega, Int.le_refl _⟩ (by rw [x.ch]; rfl) (by rw [x.cr, o4]) (fun z => absurd (by rw [x.cs] at z; exact z) fun z => no6 (by rw [hso]; exact List.mem_cons_of_mem _ z))
            rw [e51, ab_mud, if_neg (by omega), f48 116 _ ?_, t45 p1, (e42 p1).2.1]
            · omega
            · rintro ⟨-, y, hy, ey⟩
              have : y = μ 131 r.length := by omega
              subst this
              have a1 := (hL _ hy).1.2.2.1
              have a2 : ν45 115 (9000 * g + μ 131 r.length) = 19 := by rw [(v45.tx _ fB.1 fB.2.1).1]; exact fB.2.2.1
              have a1 : ν45 115 (9000 * g + μ 131 r.length) = 24 := a1
              omega
          · have hy := hL j z
            have lt : j < μ 109 21 := by
              have a1 := hy.1.2.1
              have a2 : ν45 115 (9000 * g + j) = 24 := hy.1.2.2.1
              have a3 : ν45 115 (9000 * g + (μ 109 21 + 0)) = 20 := by rw [f45 115 _ (by omega)]; exact (e42 p1).2.2.1
              by_cases ej : j = μ 109 21 + 0
              · rw [ej, a3] at a2; omega
              · omega
            have pjm : pj (tEv ν45 g dd) Γa (μ 109 21) j 24 0 := ⟨hy.1.1, lt, hy.1.2.2.1, hy.1.2.2.2.1, by
              rw [hy.1.2.2.2.2, xa.cr, (Ga _ o6.1 (Int.le_refl _)).2.2.2.1, o4]⟩
            refine tJ_mk (μ := ν45) (t := μ 109 21 + (0 + 1)) gaa pjm ?_ ?_ ⟨by omega, Int.le_refl _⟩ (by rw [x.ch]; rfl) (by rw [x.cr, (Ga _ o6.1 (Int.le_refl _)).2.2.2.1, o4]) (fun z => absurd (by rw [x.cs] at z; exact z) fun z => no6 (by rw [hso]; exact List.mem_cons_of_mem _ z))
            · rw [e51, ab_mud, if_neg (by omega), fo 115 _ (by decide)]
            · rw [e51, ab_mud, if_neg (by omega), t48 j z, n1]
    · -- the test of a DO
      have hso : sP F (e :: r) = 5 :: sP F r := by rw [sP_cons, if_neg (by omega)]; unfold sO; rw [if_neg (by omega), if_neg (by omega), if_pos e7]; rfl
      have l1 := aK_lt hJ.i.kk at0.1 at0.2.2 y21 (by decide)
      have a1 : 0 ≤ s.2.1 + 1 ∧ s.2.1 + 1 < 3002 := by omega
      rw [show ab_w (s.2.1 + 1) = s.2.1 + 1 from ab_wi (by omega) (by omega)] at e55
      have v55 := v0.fa e55
      refine c_V_takeOpen hJ.i v55 a1 (fun k40 ν56 v56 => ⟨fun _ => ⟨b3, ?_⟩, fun w => absurd w (by decide)⟩) (fun ν1 f1 => ⟨fun w => absurd rfl w, fun _ => hF ν1 f1⟩)
      have lW2 := aK_lt hJ.i.kk a1.1 l1 k40 (by decide)
      have cont : ∀ ν59, V g μ Γ dd ν59 (s.2.1 + 1 + 1) 4 (μ 109 46) (e :: r) (e :: r).length 0 0 0 (sP F (e :: r)) (fun _ => False) r.length → jj_mM_step X (d + 2) 0 (ab_la [109, 22, 0]) [] ν59 (fun r63 μ62 => jj_mM_push X (d + 2) 0 (ab_la [109, 22, r63, 0]) [] μ62 (fun r66 μ65 => ∀ μ68, μ68 = ab_mu μ65 109 39 2 → P 0 μ68)) := by
        intro ν59 v59
        refine c_V_step2 hJ.i v59 (fun w => by have := room w; omega) (by decide) (by decide) (h' := 0) (s1 := 6 :: sP F r) (fun _ => by rw [hso]; rfl) (fun _ _ _ _ => tVk_n (by decide)) fun ν62 r63 v62 f62 e62 => ?_
        have v62' := v62.more (ex' := fun _ => False) fun _ _ _ _ j _ _ z => z.elim (fun z => z.elim) fun z => absurd z.1 (by unfold tGo; decide)
        refine c_V_push (e := ⟨22, 0, 0, 0⟩) (ex' := fun _ => False) hJ.i v62' (by omega) (Int.le_refl _) (fun ν' m => aM_n (m.kd v62'.ln).1 (by decide)) (fun w ν' Γ' m x G' => ⟨eF_n (by decide), fun z => absurd z (by decide), fun j z => z.elim⟩) fun ν65 v65 _ ν68 e68 => ?_
        have v68 := v65.fm e68
        have nx : aNext K s = some ((2, s.2.1 + 1 + 1, s.2.2.1, ⟨22, 0, 0, 0⟩ :: s.2.2.2), none) := by
          rw [show s.2.1 + 1 + 1 = s.2.1 + 2 by omega]
          simp [aNext, aDone, hm, hs, aTop, e7, y21, k40]
        have sl : (sW Ln s.2.1.toNat : Int) ≤ sW Ln (s.2.1 + 1 + 1).toNat := sW_at at0.1 (by omega)
        refine hN _ _ (V.fin (s' := (2, s.2.1 + 1 + 1, s.2.2.1, ⟨22, 0, 0, 0⟩ :: s.2.2.2)) (kp := (e :: r).length) (k := 1) (wv := 0) (o := μ 109 46) ?_ hJ hO hZ nx (fun w => absurd (show (2 : Int) = 3 from w) (by decide)) (by decide) (fun w => ?_) (fun w => ?_) (fun w => nB_cons (by decide) (v68.nb (hO w).nm.nb (by rw [hs]; omega))) (bK_cons (by rw [hs]; exact List.cons_ne_nil _ _)) (List.cons_ne_nil _ _))
        · rw [hQ_m (s := (2, s.2.1 + 1 + 1, s.2.2.1, ⟨22, 0, 0, 0⟩ :: s.2.2.2)) (by show (2 : Int) ≠ 3; decide), sQ_m (s := (2, s.2.1 + 1 + 1, s.2.2.1, ⟨22, 0, 0, 0⟩ :: s.2.2.2)) (by show (2 : Int) ≠ 3; decide)]
          show V _ _ _ _ _ (s.2.1 + 1 + 1) 2 _ (⟨22, 0, 0, 0⟩ :: s.2.2.2) _ _ _ (hP (⟨22, 0, 0, 0⟩ :: s.2.2.2)) (sP F (⟨22, 0, 0, 0⟩ :: s.2.2.2)) _ (qP (⟨22, 0, 0, 0⟩ :: s.2.2.2))
          rw [hs, qP_cons, if_pos rfl, sP_cons, if_pos rfl, hP_cons, hp.h0, hso, ll, show (r.length : Int) + 1 - 1 = r.length by omega]
          exact v68
        · show 1 + pEn (⟨22, 0, 0, 0⟩ :: s.2.2.2) + (sW Ln s.2.1.toNat : Int) ≤ pEn s.2.2.2 + 2 * (s.2.1 + 1 + 1 - s.2.1) + (sW Ln (s.2.1 + 1 + 1).toNat : Int)
          rw [pEn_cons, if_neg (by decide)]; omega
        · show 2 * 0 + pDo s.2.2.2 + 2 * (sW Ln s.2.1.toNat : Int) ≤ s.2.1 + 1 + 1 - s.2.1 + pDo (⟨22, 0, 0, 0⟩ :: s.2.2.2) + 2 * (sW Ln (s.2.1 + 1 + 1).toNat : Int)
          rw [pDo_cons, if_neg (by decide), if_neg (by decide)]; omega
      rcases hJ.i.p01 with p0 | p1
      · exact c_mM_tellChain (L := []) (by rw [v56.h20]; exact g01) (fun z => by rw [v56.ps] at z; omega) (fun _ => cont ν56 (v56.zero (by omega))) fun z => by rw [v56.ps] at z; omega
      · obtain ⟨o1, o2, o3, o4, o5, o6⟩ := O1 p1
        obtain ⟨Γa, xa, na, Ga, wa⟩ := v56.one p1
        have k56 : ν56 129 r.length = 7 := by rw [v56.ap.1.1]; exact e7
        obtain ⟨L, mL, hL⟩ := xa.chn.nx r.length (by omega) (by omega) (by omega) k56
        refine c_mM_tellChain (L := L) (by rw [v56.h20]; exact g01) (fun _ => by rw [v56.h20]; exact mL) (fun z => absurd (by rw [v56.ps]; exact p1) z) fun _ ν59 f59 t59 => cont ν59 ?_
        rw [v56.h20] at f59 t59
        have vq := v56.qch (q' := r.length) (ex' := fun j => j ∈ L) (fun i i0 _ _ => by omega) (fun j z => z.elim) (fun i i0 i1 _ k7 => by
          by_cases ei : i = r.length
          · subst ei; exact Or.inr fun L' m' j hj => by rw [m'.uniq mL] at hj; exact hj
          · exact Or.inl ei)
        have v59 := vq.chain (ν' := ν59) (L := L) f59 (fun y hy => ⟨hy, by
            have := (hL y hy).1.2.2.1
            rw [show ν56 115 (9000 * g + y) = 25 from this]
            unfold tGo; decide, (hL y hy).1.1, by have := (hL y hy).1.2.1; omega⟩) (fun i L' i0 i1 ca y hy hyL => by
            have s25 := (hL y hyL).1.2.2.1
            by_cases k3 : ν56 129 i = 3
            · obtain ⟨L3, m3, h3⟩ := xa.chn.df i i0 i1 k3
              rcases ca with ca | ca
              · rw [ca.2.uniq m3] at hy
                have a1 := (h3 y hy).2.2.1
                rw [a1] at s25
                exact absurd s25 (by decide)
              · have := ca.2.1; omega
            · by_cases ei : i = r.length
              · subst ei
                rcases ca with ca | ca
                · obtain ⟨L3, m3, h3⟩ := xa.chn.lo r.length i0 i1 (Or.inr k56)
                  rw [ca.2.uniq m3] at hy
                  have a1 := (h3 y hy).1.2.2.1
                  rw [a1] at s25
                  exact absurd s25 (by decide)
                · exact ca.1 rfl
              · have ca' : cA ν56 g (-1) i L' := ca.imp id fun z => ⟨by omega, z.2.1, z.2.2⟩
                have b1 := xa.chn.cLt ⟨by omega, by omega⟩ (Or.inr (Or.inl k56)) i i0 (by omega) L' ca' k3 y hy
                have b2 := (hL y hyL).2.1
                omega)
        refine v59.more fun w Γ' x Gk j j0 j1 z => Or.inr ?_
        have hy := hL j z
        have gaa : ∀ j, 0 ≤ j → j ≤ μ 109 21 → tQe Γa Γ' j := fun j j0 j1 => by
          obtain ⟨a1, a2, a3, a4, a5⟩ := Ga j j0 j1
          obtain ⟨b1, b2, b3, b4, b5⟩ := Gk j j0 j1
          exact ⟨b1.trans a1.symm, b2.trans a2.symm, b3.trans a3.symm, b4.trans a4.symm, b5.trans a5.symm⟩
        have pjm : pj (tEv ν56 g dd) Γa (μ 109 21) j 25 0 := by
          have := hy.1
          rw [show μ 109 21 + 0 = μ 109 21 by omega] at this
          exact this
        refine tJ_mk (μ := ν56) (t := μ 109 21 + 0) gaa pjm ?_ ?_ ⟨by have := hy.1.2.1; omega, Int.le_refl _⟩ (by rw [x.ch]; rfl) (by rw [x.cr, (Ga _ o6.1 (Int.le_refl _)).2.2.2.1, o4]) (fun z => absurd (by rw [x.cs] at z; exact z) no6)
        · exact f59 115 _ fun y => absurd y.1 (by decide)
        · rw [t59 j z, na]
    · -- in a list
      have v1 := v0.fm e1
      have nx : aNext K s = some ((1, s.2.1, s.2.2.1, s.2.2.2), none) := by
        have : e.1 ≠ 4 ∧ e.1 ≠ 5 ∧ e.1 ≠ 6 ∧ e.1 ≠ 7 := by omega
        simp [aNext, aDone, hm, hs, aTop, this]
      refine hN _ _ (V.fin (s' := (1, s.2.1, s.2.2.1, s.2.2.2)) (kp := (e :: r).length) (k := 0) (wv := 0) (o := μ 109 46) ?_ hJ hO hZ nx (fun w => absurd (show (1 : Int) = 3 from w) (by decide)) (by decide) (fun w => ?_) (fun w => ?_) (fun w => v1.nb (hO w).nm.nb (by rw [hs]; omega)) rfl (by rw [hs]; exact List.cons_ne_nil _ _))
      · rw [hQ_m (s := (1, s.2.1, s.2.2.1, s.2.2.2)) (by show (1 : Int) ≠ 3; decide), sQ_m (s := (1, s.2.1, s.2.2.1, s.2.2.2)) (by show (1 : Int) ≠ 3; decide)]
        show V _ _ _ _ _ s.2.1 1 _ s.2.2.2 _ _ _ (hP s.2.2.2) (sP F s.2.2.2) _ (qP s.2.2.2)
        rw [hs, hp.h0, hp.qm]
        exact v1
      · show 0 + pEn s.2.2.2 + (sW Ln s.2.1.toNat : Int) ≤ pEn s.2.2.2 + 2 * (s.2.1 - s.2.1) + (sW Ln s.2.1.toNat : Int)
        omega
      · show 2 * 0 + pDo s.2.2.2 + 2 * (sW Ln s.2.1.toNat : Int) ≤ s.2.1 - s.2.1 + pDo s.2.2.2 + 2 * (sW Ln s.2.1.toNat : Int)
        omega
end M51

/-! THE REFERENCE, part 52: readOperand -/
section M52
variable {X : jm_X} {d : Nat} {P : Int → ab_m → Prop} {K : Int → Int} {W g : Int} {s0 : aS} {μ0 μ ν ν' : ab_m} {s s' : aS} {Γ Γ' : tQ} {F F' : Int → List Int} {dd : Int} {Ln : Int → Nat} {G : Int → List Int} {a m o : Int} {p r : List aE} {kp k wv hh n dn : Int} {ss : List Int} {ex pd : Int → Prop} {q : Int} {e : aE}
/-- ors alone -/
theorem V.o117 {i x : Int} (v : V g μ Γ dd ν a m o p kp k wv hh ss ex q) (e : ν' = ab_mu ν 117 i x) (hi : 9000 * g ≤ i ∧ i < 9000 * g + 9000) : V g μ Γ dd ν' a m o p kp k wv hh ss ex q := by
  have f : ∀ c j, c ≠ 117 → ν' c j = ν c j := fun c j z => by rw [e, ab_mud, if_neg (by omega)]
  refine ⟨fun c j z => ?_, by rw [f 109 40 (by decide)]; exact v.at', by rw [f 109 39 (by decide)]; exact v.md, by rw [f 109 46 (by decide)]; exact v.op, by rw [f 109 38 (by decide)]; exact v.ln, v.ap.same fun c i _ _ _ _ => f c i (by omega), by rw [f 109 43 (by decide)]; exact v.ft, fun c j z => by rw [f c j (by omega)]; exact v.tb c j z, fun j => by rw [f 121 j (by decide)]; exact v.rs j, fun c j z => by rw [f c j (by omega)]; exact v.nf c j z, fun i x y => by rw [f 130 i (by decide)]; exact v.kp i x y, v.hf, fun j x y => by rw [f 115 _ (by decide), f 116 _ (by decide)]; exact v.tx j x y, fun w => ?_⟩
  · rw [e, ab_mud, if_neg (fun y => z (by unfold rdW; omega))]; exact v.fr c j z
  · obtain ⟨Γ', x, n, G, ww⟩ := v.one w
    refine ⟨Γ', (x.frame ⟨fun j _ _ => f 115 _ (by decide), fun j _ _ => f 116 _ (by decide), fun c j _ => f c j (by omega), fun c j _ _ _ _ => f c j (by omega)⟩).more fun j _ _ _ z => ?_, by rw [f 109 21 (by decide)]; exact n, G, ww⟩
    rcases z with z | z
    · exact Or.inl (Or.inl (pN.same x.chn (fun j _ _ _ => f 116 _ (by decide)) (fun i _ _ => ⟨f 129 i (by decide), f 130 i (by decide), f 131 i (by decide), f 132 i (by decide), f 133 i (by decide)⟩) z))
    · exact Or.inl (Or.inr z)
theorem oN_succ {n : Nat} {l : List Int} : oN n ++ 1 :: l = 1 :: (oN n ++ l) := by
  induction n with
  | zero => rfl
  | succ n ih => show 1 :: (oN n ++ 1 :: l) = 1 :: (1 :: (oN n ++ l)); rw [ih]
/-- BEGINs -/
theorem c_V_beginAll {bs : List Int} (hi : rI K W g μ0 μ s) (v : V g μ Γ dd ν a m o p kp k wv hh ss (fun _ => False) q) (ha : 0 ≤ a ∧ a < 3002) (hn : μ 109 22 = 1 → 0 ≤ μ 109 21 ∧ μ 109 21 + k + bs.length < 9000) (hk : 0 ≤ k) (hb : μ 109 22 = 1 → mBl ν bs (ν 135 a)) (hP : ∀ ν', V g μ Γ dd ν' a m o p kp (k + bs.length) (wv + bs.length) hh (oN bs.length ++ ss) (fun _ => False) q → P 0 ν') : jj_mM_beginAll X (d + 1) 0 (ab_la [109]) [] ν P := by
  refine bk_mM_beginAll_0 rfl ⟨by rw [v.at']; exact ha, ?_⟩
  rw [v.at']
  have g01 := hi.g01
  rcases hi.p01 with p0 | p1
  · have pz : ν 109 22 ≠ 1 := by rw [v.ps]; omega
    exact bk_mM_beginAll_10 rfl ⟨fun _ => hP ν (v.zero (by omega)), fun _ => ⟨fun _ => hP ν (v.zero (by omega)), fun z => absurd z pz⟩⟩
  · have hn := hn p1
    have key : ∀ (r : List Int) (l : ab_l) (ν1 : ab_m) (i : Int) (c : Nat), l 0 = 109 → l 1 = i → mBl ν1 r i → c + r.length = bs.length → V g μ Γ dd ν1 a m o p kp (k + c) (wv + c) hh (oN c ++ ss) (fun _ => False) q → jj_mM_beginAll X (d + 1) 10 l [] ν1 P := by
      intro r
      induction r with
      | nil =>
        intro l ν1 i c l0 l1 hb hc v1
        have hb : i = -1 := hb
        refine bk_mM_beginAll_10 l0 ⟨fun _ => ?_, fun z => by rw [l1] at z; exact absurd hb z⟩
        have : c = bs.length := by simpa using hc
        subst this
        exact hP ν1 v1
      | cons b r ih =>
        intro l ν1 i c l0 l1 hb hc v1
        obtain ⟨b1, b2, b3, b4, b5⟩ := hb
        have hc : c + (r.length + 1) = bs.length := hc
        refine bk_mM_beginAll_10 l0 ⟨fun z => by rw [l1] at z; omega, fun _ => ⟨fun z => absurd (by rw [v1.ps]; exact p1) z, fun _ => ?_⟩⟩
        simp only [l1]
        refine c_V_step hi v1 (fun _ => by omega) (by omega) (by decide) (h' := hh) (s1 := 1 :: (oN c ++ ss)) (fun _ => rfl) (fun _ _ _ _ => tVk_n (by decide)) fun ν2 r2 v2 f2 e2 => ?_
        obtain ⟨q1, q2, q3, q4⟩ := e2 p1
        have v2' := v2.more (ex' := fun _ => False) fun _ _ _ _ j _ _ z => z.elim (fun z => z.elim) fun z => absurd z.1 (by unfold tGo; decide)
        rw [v2.h20, q1, show ab_w (9000 * g) = 9000 * g from ab_wi (by omega) (by omega), show ab_w (9000 * g + (μ 109 21 + (k + c))) = 9000 * g + (μ 109 21 + (k + c)) from ab_wi (by omega) (by omega)]
        refine ⟨⟨b1, b2⟩, by omega, fun ν4 e4 => ⟨⟨b1, b2⟩, ?_⟩⟩
        have v4 := v2'.o117 e4 (by omega)
        have u : ∀ c j, c = 136 ∨ c = 137 → ν4 c j = ν1 c j := fun c j z => by rw [e4, ab_mud, if_neg (by omega)]; exact f2 c j (by omega) (by omega) (by omega) (by omega)
        refine ih _ ν4 _ (c + 1) l0 rfl ?_ (by omega) ?_
        · rw [u 136 i (Or.inl rfl)]; exact b5.same u
        · rw [show wv + (c : Int) + tPu 6 = wv + ((c + 1 : Nat) : Int) by rw [show tPu 6 = 1 from rfl]; omega, show k + (c : Int) + 1 = k + ((c + 1 : Nat) : Int) by omega] at v4
          exact v4
    exact key bs _ ν _ 0 rfl rfl (hb p1) (by simp) (by simpa [oN] using v)
theorem aPx.ne {p : List aE} (h : aPx p) : p ≠ [] := fun e => by rw [e] at h; exact h
/-- an entry was pushed before an operand -/
theorem V.toP (v : V g μ Γ dd ν a 2 o (e :: s.2.2.2) s.2.2.2.length (Ln s.2.1) (Ln s.2.1) (hQ s) (oN (Ln s.2.1) ++ sQ F s) (fun _ => False) (qP s.2.2.2)) (hJ : J K W g s0 μ0 μ s) (hO : μ 109 22 = 1 → rO K W g μ s Γ F dd Ln) (hZ : μ 109 22 = 0 → rZ K W s0 μ s G) (hm : s.1 = 2) (en : aNext K s = some ((s.1, a, s.2.2.1, e :: s.2.2.2), none)) (he : e.1 = 41 ∨ e.1 = 23 ∨ e.1 = 24 ∨ (e.1 = 28 ∧ e.2.1 = 0 ∧ e.2.2.2 = 0)) (hw : e.2.2.1 = s.2.1) (ha : s.2.1 < a) : J K W g s0 μ0 ν (s.1, a, s.2.2.1, e :: s.2.2.2) ∧ aMs W (s.1, a, s.2.2.1, e :: s.2.2.2) < aMs W s := by
  have hp := (hJ.i.w.m2 hm).1
  have at0 := hJ.i.w.at0
  have atW := hJ.i.w.atW
  have sl : (sW Ln s.2.1.toNat : Int) + Ln s.2.1 ≤ sW Ln a.toNat := sW_1 at0 ha
  refine V.fin (s' := (s.1, a, s.2.2.1, e :: s.2.2.2)) (kp := s.2.2.2.length) (k := Ln s.2.1) (wv := Ln s.2.1) (o := o) ?_ hJ hO hZ en (fun w => by have w : s.1 = 3 := w; omega) (by omega) (fun w => ?_) (fun w => ?_) (fun w => nB_cons (by omega) (v.nb (hO w).nm.nb (Int.le_refl _))) (bK_cons hp.ne) (List.cons_ne_nil _ _)
  · rcases hJ.i.p01 with p0 | p1
    · exact V.zero (by show V g μ Γ dd ν a s.1 o (e :: s.2.2.2) s.2.2.2.length (Ln s.2.1) (Ln s.2.1) (hQ s) (oN (Ln s.2.1) ++ sQ F s) (fun _ => False) (qP s.2.2.2); rw [hm]; exact v) (by omega)
    · obtain ⟨bs, b1, b2, b3⟩ := (hO p1).tb s.2.1 (Int.le_refl _) atW
      have e1 : hQ (s.1, a, s.2.2.1, e :: s.2.2.2) = hQ s := by
        rw [hQ_m (s := (s.1, a, s.2.2.1, e :: s.2.2.2)) (by show s.1 ≠ 3; omega), hQ_m (by omega), hP_cons, if_neg (by omega)]
        split
        · omega
        · rw [if_neg (by omega)]; omega
      have e2 : sQ F (s.1, a, s.2.2.1, e :: s.2.2.2) = oN (Ln s.2.1) ++ sQ F s := by
        rw [sQ_m (s := (s.1, a, s.2.2.1, e :: s.2.2.2)) (by show s.1 ≠ 3; omega), sQ_m (by omega), sP_cons, if_neg (by omega)]
        unfold sO
        rw [if_neg (by omega), if_neg (by omega), if_neg (by omega), if_neg (by omega), if_neg (by omega), if_pos (by omega), hw, b3]
      have e3 : qP (e :: s.2.2.2) = qP s.2.2.2 := by rw [qP_cons, if_neg (by omega)]
      rw [e1, e2]
      show V _ _ _ _ _ a s.1 _ (e :: s.2.2.2) _ _ _ _ _ _ (qP (e :: s.2.2.2))
      rw [e3, hm]
      exact v
  · show (Ln s.2.1 : Int) + pEn (e :: s.2.2.2) + (sW Ln s.2.1.toNat : Int) ≤ pEn s.2.2.2 + 2 * (a - s.2.1) + (sW Ln a.toNat : Int)
    rw [pEn_cons]
    split <;> omega
  · show 2 * (Ln s.2.1 : Int) + pDo s.2.2.2 + 2 * (sW Ln s.2.1.toNat : Int) ≤ a - s.2.1 + pDo (e :: s.2.2.2) + 2 * (sW Ln a.toNat : Int)
    rw [pDo_cons, if_neg (by omega), if_neg (by omega)]
    omega
/-- an operand was read -/
theorem V.toB (v : V g μ Γ dd ν (s.2.1 + 1) 3 s.2.1 s.2.2.2 s.2.2.2.length (Ln s.2.1 + 1) (Ln s.2.1) (hQ s + 1) (oN (Ln s.2.1) ++ sQ F s) (fun _ => False) (qP s.2.2.2)) (hJ : J K W g s0 μ0 μ s) (hO : μ 109 22 = 1 → rO K W g μ s Γ F dd Ln) (hZ : μ 109 22 = 0 → rZ K W s0 μ s G) (hm : s.1 = 2) (en : aNext K s = some ((3, s.2.1 + 1, s.2.1, s.2.2.2), none)) : J K W g s0 μ0 ν (3, s.2.1 + 1, s.2.1, s.2.2.2) ∧ aMs W (3, s.2.1 + 1, s.2.1, s.2.2.2) < aMs W s := by
  have hp := (hJ.i.w.m2 hm).1
  have at0 := hJ.i.w.at0
  have atW := hJ.i.w.atW
  have sl : (sW Ln s.2.1.toNat : Int) + Ln s.2.1 ≤ sW Ln (s.2.1 + 1).toNat := sW_1 at0 (by omega)
  refine V.fin (s' := (3, s.2.1 + 1, s.2.1, s.2.2.2)) (kp := s.2.2.2.length) (k := Ln s.2.1 + 1) (wv := Ln s.2.1) (o := s.2.1) ?_ hJ hO hZ en (fun _ => rfl) (by omega) (fun w => ?_) (fun w => ?_) (fun w => v.nb (hO w).nm.nb (Int.le_refl _)) rfl hp.ne
  · rcases hJ.i.p01 with p0 | p1
    · exact v.zero (by omega)
    · obtain ⟨bs, b1, b2, b3⟩ := (hO p1).tb s.2.1 (Int.le_refl _) atW
      have e1 : hQ (3, s.2.1 + 1, s.2.1, s.2.2.2) = hQ s + 1 := by
        rw [hQ_m (s := s) (by omega)]
        unfold hQ; dsimp only; rw [if_pos rfl]
      have e2 : sQ F (3, s.2.1 + 1, s.2.1, s.2.2.2) = oN (Ln s.2.1) ++ sQ F s := by
        rw [sQ_m (s := s) (by omega)]
        unfold sQ; dsimp only; rw [if_pos rfl, b3]
      rw [e1, e2]
      exact v
  · show (Ln s.2.1 : Int) + 1 + pEn s.2.2.2 + (sW Ln s.2.1.toNat : Int) ≤ pEn s.2.2.2 + 2 * (s.2.1 + 1 - s.2.1) + (sW Ln (s.2.1 + 1).toNat : Int)
    omega
  · show 2 * (Ln s.2.1 : Int) + pDo s.2.2.2 + 2 * (sW Ln s.2.1.toNat : Int) ≤ s.2.1 + 1 - s.2.1 + pDo s.2.2.2 + 2 * (sW Ln (s.2.1 + 1).toNat : Int)
    omega
end M52

/-! THE REFERENCE, part 53: readOperand itself -/
section M53
variable {X : jm_X} {d : Nat} {P : Int → ab_m → Prop} {K : Int → Int} {W g : Int} {s0 : aS} {μ0 μ ν ν' : ab_m} {s s' : aS} {Γ Γ' : tQ} {F F' : Int → List Int} {dd : Int} {Ln : Int → Nat} {G : Int → List Int} {a m o : Int} {p r : List aE} {kp k wv hh n dn : Int} {ss : List Int} {ex pd : Int → Prop} {q : Int} {e : aE}
theorem aPx.h0 : ∀ {p : List aE}, aPx p → 0 ≤ hP p
  | [], h => h.elim
  | e :: r, h => by
    rw [hP_cons]
    have : 0 ≤ hP r := by
      rcases h with ⟨-, -, -, h⟩ | ⟨-, -, h⟩
      · exact h.h0
      · rw [h.h0]; decide
    have := h.c0
    split
    · omega
    · split
      · omega
      · split <;> omega
theorem J.room2 (hJ : J K W g s0 μ0 μ s) (hO : μ 109 22 = 1 → rO K W g μ s Γ F dd Ln) : μ 109 22 = 1 → 0 ≤ μ 109 21 ∧ μ 109 21 + Ln s.2.1 ≤ 7500 ∧ (Ln s.2.1 : Int) ≤ 1500 := fun w => by
  have O := hO w
  have n0 := O.x.n0
  have b := O.bu
  have t := O.tot
  have p0 := pEn0 s.2.2.2
  have at0 := hJ.at'
  have W3 := hJ.i.kk.2.1
  have s1 : (sW Ln s.2.1.toNat : Int) + Ln s.2.1 ≤ sW Ln (s.2.1 + 1).toNat := sW_1 at0.1 (by omega)
  have s2 : sW Ln (s.2.1 + 1).toNat ≤ sW Ln (W + 1).toNat := sW_mono (by omega)
  omega
set_option maxHeartbeats 2000000 in
theorem c_rd_readOperand (hJ : J K W g s0 μ0 μ s) (hm : s.1 = 2) (hF : ∀ ν', rFt g μ0 ν' → P 0 ν') (hN : ∀ ν' s', J K W g s0 μ0 ν' s' ∧ aMs W s' < aMs W s → P 0 ν') : jj_mM_readOperand X (d + 5) 0 (ab_la [109]) [] μ P := by
  obtain ⟨Γ, F, dd, Ln, G, hO, hZ⟩ := hJ.get
  have v0 := hJ.v0 hO
  rw [hm] at v0
  have at0 := hJ.at'
  have room := hJ.room2 hO
  have len := hJ.len
  have W3 := hJ.i.kk.2.1
  obtain ⟨hp, hd⟩ := hJ.i.w.m2 hm
  have a0 : 0 ≤ s.2.1 ∧ s.2.1 < 3002 := by omega
  obtain ⟨bs, bl, bm⟩ : ∃ bs : List Int, bs.length = Ln s.2.1 ∧ (μ 109 22 = 1 → mBl μ bs (μ 135 s.2.1)) := by
    rcases hJ.i.p01 with p0 | p1
    · exact ⟨List.replicate (Ln s.2.1) 0, by simp, fun z => by omega⟩
    · obtain ⟨bs, b1, b2, b3⟩ := (hO p1).tb s.2.1 (Int.le_refl _) at0.2.2
      exact ⟨bs, b2, fun _ => b1⟩
  have cf : μ 109 22 = 1 → cF F s.2.1 = Ln s.2.1 := fun w => by
    obtain ⟨bs, b1, b2, b3⟩ := (hO w).tb s.2.1 (Int.le_refl _) at0.2.2
    exact b3
  refine bk_mM_readOperand_0 rfl (c_V_beginAll (bs := bs) hJ.i v0 a0 (fun w => by have := room w; rw [bl]; omega) (by decide) bm fun ν1 v1 => ?_)
  rw [bl, show (0 : Int) + (Ln s.2.1 : Int) = Ln s.2.1 by omega] at v1
  rw [v1.at', v1.Kk hJ.i]
  have nx3 : K s.2.1 = 2 ∨ (K s.2.1 = 1 ∧ K (s.2.1 + 1) ≠ 40 ∧ K (s.2.1 + 1) ≠ 91) → aNext K s = some ((3, s.2.1 + 1, s.2.1, s.2.2.2), none) := fun z => by
    rcases z with z | ⟨z1, z2, z3⟩
    · simp [aNext, aOper, hm, z]
    · simp [aNext, aOper, hm, z1, z2, z3]
  -- a sign before an operand
  have s32 : ∀ l t, l 0 = 109 → l 1 = t → K s.2.1 = t → (t = 45 ∨ t = 33 ∨ t = 126) → jj_mM_readOperand X (d + 5) 32 l [] ν1 P := by
    intro l t l0 l1 kt ht
    refine bk_mM_readOperand_32 l0 (c_V_opens hJ.i v1 a0 (fun ν2 v2 => ⟨fun w => absurd w (by decide), fun _ => ?_⟩) (fun ν1 f1 => ⟨fun _ => hF ν1 f1, fun w => absurd rfl w⟩))
    have fin : ∀ x, 18 ≤ x → x ≤ 20 → jj_mM_readOperand X (d + 5) 66 l [(0, x), (0, 41), (2, 109)] ν2 P := by
      intro x x0 x1
      refine bk_mM_readOperand_66 l0 ?_
      rw [v2.at']
      refine c_V_push (e := ⟨41, 0, s.2.1, 0⟩) (ex' := fun _ => False) hJ.i v2 (by omega) (Int.le_refl _) (fun ν' m => ?_) (fun w ν' Γ' m x G' => ⟨eF_41 rfl (by rw [(m.kd v2.ln).2.1]; omega), fun z => absurd z (by show ¬ ((41 : Int) = 6 ∨ (41 : Int) = 7 ∨ (41 : Int) = 21); decide), fun j z => z.elim⟩) fun ν3 v3 _ ν4 e4 => hN _ _ (V.toP (v3.fa1 a0 e4) hJ hO hZ hm ?_ (Or.inl rfl) rfl (by omega))
      · have k := m.kd v2.ln
        exact ⟨k.1, fun z => absurd z (by show ¬ (41 : Int) = 40; decide), fun _ => k.2.2, fun z => absurd z (by show ¬ (41 : Int) = 23; decide), fun z => absurd z (by show ¬ (41 : Int) = 24; decide), fun z => absurd z (by show ¬ (41 : Int) = 28; decide), fun z => absurd z (by show ¬ (41 : Int) = 3; decide)⟩
      · rcases ht with z | z | z <;> rw [z] at kt <;> simp [aNext, aOper, hm, kt]
    exact ⟨fun _ => ⟨fun _ => fin 20 (by decide) (by decide), fun _ => fin 19 (by decide) (by decide)⟩, fun _ => fin 18 (by decide) (by decide)⟩
  -- a name
  have s220 : ∀ l t r, l 0 = 109 → l 2 = s.2.1 → l 3 = t → K s.2.1 = 1 → K (s.2.1 + 1) = t → (μ 109 22 = 1 → nmR μ g s.2.1 t r) → jj_mM_readOperand X (d + 5) 220 l [(0, r)] ν1 P := by
    intro l t r l0 l2 l3 k1 kt hr
    have lW1 := aK_lt hJ.i.kk at0.1 at0.2.2 k1 (by decide)
    have a1 : 0 ≤ s.2.1 + 1 ∧ s.2.1 + 1 < 3002 := by omega
    refine bk_mM_readOperand_220 l0 ⟨fun _ ν2 e2 => ?_, fun z => by rw [v1.md] at z; exact absurd z (by decide)⟩
    have v2 := v1.fa1 a0 e2
    have s273 : t = 40 ∨ t = 91 → ∀ l, l 0 = 109 → l 2 = s.2.1 → l 3 = t → l 4 = r → jj_mM_readOperand X (d + 5) 273 l [] ν2 P := by
      intro ht l l0 l2 l3 l4
      have lW2 := aK_lt hJ.i.kk a1.1 lW1 kt (by omega)
      have a2 : 0 ≤ s.2.1 + 1 + 1 ∧ s.2.1 + 1 + 1 < 3002 := by omega
      refine bk_mM_readOperand_273 l0 ?_
      rw [l3]
      refine c_V_takeOpen hJ.i v2 a1 (fun _ ν3 v3 => ⟨fun _ => ⟨fun n91 => ?_, fun y91 => ?_⟩, fun w => absurd w (by decide)⟩) (fun ν1 f1 => ⟨fun w => absurd rfl w, fun _ => hF ν1 f1⟩)
      · have y40 : t = 40 := by omega
        subst y40
        refine bk_mM_readOperand_296 l0 ?_
        rw [l2, l3, l4]
        refine c_mM_push (by rw [v3.ln]; omega) fun ν8 m8 => ⟨fun z => absurd rfl z, fun _ => ?_⟩
        have ln8 : ab_w (ν8 109 38 - 1) = s.2.2.2.length := by rw [m8.2.1, v3.ln, ab_wi (by omega) (by omega)]; omega
        rw [ln8]
        refine ⟨by omega, fun ν11 e11 => ?_⟩
        have ln11 : ab_w (ν11 109 38 - 1) = s.2.2.2.length := by rw [e11, ab_mud, if_neg (by omega)]; exact ln8
        rw [ln11]
        refine ⟨by omega, fun ν12 e12 => ?_⟩
        have v12 := v3.put28 hO (Int.le_refl _) m8 e11 e12 (fun w => (hr w).2.2 rfl)
        refine bk_mM_beginCall_0 rfl ?_
        rw [v12.at', v12.Kk hJ.i]
        refine ⟨a2, fun n41 ν13 e13 => ?_, fun y41 => ?_⟩
        · refine hN _ _ (V.toP (a := s.2.1 + 1 + 1) (v12.fm e13) hJ hO hZ hm ?_ (Or.inr (Or.inr (Or.inr ⟨rfl, rfl, rfl⟩))) rfl (by omega))
          have n41' : ¬ K (s.2.1 + 2) = 41 := by rw [show s.2.1 + 2 = s.2.1 + 1 + 1 by omega]; exact n41
          rw [show s.2.1 + 1 + 1 = s.2.1 + 2 by omega]
          simp [aNext, aOper, hm, k1, kt, n41']
        · have y41' : K (s.2.1 + 2) = 41 := by rw [show s.2.1 + 2 = s.2.1 + 1 + 1 by omega]; exact y41
          have nxA : aNext K s = some ((3, s.2.1 + 1 + 1 + 1, s.2.1, s.2.2.2), some (s.2.1, 0 + 2)) := by
            rw [show s.2.1 + 1 + 1 + 1 = s.2.1 + 3 by omega]
            simp [aNext, aOper, hm, k1, kt, y41']
          have v12' : V g μ Γ dd ν12 (s.2.1 + 1 + 1) 2 (μ 109 46) (⟨28, 0, s.2.1, 0⟩ :: s.2.2.2) s.2.2.2.length (Ln s.2.1) (Ln s.2.1) (hQ s) (oN (cF F s.2.1) ++ sP F s.2.2.2) (fun _ => False) (qP s.2.2.2) := by
            rcases hJ.i.p01 with p0 | p1
            · exact v12.zero (by omega)
            · rw [cf p1, ← sQ_m (F := F) (s := s) (by omega)]; exact v12
          have sl : (sW Ln s.2.1.toNat : Int) + Ln s.2.1 ≤ sW Ln (s.2.1 + 1 + 1 + 1).toNat := sW_1 at0.1 (by omega)
          refine c_V_endCall (p := s.2.2.2) (G := G) hJ hO hZ v12' rfl ⟨a2.1, by omega, y41⟩ a0 (by omega) (fun w => by have := room w; omega) (by show (0 : Int) ≤ 0; decide) len (fun p1 => (hO p1).cnt (c := 0) (by decide) nxA) (fun _ => ⟨by rw [hQ_m (by omega)]; show hP s.2.2.2 = hP s.2.2.2 + 0; omega, hp.h0⟩) (fun _ => nxA) (fun z => absurd z (by show ¬ (0 : Int) = 1; decide)) (fun p0 b hb => ?_) (fun x hx hxk => ?_) (fun _ => rfl) (fun z => absurd z (by show ¬ (0 : Int) = 1; decide)) (fun _ => by omega) (fun _ => by omega) (fun w => (hO w).nm.nb) (Int.le_refl _) rfl hp.ne hF hN
          · have z : G s.2.1 = [] := (hZ p0).nw s.2.1 (Int.le_refl _)
            have hb : b ∈ G s.2.1 := hb
            rw [z] at hb
            cases hb
          · have := hd.mem hp x hx (Or.inr (Or.inr (Or.inr (Or.inr hxk))))
            show x.2.2.1 ≠ s.2.1
            omega
      · subst y91
        refine bk_mM_readOperand_296 l0 ?_
        rw [l2, l3, l4]
        refine c_V_push (e := ⟨24, 0, s.2.1, 0⟩) (ex' := fun _ => False) hJ.i v3 (by omega) (Int.le_refl _) (fun ν' m => ?_) (fun w ν' Γ' m x G' => ⟨eF_24 rfl ?_, fun z => absurd z (by show ¬ ((24 : Int) = 6 ∨ (24 : Int) = 7 ∨ (24 : Int) = 21); decide), fun j z => z.elim⟩) fun ν6 v6 _ => ⟨fun _ => hN _ _ (V.toP v6 hJ hO hZ hm ?_ (Or.inr (Or.inr (Or.inl rfl))) rfl (by omega)), fun z => absurd z (by decide)⟩
        · have k := m.kd v3.ln
          exact ⟨k.1, fun z => absurd z (by show ¬ (24 : Int) = 40; decide), fun z => absurd z (by show ¬ (24 : Int) = 41; decide), fun z => absurd z (by show ¬ (24 : Int) = 23; decide), fun _ => k.2.2, fun z => absurd z (by show ¬ (24 : Int) = 28; decide), fun z => absurd z (by show ¬ (24 : Int) = 3; decide)⟩
        · obtain ⟨i, i0, i1, i2, i3⟩ := (hr w).2.1 rfl
          rw [(m.kd v3.ln).2.1, i3]
          exact ((hO w).nm.nk i i0 i1).2.1 i2
        · rw [show s.2.1 + 1 + 1 = s.2.1 + 2 by omega]
          simp [aNext, aOper, hm, k1, kt]
    rw [l3]
    refine ⟨fun y => s273 (Or.inl y) _ l0 l2 l3 rfl, fun n40 => ⟨fun y => s273 (Or.inr y) _ l0 l2 l3 rfl, fun n91 => ?_⟩⟩
    refine c_V_step hJ.i v2 (fun w => by have := room w; omega) (by omega) (by decide) (h' := hQ s + 1) (s1 := oN (Ln s.2.1) ++ sQ F s) (fun _ => rfl) (fun w Γ' x Gk => ?_) fun ν3 r3 v3 f3 e3 ν5 e5 ν6 e6 => ?_
    · obtain ⟨i, i0, i1, i2, i3⟩ := (hr w).1 n91 n40
      have nk := ((hO w).nm.nk i i0 i1).1 i2
      have it := (hO w).nm.it
      rw [← i3] at nk
      exact ⟨fun z => absurd z (by decide), fun z => absurd z (by decide), fun z => absurd z (by decide), fun z => absurd z (by decide), fun _ => by omega, fun _ => v2.ok (hO w) (by omega) x Gk nk.2.2, fun z => absurd z (by decide)⟩
    · have v3' := v3.more (ex' := fun _ => False) fun _ _ _ _ j _ _ z => z.elim (fun z => z.elim) fun z => absurd z.1 (by unfold tGo; decide)
      rw [l2] at e5
      have v6 := (v3'.fo e5).fm e6
      rw [show (Ln s.2.1 : Int) + tPu 2 = Ln s.2.1 by rw [show tPu 2 = 0 from rfl]; omega] at v6
      exact hN _ _ (V.toB v6 hJ hO hZ hm (nx3 (Or.inr ⟨k1, by omega, by omega⟩)))
  have ft : ∀ l, l 0 = 109 → ∀ r ν', rFt g μ0 ν' → jj_mM_readOperand X (d + 5) 220 l [(0, r)] ν' P := fun l l0 r ν' f => bk_mM_readOperand_220 l0 ⟨fun z => absurd f.m5 z, fun _ => hF _ f⟩
  refine ⟨a0, fun y => s32 _ 45 rfl (by show K s.2.1 = 45; exact y) y (by decide), fun _ => ⟨fun y => s32 _ 33 rfl (by show K s.2.1 = 33; exact y) y (by decide), fun _ => ⟨fun _ => ⟨fun _ => ⟨fun _ => ⟨fun y1 => ?_, fun _ => c_V_misfit hJ.i v1 a0 hF⟩, fun y2 => ⟨a0, ?_⟩⟩, fun y40 => ?_⟩, fun y => s32 _ 126 rfl (by show K s.2.1 = 126; exact y) y (by decide)⟩⟩⟩
  · rw [show ab_w (s.2.1 + 1) = s.2.1 + 1 from ab_wi (by omega) (by omega), v1.Kk hJ.i]
    have lW1 := aK_lt hJ.i.kk at0.1 at0.2.2 y1 (by decide)
    refine ⟨by omega, fun n40 => ⟨fun n91 => ?_, fun y91 => ?_⟩, fun y40 => ?_⟩
    · exact c_V_meaning hJ.i hO v1 a0 (fun r hr => s220 _ (K (s.2.1 + 1)) r rfl rfl rfl y1 rfl fun w => ⟨fun _ _ => hr w, fun z => absurd z n91, fun z => absurd z n40⟩) (ft _ rfl)
    · exact c_V_meaning hJ.i hO v1 a0 (fun r hr => s220 _ (K (s.2.1 + 1)) r rfl rfl rfl y1 rfl fun w => ⟨fun z => absurd y91 z, fun _ => hr w, fun z => absurd z n40⟩) (ft _ rfl)
    · exact c_V_meaningOfCall hJ.i hO v1 (by decide) a0 (fun r hr => s220 _ (K (s.2.1 + 1)) r rfl rfl rfl y1 rfl fun w => ⟨fun _ z => absurd y40 z, fun z => absurd (z.symm.trans y40) (by decide), fun _ => hr w⟩) (ft _ rfl)
  · refine c_V_step hJ.i v1 (fun w => by have := room w; omega) (by omega) (by decide) (h' := hQ s + 1) (s1 := oN (Ln s.2.1) ++ sQ F s) (fun _ => rfl) (fun _ _ _ _ => tVk_n (by decide)) fun ν3 r3 v3 f3 e3 ν5 e5 ν6 e6 ν7 e7 => ?_
    have v3' := v3.more (ex' := fun _ => False) fun _ _ _ _ j _ _ z => z.elim (fun z => z.elim) fun z => absurd z.1 (by unfold tGo; decide)
    rw [v3'.at'] at e5
    have v7 := ((v3'.fo e5).fa1 a0 e6).fm e7
    rw [show (Ln s.2.1 : Int) + tPu 1 = Ln s.2.1 by rw [show tPu 1 = 0 from rfl]; omega] at v7
    exact hN _ _ (V.toB v7 hJ hO hZ hm (nx3 (Or.inl y2)))
  · refine c_V_opens hJ.i v1 a0 (fun ν2 v2 => ⟨fun w => absurd w (by decide), fun _ => ?_⟩) (fun ν1 f1 => ⟨fun _ => hF ν1 f1, fun w => absurd rfl w⟩)
    rw [v2.at']
    refine c_V_push (e := ⟨23, 0, s.2.1, 0⟩) (ex' := fun _ => False) hJ.i v2 (by omega) (Int.le_refl _) (fun ν' m => ?_) (fun w ν' Γ' m x G' => ⟨eF_n (by show (23 : Int) = 1 ∨ (23 : Int) = 2 ∨ (23 : Int) = 3 ∨ (23 : Int) = 20 ∨ (23 : Int) = 22 ∨ (23 : Int) = 23 ∨ (23 : Int) = 30; decide), fun z => absurd z (by show ¬ ((23 : Int) = 6 ∨ (23 : Int) = 7 ∨ (23 : Int) = 21); decide), fun j z => z.elim⟩) fun ν3 v3 _ ν4 e4 => hN _ _ (V.toP (v3.fa1 a0 e4) hJ hO hZ hm ?_ (Or.inr (Or.inl rfl)) rfl (by omega))
    · have k := m.kd v2.ln
      exact ⟨k.1, fun z => absurd z (by show ¬ (23 : Int) = 40; decide), fun z => absurd z (by show ¬ (23 : Int) = 41; decide), fun _ => k.2.1, fun z => absurd z (by show ¬ (23 : Int) = 24; decide), fun z => absurd z (by show ¬ (23 : Int) = 28; decide), fun z => absurd z (by show ¬ (23 : Int) = 3; decide)⟩
    · simp [aNext, aOper, hm, y40]
end M53

/-! THE REFERENCE, part 54: reduce -/
section M54
variable {X : jm_X} {d : Nat} {P : Int → ab_m → Prop} {K : Int → Int} {W g : Int} {s0 : aS} {μ0 μ ν ν' : ab_m} {s s' : aS} {Γ Γ' : tQ} {F F' : Int → List Int} {dd : Int} {Ln : Int → Nat} {G : Int → List Int} {a m o : Int} {p r : List aE} {kp k wv hh n dn : Int} {ss : List Int} {ex pd : Int → Prop} {q : Int} {e : aE}
theorem sQ_3 (h : s.1 = 3) : sQ F s = oN (cF F s.2.2.1) ++ sP F s.2.2.2 := by unfold sQ; rw [if_pos h]
theorem hQ_3 (h : s.1 = 3) : hQ s = hP s.2.2.2 + 1 := by unfold hQ; rw [if_pos h]
theorem cF_nil {w : Int} (h : F w = []) : cF F w = 0 := by unfold cF; rw [h]; rfl
/-- an operand's word that isn't active any more has nothing to come -/
theorem J.done (hJ : J K W g s0 μ0 μ s) (hm : s.1 = 3) {t : aS} {x : Int} (hr : aRest K t F) (ht : aW W t) (ha : s.2.1 ≤ t.2.1) (hop : t.1 = 3 → t.2.2.1 < s.2.2.1) (hpl : ∀ y ∈ t.2.2.2, aRl y → y.2.2.1 < s.2.2.1) (hx : x = s.2.2.1) : cF F x = 0 := by
  subst hx
  refine cF_nil ?_
  have m3 := hJ.i.w.m3 hm
  by_cases z : F s.2.2.1 = []
  · exact z
  · exfalso
    rcases hr.act hJ.i.kk ht s.2.2.1 z with y | ⟨y1, y2⟩ | ⟨x, x1, x2, x3⟩
    · omega
    · have := hop y1; omega
    · have := hpl x x1 x3; omega
/-- an entry of a sign goes -/
theorem aW_red (hw : aW W s) (hm : s.1 = 3) (hs : s.2.2.2 = e :: r) (ek : e.1 = 40 ∨ e.1 = 41) : aW W (s.1, s.2.1, e.2.2.1, r) ∧ e.2.2.1 < s.2.2.1 ∧ 0 ≤ e.2.2.1 ∧ aPx r ∧ ∀ y ∈ r, aRl y → y.2.2.1 < e.2.2.1 := by
  obtain ⟨m1, m2, m3, m4⟩ := hw.m3 hm
  rw [hs] at m1 m2
  have q := m2 (by unfold aRl; omega)
  have hx := m1.low (by omega)
  have len := hw.len
  rw [hs] at len
  have ll : ((e :: r).length : Int) = r.length + 1 := by simp
  refine ⟨⟨hw.at0, hw.atW, by show (r.length : Int) ≤ s.2.1 + 1; omega, hw.md, fun z => by have z : s.1 = 0 := z; omega, fun z => by have z : s.1 = 1 ∨ s.1 = 4 := z; omega, fun z => by have z : s.1 = 2 := z; omega, fun _ => ⟨hx, q.2.2, q.1, by show e.2.2.1 < s.2.1; omega⟩⟩, q.2.1.1, q.1, hx, fun y hy hr => q.2.2.mem hx y hy hr⟩
theorem pE_40 {i j : Int} (z : pE ν g q i j) (h : ν 129 i = 40 ∨ ν 129 i = 41) : ν 129 i = 40 ∧ (ν 130 i = 206 ∨ ν 130 i = 207) ∧ j = ν 132 i := by
  rcases z with z | z | z | ⟨z, -⟩ | ⟨-, z, -⟩
  · omega
  · omega
  · exact z
  · omega
  · omega
/-- the walk ends in a state of the same turn -/
theorem V.finV (v : V g μ Γ dd ν s.2.1 3 e.2.2.1 r kp k wv (hP r + 1) (oN (cF F e.2.2.1) ++ sP F r) (fun _ => False) (qP r)) (hJ : J K W g s0 μ0 μ s) (hO : μ 109 22 = 1 → rO K W g μ s Γ F dd Ln) (hZ : μ 109 22 = 0 → rZ K W s0 μ s G) (hm : s.1 = 3) (hs : s.2.2.2 = e :: r) (ek : e.1 = 40 ∨ e.1 = 41) (en : aNext K (s.1, s.2.1, e.2.2.1, r) = aNext K s) (k0 : 0 ≤ k ∧ k ≤ 1) (w0 : wv = 0) (hkp : (r.length : Int) ≤ kp) : J K W g s0 μ0 ν (s.1, s.2.1, e.2.2.1, r) := by
  obtain ⟨hw, -, -, hx, -⟩ := aW_red hJ.i.w hm hs ek
  have e22 := v.ps
  have ri : rI K W g μ0 ν (s.1, s.2.1, e.2.2.1, r) := by
    refine ⟨hJ.i.kk, fun i => v.Kk hJ.i i, v.ft, ⟨by rw [v.md]; exact hm.symm, v.at', fun _ => v.op, v.ln, v.ap⟩, hw, v.h20, hJ.i.g01, by rw [e22]; exact hJ.i.p01, hJ.i.fr.trans v.fr, fun j a b => by rw [v.rs j]; exact hJ.i.rs j a b⟩
  have bk : bK s.2.2.2 = bK r := by rw [hs]; exact bK_cons hx.ne
  refine ⟨ri, fun w => ⟨G, ?_⟩, fun w => ?_⟩
  · rw [e22] at w
    have Z := hZ w
    have e51 := v.tb 109 51 (by omega)
    refine ⟨fun F a => Z.acc F (a.alike en.symm (by show s.1 ≠ 1; omega)), fun w a b => ?_, fun w b hb h2 => by rw [v.tb 134 w (by omega)]; exact Z.xc w b hb h2, Z.nw, fun x hx => Z.np x (by rw [hs]; exact List.mem_cons_of_mem _ hx), by rw [e51]; exact Z.b0, by rw [e51]; exact Z.bm, by rw [e51]; exact Z.sm⟩
    rw [e51, v.tb 135 w (by omega)]
    exact (Z.tb w a b).same (Int.le_refl _) fun c j hc _ => v.tb c j (by omega)
  · rw [e22] at w
    have O := hO w
    obtain ⟨Γ', x, n, Gk, ww⟩ := v.one w
    have e32 := v.nf 109 32 (by omega)
    have e27 := v.nf 109 27 (by omega)
    have n0 := O.x.n0
    have b3 := O.bu
    have b4 := O.bw
    rw [hs, pEn_cons, if_pos (by omega)] at b3
    rw [hs, pDo_cons, if_neg (by omega), if_neg (by omega)] at b4
    have r0 := (O.x.tr n0 (Int.le_refl _)).r0
    have hr : Γ'.2.2.2.1 (μ 109 21 + k) = Γ.2.2.2.1 (μ 109 21) := by rw [x.cr, O.x.cr]
    refine ⟨Γ', F, dd, Ln, ?_, O.rest.alike en (by omega), O.tbs (fun c j z => v.tb c j (by omega)) (Int.le_refl _), fun y b hb h2 => by rw [v.tb 134 y (by omega)]; exact O.xc y b hb h2, O.tot, ?_, ?_, ?_, by rw [← bk, e32]; exact O.b3, fun z => ?_, fun z => absurd z hx.ne⟩
    · rw [n, e32, hQ_3 (s := (s.1, s.2.1, e.2.2.1, r)) hm, sQ_3 (s := (s.1, s.2.1, e.2.2.1, r)) hm]
      exact x.more fun j _ _ _ z => Or.inl (z.elim id False.elim)
    · rw [n]
      show μ 109 21 + k + pEn r ≤ 2 * s.2.1 + (sW Ln s.2.1.toNat : Int)
      omega
    · rw [n, ww]
      show 2 * (Γ.2.2.1 (μ 109 21) + wv) ≤ s.2.1 + pDo r + 2 * (sW Ln s.2.1.toNat : Int)
      omega
    · rw [n]
      have nb := O.nm.nb
      rw [hs] at nb
      unfold nB at nb
      rw [if_neg (by omega)] at nb
      refine O.nm.same (v.toTX Gk) n0 (by omega) hr r0 (fun c j z => v.nf c j (by omega)) ?_ ?_ (Int.le_refl _) ?_
      · rw [e27]; have := O.nm.nm; omega
      · exact dD (v.nf 123 g (by omega)).symm fun j => (v.nf 122 j (by omega)).symm
      · rw [e27]; exact v.nb nb hkp
    · have z : bK r = 1 := z
      obtain ⟨b1, b2, b3, b4, b5, b6⟩ := O.b1 (by rw [bk]; exact z)
      obtain ⟨g1, g2, g3, g4, g5⟩ := Gk _ b1 b2
      rw [e32, v.nf 124 g (by omega), n]
      exact ⟨b1, by omega, by rw [g4]; exact b3, by rw [g1]; exact b4, by rw [g2]; exact b5, by rw [g5]; exact b6⟩
set_option maxHeartbeats 2000000 in
theorem c_rd_reduce (hJ : J K W g s0 μ0 μ s) (hm : s.1 = 3) (hs : s.2.2.2 = e :: r) (ek : e.1 = 40 ∨ e.1 = 41) (en : aNext K (s.1, s.2.1, e.2.2.1, r) = aNext K s) (hC : ∀ ν', J K W g s0 μ0 ν' (s.1, s.2.1, e.2.2.1, r) → P 0 ν') : jj_mM_reduce X (d + 2) 0 (ab_la [109]) [] μ P := by
  obtain ⟨Γ, F, dd, Ln, G, hO, hZ⟩ := hJ.get
  have v0 := hJ.v0 hO
  have at0 := hJ.at'
  have room := hJ.room hO
  have len := hJ.len
  have g01 := hJ.i.g01
  obtain ⟨hw, ew, ew0, hx, hwl⟩ := aW_red hJ.i.w hm hs ek
  rw [hs] at len
  have ll : ((e :: r).length : Int) = r.length + 1 := by simp
  have q0 : qP (e :: r) = qP r := by rw [qP_cons, if_neg (by omega)]
  rw [hm, hQ_3 hm, hs, q0] at v0
  -- nothing is to come at the operand
  have c0 : μ 109 22 = 1 → cF F s.2.2.1 = 0 := fun w => hJ.done hm ((hO w).rest.alike en (by omega)) hw (Int.le_refl _) (fun _ => ew) (fun y hy hr => by have := hwl y hy hr; omega) rfl
  have v1 : V g μ Γ dd μ s.2.1 3 (μ 109 46) (e :: r) (e :: r).length 0 0 (hP (e :: r) + 1) (sO F e ++ sP F r) (fun _ => False) (qP r) := by
    rcases hJ.i.p01 with p0 | p1
    · exact v0.zero (by omega)
    · rw [sQ_3 hm, hs, c0 p1, sP_cons, if_neg (by omega)] at v0
      exact v0
  have w38 : ab_w (μ 109 38 - 1) = r.length := by rw [v1.ln, ll, ab_wi (by omega) (by omega)]; omega
  have b3 : (0 : Int) ≤ r.length ∧ (r.length : Int) < 3010 := by omega
  obtain ⟨am1, am2, am3, am4, am5, am6, am7⟩ := v1.ap.1
  have b131 : μ 131 r.length = e.2.2.1 := by
    rcases ek with z | z
    · exact (am2 z).2
    · exact am3 z
  have b130' : e.1 = 40 → μ 130 r.length = e.2.1 := fun z => (am2 z).1
  clear am2 am3 am4 am5 am6 am7
  -- the end
  have s149 : ∀ (l : ab_l) (ν1 : ab_m) (k : Int), l 0 = 109 → l 1 = (r.length : Int) → (0 ≤ k ∧ k ≤ 1) → V g μ Γ dd ν1 s.2.1 3 (μ 109 46) (e :: r) (e :: r).length k 0 (hP r + 1) (oN (cF F e.2.2.1) ++ sP F r) (fun _ => False) (qP r) → ν1 131 r.length = e.2.2.1 → (μ 109 22 = 1 → (e.1 = 40 → e.2.1 = 206 ∨ e.2.1 = 207 → k = 1 ∧ ν1 132 r.length = μ 132 r.length ∧ ν1 116 (9000 * g + μ 132 r.length) = μ 109 21 + 1)) → jj_mM_reduce X (d + 2) 149 l [] ν1 P := by
    intro l ν1 k l0 l1 hk v2 b1 ht
    refine bk_mM_reduce_149 l0 ?_
    rw [l1, b1]
    refine ⟨b3, fun ν3 e3 ν4 e4 => ?_⟩
    have v3 := v2.fo e3
    have w3 : ab_w (ν3 109 38 - 1) = r.length := by rw [v3.ln, ll, ab_wi (by omega) (by omega)]; omega
    rw [w3] at e4
    have v4 := v3.pop (ν' := ν4) (kp' := r.length) (fun c j z => by rw [e4, ab_mud, if_neg (by omega)]) (by rw [e4, ab_mud, if_pos ⟨rfl, rfl⟩]) (by omega)
    have v4' := v4.more (ex' := fun _ => False) fun w Γ' x Gk j j0 j1 z => Or.inr (by
      have z : pE ν3 g (qP r) r.length j := z.elim (fun z => z.elim) id
      have k3 : ν3 129 r.length = e.1 := v3.ap.1.1
      have O := hO w
      have ent := O.x.ent
      rw [hs] at ent
      have kk : e.1 = 40 ∧ (e.2.1 = 206 ∨ e.2.1 = 207) ∧ j = ν3 132 r.length := by
        have y := pE_40 z (by rw [k3]; exact ek)
        rw [k3] at y
        refine ⟨y.1, ?_, y.2.2⟩
        have := (v3.ap.1.2.1 y.1).1
        rw [← this]
        exact y.2.1
      obtain ⟨t1, t2, t3⟩ := ht w kk.1 kk.2.1
      have ej : j = μ 132 r.length := by rw [kk.2.2, e3, ab_mud, if_neg (by omega), t2]
      subst ej
      obtain ⟨f1, f2⟩ := ent.1.f40 kk.1 kk.2.1
      subst t1
      refine tJ_mk (t := μ 109 21 + 1) Gk f1 (v4.tx _ f1.1 f1.2.1).1 ?_ ⟨by have := f1.2.1; omega, Int.le_refl _⟩ (by rw [x.ch]; rfl) (by rw [x.cr, O.x.cr]) (fun z => ?_)
      · rw [e4, ab_mud, if_neg (by omega), e3, ab_mud, if_neg (by omega)]; exact t3
      · rw [x.cs] at z
        rcases List.mem_append.mp z with z | z
        · exact absurd (oN6 z) (by decide)
        · exact f2 (sP6 z))
    exact hC _ (V.finV v4' hJ hO hZ hm hs ek en hk rfl (Int.le_refl _))
  refine bk_mM_reduce_0 rfl ?_
  rw [w38, am1]
  refine ⟨b3, fun n41 => ?_, fun y41 => ⟨b3, ?_⟩⟩
  · have k40 : e.1 = 40 := by omega
    have b130 := b130' k40
    rw [b130]
    have s67 : e.2.1 = 206 ∨ e.2.1 = 207 → ∀ l : ab_l, l 0 = 109 → l 1 = (r.length : Int) → jj_mM_reduce X (d + 2) 67 l [] μ P := by
      intro ha l l0 l1
      have hso : sO F e = 2 :: oN (cF F e.2.2.1) := by
        unfold sO
        rw [if_neg (by omega), if_neg (by omega), if_neg (by omega), if_neg (by omega), if_pos k40, if_pos ha]
        rfl
      have hh1 : hP (e :: r) = hP r := by rw [hP_cons, if_neg (by omega), if_neg (by omega), if_neg (by omega)]; omega
      refine bk_mM_reduce_67 l0 ?_
      rw [l1]
      refine ⟨b3, ?_⟩
      refine c_V_tell hJ.i v1 (fun w => ?_) fun ν1 v2 f2 t2 => ?_
      · have O := hO w
        have ent := O.x.ent
        rw [hs] at ent
        obtain ⟨f1, -⟩ := ent.1.f40 k40 ha
        have rm := room w
        exact ⟨⟨f1.1, by have := f1.2.1; omega, by have := f1.2.1; omega⟩, Or.inl f1.2.2.1, Or.inl ⟨r.length, by omega, by omega, Or.inr (Or.inr (Or.inl ⟨by rw [am1]; exact k40, by rw [b130]; exact ha, rfl⟩))⟩⟩
      · have hx0 := hx.h0
        refine c_V_step2 hJ.i v2 (fun w => by have := room w; omega) (by decide) (by decide) (h' := hP r + 1) (s1 := oN (cF F e.2.2.1) ++ sP F r) (fun _ => ?_) (fun _ _ _ _ => tVk_n (by decide)) fun ν4 r5 v4 f4 e4 => ?_
        · rw [hso, hh1]
          show (if 1 ≤ hP r + 1 ∧ (2 :: (oN (cF F e.2.2.1) ++ sP F r)).head? = some 2 then some (hP r + 1, (2 :: (oN (cF F e.2.2.1) ++ sP F r)).tail) else none) = _
          rw [if_pos ⟨by omega, rfl⟩]; rfl
        · have v4' := v4.more (ex' := fun _ => False) fun _ _ _ _ j _ _ z => z.elim (fun z => z.elim) fun z => absurd z.1 (by unfold tGo; decide)
          rw [show (0 : Int) + tPu 8 = 0 from rfl, show (0 : Int) + 1 = 1 from rfl] at v4'
          have b4 : ν4 131 r.length = e.2.2.1 := by rw [f4 131 _ (by omega) (by omega), f2 131 _ (by omega)]; exact b131
          have c4 : ν4 132 r.length = μ 132 r.length := by rw [f4 132 _ (by omega) (by omega), f2 132 _ (by omega)]
          have T4 : μ 109 22 = 1 → ν4 116 (9000 * g + μ 132 r.length) = μ 109 21 + 1 := fun w => by
            have O := hO w
            have ent := O.x.ent
            rw [hs] at ent
            obtain ⟨f1, -⟩ := ent.1.f40 k40 ha
            have := f1.2.1
            have rm := room w
            rw [f4 116 _ (by omega) (by omega), t2 w]
            exact ab_wi (by omega) (by omega)
          refine ⟨fun n1 => s149 _ ν4 1 l0 l1 (by decide) v4' b4 fun w => absurd (by rw [v4.ps]; exact w) n1, fun y1 => ?_⟩
          rw [v4.ps] at y1
          have rm := room y1
          rw [v4.h20, (e4 y1).1, show ab_w (9000 * g) = 9000 * g from ab_wi (by omega) (by omega), show ab_w (9000 * g + (μ 109 21 + 0)) = 9000 * g + (μ 109 21 + 0) from ab_wi (by omega) (by omega)]
          refine ⟨b3, fun _ => ⟨by omega, fun ν7 e7 => ?_⟩, fun _ => ⟨by omega, fun ν7 e7 => ?_⟩⟩
          · exact s149 _ ν7 1 l0 l1 (by decide) (v4'.o117 e7 (by omega)) (by rw [e7, ab_mud, if_neg (by omega)]; exact b4) fun w _ _ => ⟨rfl, by rw [e7, ab_mud, if_neg (by omega)]; exact c4, by rw [e7, ab_mud, if_neg (by omega)]; exact T4 w⟩
          · exact s149 _ ν7 1 l0 l1 (by decide) (v4'.o117 e7 (by omega)) (by rw [e7, ab_mud, if_neg (by omega)]; exact b4) fun w _ _ => ⟨rfl, by rw [e7, ab_mud, if_neg (by omega)]; exact c4, by rw [e7, ab_mud, if_neg (by omega)]; exact T4 w⟩
    refine ⟨b3, fun y6 => s67 (Or.inl y6) _ rfl rfl, fun n6 => ⟨b3, fun n7 => ⟨b3, ?_⟩, fun y7 => s67 (Or.inr y7) _ rfl rfl⟩⟩
    have hso : sO F e = oN (cF F e.2.2.1) := by
      unfold sO
      rw [if_neg (by omega), if_neg (by omega), if_neg (by omega), if_neg (by omega), if_pos k40, if_neg (by omega)]
      rfl
    have hh1 : hP (e :: r) = 1 + hP r := by rw [hP_cons, if_pos ⟨k40, by omega⟩]
    have hx0 := hx.h0
    refine c_mM_operationOf fun x x0 x1 => ?_
    refine c_V_step2 hJ.i v1 (fun w => by have := room w; omega) (by decide) (by decide) (h' := hP r + 1) (s1 := oN (cF F e.2.2.1) ++ sP F r) (fun _ => ?_) (fun _ _ _ _ => ⟨fun z => absurd z (by decide), fun z => absurd z (by decide), fun _ => ⟨x0, x1⟩, fun z => absurd z (by decide), fun z => absurd z (by decide), fun z => absurd z (by decide), fun z => absurd z (by decide)⟩) fun ν4 r5 v4 f4 e4 => ?_
    · rw [hso, hh1]
      show (if 2 ≤ 1 + hP r + 1 then some (1 + hP r + 1 - 1, oN (cF F e.2.2.1) ++ sP F r) else none) = _
      rw [if_pos (by omega)]; congr 2; omega
    · have v4' := v4.more (ex' := fun _ => False) fun _ _ _ _ j _ _ z => z.elim (fun z => z.elim) fun z => absurd z.1 (by unfold tGo; decide)
      rw [show (0 : Int) + tPu 5 = 0 from rfl, show (0 : Int) + 1 = 1 from rfl] at v4'
      exact s149 _ ν4 1 rfl rfl (by decide) v4' (by rw [f4 131 _ (by omega) (by omega)]; exact b131) fun _ _ z => by omega
  · have hso : sO F e = oN (cF F e.2.2.1) := by
      unfold sO
      rw [if_neg (by omega), if_neg (by omega), if_neg (by omega), if_neg (by omega), if_neg (by omega), if_pos (by omega)]
    have hh1 : hP (e :: r) = hP r := by rw [hP_cons, if_neg (by omega), if_neg (by omega), if_neg (by omega)]; omega
    have hx0 := hx.h0
    refine c_V_step2 hJ.i v1 (fun w => by have := room w; omega) (by decide) (by decide) (h' := hP r + 1) (s1 := oN (cF F e.2.2.1) ++ sP F r) (fun _ => ?_) (fun w Γ' x Gk => ?_) fun ν4 r5 v4 f4 e4 ν7 e7 => ?_
    · rw [hso, hh1]
      show (if 1 ≤ hP r + 1 then some (hP r + 1, oN (cF F e.2.2.1) ++ sP F r) else none) = _
      rw [if_pos (by omega)]
    · have f := x.ent.1.f41 y41
      exact ⟨fun z => absurd z (by decide), fun _ => f, fun z => absurd z (by decide), fun z => absurd z (by decide), fun z => absurd z (by decide), fun z => absurd z (by decide), fun z => absurd z (by decide)⟩
    · have v4' := v4.more (ex' := fun _ => False) fun _ _ _ _ j _ _ z => z.elim (fun z => z.elim) fun z => absurd z.1 (by unfold tGo; decide)
      rw [show (0 : Int) + tPu 4 = 0 from rfl, show (0 : Int) + 1 = 1 from rfl] at v4'
      exact s149 _ ν7 1 rfl rfl (by decide) (v4'.f1 e7 (Or.inl rfl)) (by rw [e7, ab_mud, if_neg (by omega), f4 131 _ (by omega) (by omega)]; exact b131) fun _ z => by omega
end M54

/-! THE REFERENCE, part 55: readBehind, a sign between -/
section M55
variable {X : jm_X} {d : Nat} {P : Int → ab_m → Prop} {K : Int → Int} {W g : Int} {s0 : aS} {μ0 μ ν ν' : ab_m} {s s' : aS} {Γ Γ' : tQ} {F F' : Int → List Int} {dd : Int} {Ln : Int → Nat} {G : Int → List Int} {a m o : Int} {p r : List aE} {kp k wv hh n dn : Int} {ss : List Int} {ex pd : Int → Prop} {q : Int} {e : aE}
/-- nothing more goes before the word at hand -/
theorem aNext_69 (hm : s.1 = 3) (h41 : aTop s.2.2.2 ≠ 41) (h40 : ∀ e r, s.2.2.2 = e :: r → e.1 = 40 → stOf (K s.2.1) ≠ 0 ∧ stOf e.2.1 < stOf (K s.2.1)) : aNext K s = if stOf (K s.2.1) = 0 then aEnd K s s.2.2.2 else some ((2, s.2.1 + 1, s.2.2.1, ⟨40, K s.2.1, s.2.2.1, 0⟩ :: s.2.2.2), if K s.2.1 = 206 then some (s.2.2.1, 0) else if K s.2.1 = 207 then some (s.2.2.1, 1) else none) := by
  rw [aNext_3 hm]
  have o1 : aOnes s.2.2.2 s.2.2.1 = (s.2.2.2, s.2.2.1) := by
    cases hs : s.2.2.2 with
    | nil => rfl
    | cons x r => rw [hs] at h41; rw [aOnes, if_neg (show ¬ x.1 = 41 from h41)]
  have o2 : aTwos (stOf (K s.2.1)) s.2.2.2 s.2.2.1 = (s.2.2.2, s.2.2.1) := by
    cases hs : s.2.2.2 with
    | nil => rfl
    | cons x r =>
      rw [aTwos, if_neg]
      intro z
      have := h40 x r hs z.1
      omega
  unfold aBeh
  dsimp only
  rw [o1]
  dsimp only
  rw [o2]
/-- a sign that is no AND and no OR -/
theorem V.to2 (v : V g μ Γ dd ν (s.2.1 + 1) 2 o (⟨40, K s.2.1, s.2.2.1, 0⟩ :: s.2.2.2) s.2.2.2.length 0 0 (hQ s) (sQ F s) (fun _ => False) (qP s.2.2.2)) (hJ : J K W g s0 μ0 μ s) (hO : μ 109 22 = 1 → rO K W g μ s Γ F dd Ln) (hZ : μ 109 22 = 0 → rZ K W s0 μ s G) (hm : s.1 = 3) (n6 : K s.2.1 ≠ 206 ∧ K s.2.1 ≠ 207) (en : aNext K s = some ((2, s.2.1 + 1, s.2.2.1, ⟨40, K s.2.1, s.2.2.1, 0⟩ :: s.2.2.2), none)) : J K W g s0 μ0 ν (2, s.2.1 + 1, s.2.2.1, ⟨40, K s.2.1, s.2.2.1, 0⟩ :: s.2.2.2) ∧ aMs W (2, s.2.1 + 1, s.2.2.1, ⟨40, K s.2.1, s.2.2.1, 0⟩ :: s.2.2.2) < aMs W s := by
  have hp := (hJ.i.w.m3 hm).1
  have at0 := hJ.i.w.at0
  have sl : (sW Ln s.2.1.toNat : Int) ≤ sW Ln (s.2.1 + 1).toNat := sW_at at0 (by omega)
  refine V.fin (s' := (2, s.2.1 + 1, s.2.2.1, ⟨40, K s.2.1, s.2.2.1, 0⟩ :: s.2.2.2)) (kp := s.2.2.2.length) (k := 0) (wv := 0) (o := o) ?_ hJ hO hZ en (fun w => absurd (show (2 : Int) = 3 from w) (by decide)) (by decide) (fun w => ?_) (fun w => ?_) (fun w => nB_cons (by show (40 : Int) ≠ 1 ∧ (40 : Int) ≠ 2 ∧ (40 : Int) ≠ 3; decide) (v.nb (hO w).nm.nb (Int.le_refl _))) (bK_cons hp.ne) (List.cons_ne_nil _ _)
  · have e1 : hQ (2, s.2.1 + 1, s.2.2.1, ⟨40, K s.2.1, s.2.2.1, 0⟩ :: s.2.2.2) = hQ s := by
      rw [hQ_m (s := (2, s.2.1 + 1, s.2.2.1, ⟨40, K s.2.1, s.2.2.1, 0⟩ :: s.2.2.2)) (by show (2 : Int) ≠ 3; decide), hQ_3 hm, hP_cons, if_pos ⟨rfl, by show ¬ (K s.2.1 = 206 ∨ K s.2.1 = 207); omega⟩]
      omega
    have e2 : sQ F (2, s.2.1 + 1, s.2.2.1, ⟨40, K s.2.1, s.2.2.1, 0⟩ :: s.2.2.2) = sQ F s := by
      rw [sQ_m (s := (2, s.2.1 + 1, s.2.2.1, ⟨40, K s.2.1, s.2.2.1, 0⟩ :: s.2.2.2)) (by show (2 : Int) ≠ 3; decide), sQ_3 hm, sP_cons, if_neg (by show ¬ (40 : Int) = 22; decide)]
      unfold sO
      rw [if_neg (by show ¬ ((40 : Int) = 4 ∨ (40 : Int) = 5); decide), if_neg (by show ¬ (40 : Int) = 6; decide), if_neg (by show ¬ (40 : Int) = 7; decide), if_neg (by show ¬ (40 : Int) = 21; decide), if_pos rfl, if_neg (by show ¬ (K s.2.1 = 206 ∨ K s.2.1 = 207); omega)]
      rfl
    rw [e1, e2]
    exact v
  · show 0 + pEn (⟨40, K s.2.1, s.2.2.1, 0⟩ :: s.2.2.2) + (sW Ln s.2.1.toNat : Int) ≤ pEn s.2.2.2 + 2 * (s.2.1 + 1 - s.2.1) + (sW Ln (s.2.1 + 1).toNat : Int)
    rw [pEn_cons]
    split <;> omega
  · show 2 * 0 + pDo s.2.2.2 + 2 * (sW Ln s.2.1.toNat : Int) ≤ s.2.1 + 1 - s.2.1 + pDo (⟨40, K s.2.1, s.2.2.1, 0⟩ :: s.2.2.2) + 2 * (sW Ln (s.2.1 + 1).toNat : Int)
    rw [pDo_cons, if_neg (by show ¬ (40 : Int) = 7; decide), if_neg (by show ¬ (40 : Int) = 20; decide)]
    omega
theorem aM_40 {i b w : Int} (h : ν 129 i = 40 ∧ ν 130 i = b ∧ ν 131 i = w) : aM ν i ⟨40, b, w, 0⟩ :=
  ⟨h.1, fun _ => h.2, fun z => absurd z (by show ¬ (40 : Int) = 41; decide), fun z => absurd z (by show ¬ (40 : Int) = 23; decide), fun z => absurd z (by show ¬ (40 : Int) = 24; decide), fun z => absurd z (by show ¬ (40 : Int) = 28; decide), fun z => absurd z (by show ¬ (40 : Int) = 3; decide)⟩
theorem pTl.s6 : ∀ {p : List aE}, pTl p → 6 ∈ sP F p
  | [], ⟨_, h, _⟩ => by cases h
  | e :: r, ⟨x, hx, q⟩ => by
    rw [sP_cons]
    by_cases z : e.1 = 22
    · rw [if_pos z]; exact List.mem_cons_self ..
    · rw [if_neg z]
      refine List.mem_append_right _ ?_
      rcases List.mem_cons.mp hx with y | y
      · rw [y] at q; exact absurd q z
      · exact pTl.s6 ⟨x, y, q⟩
set_option maxHeartbeats 1000000 in
/-- pass 0: an AND or OR is counted -/
theorem J.and0 {b : Int} (hJ : J K W g s0 μ0 μ s) (w0 : μ 109 22 = 0) (Z : rZ K W s0 μ s G) (hm : s.1 = 3) (hb : b = 0 ∨ b = 1) (en : aNext K s = some ((2, s.2.1 + 1, s.2.2.1, ⟨40, K s.2.1, s.2.2.1, 0⟩ :: s.2.2.2), some (s.2.2.1, b))) {ν1 ν2 ν3 ν4 ν5 ν6 ν7 : ab_m} (m1 : mPu μ ν1 40 (K s.2.1) s.2.2.1) (e2 : ν2 = ab_mu ν1 137 (μ 109 51) b) (e3 : ν3 = ab_mu ν2 136 (μ 109 51) (μ 135 s.2.2.1)) (e4 : ν4 = ab_mu ν3 135 s.2.2.1 (μ 109 51)) (e5 : ν5 = ab_mu ν4 109 51 (μ 109 51 + 1)) (e6 : ν6 = ab_mu ν5 109 40 (s.2.1 + 1)) (e7 : ν7 = ab_mu ν6 109 39 2) : J K W g s0 μ0 ν7 (2, s.2.1 + 1, s.2.2.1, ⟨40, K s.2.1, s.2.2.1, 0⟩ :: s.2.2.2) ∧ aMs W (2, s.2.1 + 1, s.2.2.1, ⟨40, K s.2.1, s.2.2.1, 0⟩ :: s.2.2.2) < aMs W s := by
  obtain ⟨r1, r2, -, r4, r5⟩ := hJ.i.r
  have aq := aNext_q hJ.i.kk hJ.i.w _ _ en
  obtain ⟨q1, q2, q3, q4, q5, q6, q7⟩ := m1
  rw [r4] at q1 q2 q3 q4 q5
  have f : ∀ c j : Int, ¬ (129 ≤ c ∧ c ≤ 133 ∧ j = s.2.2.2.length) → ¬ (c = 109 ∧ (j = 38 ∨ j = 51 ∨ j = 40 ∨ j = 39)) → ¬ ((c = 136 ∨ c = 137) ∧ j = μ 109 51) → ¬ (c = 135 ∧ j = s.2.2.1) → ν7 c j = μ c j := fun c j z1 z2 z3 z4 => by
    rw [e7, ab_mud, if_neg (by omega), e6, ab_mud, if_neg (by omega), e5, ab_mud, if_neg (by omega), e4, ab_mud, if_neg (by omega), e3, ab_mud, if_neg (by omega), e2, ab_mud, if_neg (by omega)]
    exact q1 c j z1 (by omega)
  have pc : ∀ c, 129 ≤ c → c ≤ 133 → ν7 c s.2.2.2.length = ν1 c s.2.2.2.length := fun c z1 z2 => by
    rw [e7, ab_mud, if_neg (by omega), e6, ab_mud, if_neg (by omega), e5, ab_mud, if_neg (by omega), e4, ab_mud, if_neg (by omega), e3, ab_mud, if_neg (by omega), e2, ab_mud, if_neg (by omega)]
  have ri : rI K W g μ0 ν7 (2, s.2.1 + 1, s.2.2.1, ⟨40, K s.2.1, s.2.2.1, 0⟩ :: s.2.2.2) := by
    refine hJ.i.go en (fun c j z => f c j (fun y => z (by unfold rdW; omega)) (fun y => z (by unfold rdW; omega)) (fun y => z (by unfold rdW; omega)) (fun y => z (by unfold rdW; omega))) (fun j _ _ => Or.inl (f 121 j (by omega) (by omega) (by omega) (by omega))) (f 109 43 (by omega) (by omega) (by omega) (by omega)) ⟨?_, ?_, fun z => absurd (show (2 : Int) = 3 from z) (by decide), ?_, ?_, ?_⟩
    · rw [e7, ab_mud, if_pos ⟨rfl, rfl⟩]
    · rw [e7, ab_mud, if_neg (by omega), e6, ab_mud, if_pos ⟨rfl, rfl⟩]
    · show ν7 109 38 = ((_ :: s.2.2.2 : List aE).length : Int)
      rw [e7, ab_mud, if_neg (by omega), e6, ab_mud, if_neg (by omega), e5, ab_mud, if_neg (by omega), e4, ab_mud, if_neg (by omega), e3, ab_mud, if_neg (by omega), e2, ab_mud, if_neg (by omega), q2]
      simp
    · exact aM_40 ⟨by rw [pc 129 (by decide) (by decide)]; exact q3, by rw [pc 130 (by decide) (by decide)]; exact q4, by rw [pc 131 (by decide) (by decide)]; exact q5⟩
    · exact r5.same fun c i z1 z2 z3 z4 => f c i (by omega) (by omega) (by omega) (by omega)
  have e22 : ν7 109 22 = 0 := by rw [f 109 22 (by omega) (by omega) (by omega) (by omega)]; exact w0
  refine ⟨⟨ri, fun _ => ⟨_, Z.lay hJ.i en hb ?_ ?_ ?_ ?_ fun c j z => f c j (by omega) (by omega) (by omega) (by omega)⟩, fun z => by omega⟩, aq.ms⟩
  · rw [e7, ab_mud, if_neg (by omega), e6, ab_mud, if_neg (by omega), e5, ab_mud, if_neg (by omega), e4, ab_mud, if_neg (by omega), e3, ab_mud, if_neg (by omega), e2, ab_mud, if_pos ⟨rfl, rfl⟩]
  · rw [e7, ab_mud, if_neg (by omega), e6, ab_mud, if_neg (by omega), e5, ab_mud, if_neg (by omega), e4, ab_mud, if_neg (by omega), e3, ab_mud, if_pos ⟨rfl, rfl⟩]
  · rw [e7, ab_mud, if_neg (by omega), e6, ab_mud, if_neg (by omega), e5, ab_mud, if_neg (by omega), e4, ab_mud, if_pos ⟨rfl, rfl⟩]
  · rw [e7, ab_mud, if_neg (by omega), e6, ab_mud, if_neg (by omega), e5, ab_mud, if_pos ⟨rfl, rfl⟩]
set_option maxHeartbeats 1000000 in
/-- pass 1: an AND or OR -/
theorem J.and1 {b : Int} (hJ : J K W g s0 μ0 μ s) (w1 : μ 109 22 = 1) (O : rO K W g μ s Γ F dd Ln) (hm : s.1 = 3) (hk : K s.2.1 = 206 ∨ K s.2.1 = 207) (hb : b = 0 ∨ b = 1) (en : aNext K s = some ((2, s.2.1 + 1, s.2.2.1, ⟨40, K s.2.1, s.2.2.1, 0⟩ :: s.2.2.2), some (s.2.2.1, b))) {ν1 ν2 ν4 ν5 ν6 ν7 : ab_m} {x : Int} (m1 : mPu μ ν1 40 (K s.2.1) s.2.2.1) (m2 : mSp ν1 ν2 7 0 0) (e4 : ν4 = ab_mu ν2 132 s.2.2.2.length (μ 109 21)) (e5 : ν5 = ab_mu ν4 117 (9000 * g + μ 109 21) x) (e6 : ν6 = ab_mu ν5 109 40 (s.2.1 + 1)) (e7 : ν7 = ab_mu ν6 109 39 2) : J K W g s0 μ0 ν7 (2, s.2.1 + 1, s.2.2.1, ⟨40, K s.2.1, s.2.2.1, 0⟩ :: s.2.2.2) ∧ aMs W (2, s.2.1 + 1, s.2.2.1, ⟨40, K s.2.1, s.2.2.1, 0⟩ :: s.2.2.2) < aMs W s := by
  have v0 := hJ.v0 fun _ => O
  rw [hm] at v0
  obtain ⟨r1, r2, r3, r4, r5⟩ := hJ.i.r
  have room := hJ.room (fun _ => O) w1
  have aq := aNext_q hJ.i.kk hJ.i.w _ _ en
  obtain ⟨hp, hd, op0, opa⟩ := hJ.i.w.m3 hm
  obtain ⟨F', rest', eF⟩ := O.rest.next en
  have eF : F = fun x => if x = s.2.2.1 then b :: F' x else F' x := eF
  have cop : cF F s.2.2.1 = cF F' s.2.2.1 + 1 := by
    rw [eF]; unfold cF; dsimp only; rw [if_pos rfl, List.filter_cons, if_pos (by simp; omega)]; rfl
  have cne : ∀ w, w ≠ s.2.2.1 → cF F' w = cF F w := fun w z => by rw [eF]; unfold cF; dsimp only; rw [if_neg z]
  have sp : sP F' s.2.2.2 = sP F s.2.2.2 := sP_same fun y hy hr => by
    have := hd.mem hp y hy hr
    rw [eF]; dsimp only; rw [if_neg (by omega)]
  obtain ⟨q1, q2, q3, q4, q5, q6, q7⟩ := m1
  rw [r4] at q1 q2 q3 q4 q5
  have h20 : ν1 109 20 = g := by rw [q1 109 20 (by omega) (by omega)]; exact hJ.i.hf
  have h21 : ν1 109 21 = μ 109 21 := q1 109 21 (by omega) (by omega)
  obtain ⟨p1, p2, p3, p4, p5⟩ := m2
  rw [h20, h21] at p1 p3 p4 p5
  rw [h21] at p2
  -- the step without the entry
  let νh : ab_m := fun c j => if (129 ≤ c ∧ c ≤ 133 ∧ j = (s.2.2.2.length : Int)) ∨ (c = 109 ∧ j = 38) then μ c j else ν4 c j
  have hh1 : ∀ c j : Int, (129 ≤ c ∧ c ≤ 133 ∧ j = (s.2.2.2.length : Int)) ∨ (c = 109 ∧ j = 38) → νh c j = μ c j := fun c j z => if_pos z
  have hh2 : ∀ c j : Int, ¬ ((129 ≤ c ∧ c ≤ 133 ∧ j = (s.2.2.2.length : Int)) ∨ (c = 109 ∧ j = 38)) → νh c j = ν4 c j := fun c j z => if_neg z
  have f4 : ∀ c j : Int, ¬ (129 ≤ c ∧ c ≤ 133 ∧ j = (s.2.2.2.length : Int)) → ν4 c j = ν2 c j := fun c j z => by rw [e4, ab_mud, if_neg (by omega)]
  have st : mSp μ νh 7 0 0 := by
    refine ⟨fun c j z1 z2 => ?_, ?_, ?_, ?_, ?_⟩
    · rw [hJ.i.hf] at z1
      by_cases z : (129 ≤ c ∧ c ≤ 133 ∧ j = (s.2.2.2.length : Int)) ∨ (c = 109 ∧ j = 38)
      · exact hh1 c j z
      · rw [hh2 c j z, f4 c j (by omega), p1 c j z1 z2]; exact q1 c j (by omega) (by omega)
    · rw [hh2 _ _ (by omega), f4 _ _ (by omega)]; exact p2
    · rw [hJ.i.hf, hh2 _ _ (by omega), f4 _ _ (by omega)]; exact p3
    · rw [hJ.i.hf, hh2 _ _ (by omega), f4 _ _ (by omega)]; exact p4
    · rw [hJ.i.hf, hh2 _ _ (by omega), f4 _ _ (by omega)]; exact p5
  have hp0 := hp.h0
  have mv : tMv 7 (tAr (tEv μ g dd) 7 0) (hQ s) (sQ F s) = some (hP s.2.2.2, 2 :: (oN (cF F' s.2.2.1) ++ sP F s.2.2.2)) := by
    rw [hQ_3 hm, sQ_3 hm, cop]
    show (if 1 ≤ hP s.2.2.2 + 1 ∧ (1 :: (oN (cF F' s.2.2.1) ++ sP F s.2.2.2)).head? = some 1 then some (hP s.2.2.2 + 1 - 1, 2 :: (1 :: (oN (cF F' s.2.2.1) ++ sP F s.2.2.2)).tail) else none) = _
    rw [if_pos ⟨by omega, rfl⟩]
    congr 2
    omega
  obtain ⟨vh, hS, hT⟩ := v0.step w1 st (by omega) mv (fun _ _ _ => tVk_n (by decide)) (by decide) (by decide)
  clear hT
  have b4 : ∀ c, 129 ≤ c → c ≤ 133 → c ≠ 132 → ν4 c s.2.2.2.length = ν1 c s.2.2.2.length := fun c z1 z2 z3 => by rw [e4, ab_mud, if_neg (by omega), p1 c _ (by omega) (by omega)]
  have c132 : ν4 132 s.2.2.2.length = μ 109 21 := by rw [e4, ab_mud, if_pos ⟨rfl, rfl⟩]
  have v4 := vh.put (e := ⟨40, K s.2.1, s.2.2.1, 0⟩) (ν' := ν4) (ex' := fun _ => False) (kp' := s.2.2.2.length) (fun c j z1 z2 => (hh2 c j (by omega)).symm) (by rw [f4 109 38 (by omega), p1 109 38 (by omega) (by omega)]; exact q2) (aM_40 ⟨by rw [b4 129 (by decide) (by decide) (by decide)]; exact q3, by rw [b4 130 (by decide) (by decide) (by decide)]; exact q4, by rw [b4 131 (by decide) (by decide) (by decide)]; exact q5⟩) ⟨Int.le_refl _, Int.le_refl _⟩ fun _ Γ' x' Gk => by
    have gn := Gk (μ 109 21) (by omega) (Int.le_refl _)
    refine ⟨eF_40 rfl fun _ => ⟨?_, fun z => ?_⟩, fun z => absurd z (by show ¬ ((40 : Int) = 3 ∨ (40 : Int) = 6 ∨ (40 : Int) = 7); decide), fun z => absurd z (by show ¬ (40 : Int) = 7; decide), fun z => absurd z (by show ¬ ((40 : Int) = 6 ∨ (40 : Int) = 7 ∨ (40 : Int) = 21); decide), fun j z => Or.inl ?_⟩
    · rw [c132]
      refine ⟨by omega, by omega, ?_, ?_, ?_⟩
      · show ν4 115 _ = 7
        rw [f4 115 _ (by omega)]; exact p3
      · rw [gn.1, O.x.ch, hQ_3 hm]
      · rw [gn.2.2.2.1, O.x.cr, x'.cr]
    · rw [c132, gn.2.1, O.x.cs, sQ_3 hm]
      exact List.mem_append_right _ z.s6
    · have z : j = μ 109 21 := by
        rcases z with z | z
        · exact z.elim
        · have := z.2; omega
      exact Or.inr (Or.inr (Or.inl ⟨by rw [b4 129 (by decide) (by decide) (by decide)]; exact q3, by rw [b4 130 (by decide) (by decide) (by decide), q4]; exact hk, by rw [c132]; exact z⟩))
  have at0 := hJ.at'
  have v7 := ((v4.o117 e5 (by omega)).fa e6).fm e7
  have e22 : ν7 109 22 = μ 109 22 := v7.ps
  have ri : rI K W g μ0 ν7 (2, s.2.1 + 1, s.2.2.1, ⟨40, K s.2.1, s.2.2.1, 0⟩ :: s.2.2.2) := hJ.i.go en v7.fr (fun j _ _ => Or.inl (v7.rs j)) (by rw [v7.ft, hJ.i.ft]) ⟨v7.md, v7.at', fun z => absurd (show (2 : Int) = 3 from z) (by decide), v7.ln, v7.ap⟩
  refine ⟨⟨ri, fun z => by omega, fun _ => ?_⟩, aq.ms⟩
  obtain ⟨Γ', x, n, Gk, ww⟩ := v7.one w1
  have e32 := v7.nf 109 32 (by omega)
  have e27 := v7.nf 109 27 (by omega)
  have n0 := O.x.n0
  have b3 := O.bu
  have b4' := O.bw
  have r0 := (O.x.tr n0 (Int.le_refl _)).r0
  have hr : Γ'.2.2.2.1 (μ 109 21 + (0 + 1)) = Γ.2.2.2.1 (μ 109 21) := by rw [x.cr, O.x.cr]
  have sl : (sW Ln s.2.1.toNat : Int) ≤ sW Ln (s.2.1 + 1).toNat := sW_at at0.1 (by omega)
  have bk : bK (⟨40, K s.2.1, s.2.2.1, 0⟩ :: s.2.2.2) = bK s.2.2.2 := bK_cons hp.ne
  refine ⟨Γ', F', dd, Ln, ⟨?_, rest', fun y a1 a2 => ?_, fun y c hc h2 => ?_, O.tot, ?_, ?_, ?_, by rw [show bK ((2, s.2.1 + 1, s.2.2.1, ⟨40, K s.2.1, s.2.2.1, 0⟩ :: s.2.2.2) : aS).2.2.2 = bK s.2.2.2 from bk, e32]; exact O.b3, fun z => ?_, fun z => absurd z (List.cons_ne_nil _ _)⟩⟩
  · rw [n, e32]
    have e1 : hQ (2, s.2.1 + 1, s.2.2.1, ⟨40, K s.2.1, s.2.2.1, 0⟩ :: s.2.2.2) = hP s.2.2.2 := by
      rw [hQ_m (s := (2, s.2.1 + 1, s.2.2.1, ⟨40, K s.2.1, s.2.2.1, 0⟩ :: s.2.2.2)) (by show (2 : Int) ≠ 3; decide), hP_cons, if_neg (fun z => z.2 hk), if_neg (by show ¬ (40 : Int) = 28; decide), if_neg (by show ¬ (40 : Int) = 27; decide)]
      omega
    have e2 : sQ F' (2, s.2.1 + 1, s.2.2.1, ⟨40, K s.2.1, s.2.2.1, 0⟩ :: s.2.2.2) = 2 :: (oN (cF F' s.2.2.1) ++ sP F s.2.2.2) := by
      rw [sQ_m (s := (2, s.2.1 + 1, s.2.2.1, ⟨40, K s.2.1, s.2.2.1, 0⟩ :: s.2.2.2)) (by show (2 : Int) ≠ 3; decide), sP_cons, if_neg (by show ¬ (40 : Int) = 22; decide), sp]
      unfold sO
      rw [if_neg (by show ¬ ((40 : Int) = 4 ∨ (40 : Int) = 5); decide), if_neg (by show ¬ (40 : Int) = 6; decide), if_neg (by show ¬ (40 : Int) = 7; decide), if_neg (by show ¬ (40 : Int) = 21; decide), if_pos rfl, if_pos hk]
      rfl
    rw [e1, e2]
    exact x.more fun j _ _ _ z => Or.inl (z.elim id False.elim)
  · have a1 : s.2.1 + 1 ≤ y := a1
    obtain ⟨bs, t1, t2, t3⟩ := O.tb y (by omega) a2
    exact ⟨bs, by rw [v7.tb 135 y (by omega)]; exact t1.same fun c j hc => v7.tb c j (by omega), t2, by rw [cne y (by omega)]; exact t3⟩
  · rw [v7.tb 134 y (by omega)]
    refine O.xc y c ?_ h2
    rw [eF]
    dsimp only
    split
    · exact List.mem_cons_of_mem _ hc
    · exact hc
  · rw [n]
    show μ 109 21 + (0 + 1) + pEn (⟨40, K s.2.1, s.2.2.1, 0⟩ :: s.2.2.2) ≤ 2 * (s.2.1 + 1) + (sW Ln (s.2.1 + 1).toNat : Int)
    rw [pEn_cons]
    split <;> omega
  · rw [n, ww]
    show 2 * (Γ.2.2.1 (μ 109 21) + (0 + tPu 7)) ≤ s.2.1 + 1 + pDo (⟨40, K s.2.1, s.2.2.1, 0⟩ :: s.2.2.2) + 2 * (sW Ln (s.2.1 + 1).toNat : Int)
    rw [pDo_cons, if_neg (by show ¬ (40 : Int) = 7; decide), if_neg (by show ¬ (40 : Int) = 20; decide), show tPu 7 = 0 from rfl]
    omega
  · rw [n]
    refine O.nm.same (v7.toTX Gk) n0 (by omega) hr r0 (fun c j z => v7.nf c j (by omega)) ?_ ?_ (by show s.2.1 ≤ s.2.1 + 1; omega) ?_
    · rw [e27]; have := O.nm.nm; omega
    · exact dD (v7.nf 123 g (by omega)).symm fun j => (v7.nf 122 j (by omega)).symm
    · rw [e27]; exact nB_cons (by show (40 : Int) ≠ 1 ∧ (40 : Int) ≠ 2 ∧ (40 : Int) ≠ 3; decide) (v7.nb O.nm.nb (Int.le_refl _))
  · have z : bK (⟨40, K s.2.1, s.2.2.1, 0⟩ :: s.2.2.2) = 1 := z
    rw [bk] at z
    obtain ⟨c1, c2, c3, c4, c5, c6⟩ := O.b1 z
    obtain ⟨g1, g2, g3, g4, g5⟩ := Gk _ c1 c2
    rw [e32, v7.nf 124 g (by omega), n]
    exact ⟨c1, by omega, by rw [g4]; exact c3, by rw [g1]; exact c4, by rw [g2]; exact c5, by rw [g5]; exact c6⟩
end M55

