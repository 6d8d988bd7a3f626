/-! THE CLASS, part k40: defs -/
section K40
variable {X : jm_X} {d e : Nat} {P : Int → ab_m → Prop} {μ μ' μ0 μ1 μ2 : ab_m} {s t τ t' τ' ζ δ b b' H H' κ κ' o o' k k' n0 D : Int} {Z Z' : Int → Prop} {Γ : scG} {Lb Ln Lb' Ln' A B A' B' : List Int} {G G' : Prop}
/-- a def ends: the next region begins -/
theorem zGG.addD (h : zGG μ s Γ ζ δ b Z 0 κ) (hd : 0 ≤ δ) (k3 : κ ≤ 30) (n0 : 0 ≤ μ s 4) (hz : μ (s + 6) δ = ζ) (hZ : ∀ k, ¬ Z k) (en : μ' s 4 = μ s 4 + 1) (eo : μ' (s + 1) (μ s 4) = 34) (ew : μ' (s + 3) (μ s 4) = -1) (e7d : μ' (s + 7) δ = μ s 4) (ek : ∀ c k, s + 1 ≤ c → c ≤ s + 4 → k ≠ μ s 4 → μ' c k = μ c k) (e : ∀ j, j ≠ 4 → μ' s j = μ s j) (e56 : ∀ c j, c = s + 5 ∨ c = s + 6 ∨ c = s + 8 ∨ c = s + 9 → μ' c j = μ c j) (e7 : ∀ j, j ≠ δ → μ' (s + 7) j = μ (s + 7) j) (n7 : μ' 7 3 = b) (e9 : ∀ c j, c = 9 ∨ c = 10 → μ' c j = μ c j) : zG μ' s (μ s 4 + 1) (-1) b Z' 0 0 := by
  obtain ⟨z, b0, cu, rz, rm, st, mi, df, cd, nm, hb, ro⟩ := h
  have e6 := e 6 (by decide)
  have e8 := e 8 (by decide)
  have e10 := e 10 (by decide)
  have hc : δ + 1 = μ s 10 ∧ 0 ≤ μ (s + 8) δ ∧ (0 ≤ μ (s + 9) δ ∧ μ (s + 9) δ ≤ 6) ∧ μ (s + 8) δ + μ (s + 9) δ ≤ 3000 := by
    rcases cd with c | c
    · omega
    · exact c.2
  have r1 : rho μ s δ = δ := by unfold rho; rw [if_neg (by omega)]
  have r2 : rho μ' s (-1) = δ + 1 := by unfold rho; rw [if_pos rfl, e10]; omega
  rw [r1] at rz rm df
  have na : ∀ x, wOk μ s x → wOk μ' s x ∨ x = μ s 4 := fun x hx => by
    by_cases q : x = μ s 4
    · exact Or.inr q
    · obtain ⟨L, w1, w2⟩ := hx
      exact Or.inl ⟨L, by rw [ek _ x (by omega) (by omega) q]; exact w1.on fun y hy => ek _ y (by omega) (by omega) (by have := w2 y hy; omega), fun y hy => by have := w2 y hy; omega⟩
  have wn : ∀ j x, 0 ≤ j → j < μ s 4 → wOn μ s j x → wOn μ' s j x := fun j x _ q hx => by
    obtain ⟨L, w1, w2, w3⟩ := hx
    exact ⟨L, by rw [ek _ j (by omega) (by omega) (by omega)]; exact w1.on fun y hy => ek _ y (by omega) (by omega) (by have := w2 y hy; omega), fun y hy => by have := w2 y hy; omega, w3⟩
  generalize hn : μ s 4 = n at *
  obtain ⟨G, gh, gr, gz, gq, gh1, gr1, gz1, gq1⟩ : ∃ G : scG, (∀ k, k ≤ n → G.1 k = Γ.1 k) ∧ (∀ k, k ≤ n → G.2.1 k = Γ.2.1 k) ∧ (∀ k, k ≤ n → G.2.2.1 k = Γ.2.2.1 k) ∧ (∀ k, k ≤ n → G.2.2.2.1 k = Γ.2.2.2.1 k) ∧ G.1 (n + 1) = 0 ∧ G.2.1 (n + 1) = δ + 1 ∧ G.2.2.1 (n + 1) = n + 1 ∧ G.2.2.2.1 (n + 1) = 0 :=
    ⟨⟨fun k => if k = n + 1 then 0 else Γ.1 k, fun k => if k = n + 1 then δ + 1 else Γ.2.1 k, fun k => if k = n + 1 then n + 1 else Γ.2.2.1 k, fun k => if k = n + 1 then 0 else Γ.2.2.2.1 k, Γ.2.2.2.2⟩, fun k q => if_neg (ol5 q), fun k q => if_neg (ol5 q), fun k q => if_neg (ol5 q), fun k q => if_neg (ol5 q), if_pos rfl, if_pos rfl, if_pos rfl, if_pos rfl⟩
  have rzn := rz n z.2.1 (Int.le_refl _)
  have rzz := rz ζ (Int.le_refl _) z.2.1
  have gn := gh n (Int.le_refl _)
  have grn := gr n (Int.le_refl _)
  refine ⟨G, ⟨by omega, by rw [en]; exact Int.le_refl _, gh1⟩, ⟨by rw [gh 0 n0]; exact b0.1, by rw [gr 0 n0]; exact b0.2.1, by rw [gz 0 n0]; exact b0.2.2⟩, by rw [en, gh1, gq1]; decide, fun k x y => ?_, fun k x y => ?_, fun k x y => ?_, fun k x y q => ?_, fun x p q => ?_, Or.inl rfl, fun i x y => ?_, ⟨hb.1, by rw [n7]; exact Int.le_refl _⟩, fun x p q => by rw [e56 _ _ (Or.inl rfl)]; exact ro x p (by omega)⟩
  · rw [en] at y
    have : k = n + 1 := by omega
    rw [this, r2]; exact ⟨gr1, gz1⟩
  · rw [r2, gr k (by omega)]
    by_cases q : k < ζ
    · have := rm k x q; omega
    · have := (rz k (by omega) (by omega)).1; omega
  · rw [en] at y
    by_cases q : k = n
    · subst q
      refine ⟨Or.inl ⟨eo, by rw [gn]; exact cu.1, gh1, by rw [gr1, grn, rzn.1], gz1⟩, by rw [gq k (Int.le_refl _)]; omega, fun q => by omega, fun q => by omega, fun q => by omega, fun q => by omega, fun q => by omega, fun q => by omega, fun q => by omega, fun q => by omega, ⟨[], by rw [ew]; rfl, fun y hy => by simp at hy⟩⟩
    · have hw : wOk μ' s k := (na k (st k x (by omega)).wr).resolve_right q
      exact (st k x (by omega)).on (by omega) hn en (fun k q => ⟨ek _ k (by omega) (by omega) (by omega), ek _ k (by omega) (by omega) (by omega)⟩) e6 e8 e10 (fun c j p q => e56 c j (by omega)) gh gr gz gq hw wn
  · rw [en] at y
    by_cases c : k = n
    · subst c; rw [eo] at q; omega
    · rw [ek _ k (by omega) (by omega) c]
      rw [ek _ k (by omega) (by omega) c] at q
      rcases mi k x (by omega) q with w | w
      · exact Or.inl w
      · exact absurd w (hZ k)
  · rw [r2] at q
    by_cases c : x = δ
    · subst c
      refine ⟨?_, ?_, ?_⟩
      · rw [e56 _ _ (by omega), hz, en, gr _ z.2.1, gh _ z.2.1, gz _ z.2.1]
        exact ⟨by omega, rzz.1, z.2.2, rzz.2⟩
      · rw [e7d, en, grn]; exact ⟨by omega, rzn.1⟩
      · rw [e56 _ _ (by omega), e56 _ _ (by omega)]; exact hc.2
    · obtain ⟨b1, b2, b3⟩ := df x p (by omega)
      rw [hn] at b1 b2
      refine ⟨?_, ?_, ?_⟩
      · rw [e56 _ _ (by omega), en, gr _ (by omega), gh _ (by omega), gz _ (by omega)]; exact ⟨by omega, b1.2⟩
      · rw [e7 _ c, en, gr _ (by omega)]; exact ⟨by omega, b2.2⟩
      · rw [e56 _ _ (by omega), e56 _ _ (by omega)]; exact b3
  · obtain ⟨n1, n2, n3⟩ := nm i x (by omega)
    have q9 := e9 9 i (Or.inl rfl)
    have q10 := e9 10 i (Or.inr rfl)
    refine ⟨?_, by rw [q9, q10, e8]; exact n2, ?_⟩
    · rw [q9, q10, e6]
      intro q
      refine ⟨(n1 q).1, ?_⟩
      rcases (n1 q).2 with w | w
      · exact Or.inl w
      · have := w.1; omega
    · rw [q9, q10, r2]
      intro q
      have := n3 q
      rw [r1] at this
      omega
theorem c_addR {q op arg : Int} (hs : ab_is 10 s) (hq : q = s) (n0 : 0 ≤ μ s 4 ∧ μ s 4 ≤ 3002) (hP : ∀ r μ', (μ s 4 ≤ 3001 ∧ r = μ s 4 ∧ zS s μ μ' op arg) ∨ (μ s 4 = 3002 ∧ r = 3001 ∧ μ' = μ) → P r μ') : jj_mSc_add X d 0 (ab_la [q, op, arg]) [] μ P := by
  subst hq
  refine bk_mSc_add_0 hs ?_
  have hs : q = 16 ∨ q = 26 := hs
  simp only [la0, la1, la2]
  refine ⟨fun z => ⟨by omega, fun μ1 e1 => ?_⟩, fun z => ?_⟩
  · have g1 : μ1 q 4 = μ q 4 := by rw [e1, mu_ne (by omega)]
    rw [g1]
    refine ⟨by omega, fun μ2 e2 => ?_⟩
    have g2 : μ2 q 4 = μ q 4 := by rw [e2, mu_ne (by omega)]; exact g1
    rw [g2]
    refine ⟨by omega, fun μ3 e3 => ?_⟩
    have g3 : μ3 q 4 = μ q 4 := by rw [e3, mu_ne (by omega)]; exact g2
    rw [g3]
    refine ⟨by omega, fun μ4 e4 μ5 e5 => ?_⟩
    have g4 : μ4 q 4 = μ q 4 := by rw [e4, mu_ne (by omega)]; exact g3
    rw [g4, show ab_w (μ q 4 + 1) = μ q 4 + 1 from ab_wi (by omega) (by omega)] at e5
    have n5 : μ5 q 4 = μ q 4 + 1 := by rw [e5, ab_mud, if_pos ⟨rfl, rfl⟩]
    rw [n5, show ab_w (μ q 4 + 1 - 1) = μ q 4 by rw [ab_wi (by omega) (by omega)]; omega]
    refine hP _ μ5 (Or.inl ⟨by omega, rfl, n5, ?_, ?_, ⟨?_, ?_⟩, fun c j x y => ?_⟩)
    · rw [e5, mu_ne (by omega), e4, mu_ne (by omega), e3, mu_ne (by omega), e2, mu_ne (by omega), e1, ab_mud, if_pos ⟨rfl, rfl⟩]
    · rw [e5, mu_ne (by omega), e4, mu_ne (by omega), e3, mu_ne (by omega), e2, ab_mud, if_pos ⟨rfl, rfl⟩]
    · rw [e5, mu_ne (by omega), e4, mu_ne (by omega), e3, ab_mud, if_pos ⟨rfl, rfl⟩]
    · rw [e5, mu_ne (by omega), e4, ab_mud, if_pos ⟨rfl, rfl⟩]
    · rw [e5, ab_mud, if_neg x, e4, ab_mud, if_neg (by omega), e3, ab_mud, if_neg (by omega), e2, ab_mud, if_neg (by omega), e1, ab_mud, if_neg (by omega)]
  · exact hP _ μ (Or.inr ⟨by omega, rfl, rfl⟩)
theorem c_u_openRound (h : zU s G μ0 μ t τ o k) (hP : ∀ μ' k', zU s G μ0 μ' (t - 1) (τ - 1) (o + 1) k' → P 0 μ') : jj_mRe_openRound X (d + 2) 0 (ab_la [2]) [] μ P :=
  bk_mRe_openRound_0 rfl (c_u_kind h fun r hr => ⟨fun q => c_u_expect h (by decide) fun μ1 k1 u1 a1 => by
    have z : μ1 2 4 ≠ 0 := fun z => by
      have := a1 z
      rcases hr with hr | hr
      · exact hr.1 this.1
      · omega
    exact hP μ1 0 (u1.stop z _ _ _ _), fun q => c_u_openOne h fun μ1 u1 => c_u_expect u1 (by decide) fun μ2 k2 u2 _ => hP μ2 k2 u2⟩)
theorem c_u_closeRound (h : zU s G μ0 μ t τ (o + 1) k) (o0 : 0 ≤ o) (hP : ∀ μ' k', zU s G μ0 μ' (t - 1) (τ - 1) o k' → P 0 μ') : jj_mRe_closeRound X (d + 2) 0 (ab_la [2]) [] μ P :=
  bk_mRe_closeRound_0 rfl (c_u_expect h (by decide) fun μ1 k1 u1 _ μ2 e2 => hP μ2 k1 (u1.down o0 e2))
end K40
/-- what the list of a def's names leaves as it was -/
def zFl (s D : Int) (μ0 μ : ab_m) : Prop := (∀ c j, ¬ (c = 2 ∧ 3 ≤ j ∧ j ≤ 8) → ¬ (7 ≤ c ∧ c ≤ 10 ∧ ¬ (c = 7 ∧ j = 4)) → ¬ (c = s ∧ j = 7) → ¬ ((c = s + 8 ∨ c = s + 9) ∧ j = D) → μ c j = μ0 c j) ∧ (μ0 7 3 ≤ μ 7 3)
theorem zFl.f {s D : Int} {μ0 μ : ab_m} (h'' : zFl s D μ0 μ) : ∀ c j, ¬ (c = 2 ∧ 3 ≤ j ∧ j ≤ 8) → ¬ (7 ≤ c ∧ c ≤ 10 ∧ ¬ (c = 7 ∧ j = 4)) → ¬ (c = s ∧ j = 7) → ¬ ((c = s + 8 ∨ c = s + 9) ∧ j = D) → μ c j = μ0 c j := h''.1
theorem zFl.c {s D : Int} {μ0 μ : ab_m} (h'' : zFl s D μ0 μ) : μ0 7 3 ≤ μ 7 3 := h''.2
section K40
variable {X : jm_X} {d e : Nat} {P : Int → ab_m → Prop} {μ μ' μ0 μ1 μ2 : ab_m} {s t τ t' τ' ζ δ b b' H H' κ κ' o o' k k' n0 D : Int} {Z Z' : Int → Prop} {Γ : scG} {Lb Ln Lb' Ln' A B A' B' : List Int} {G G' : Prop}
theorem zFl.trans (h : zFl s D μ0 μ1) (h' : zFl s D μ1 μ) : zFl s D μ0 μ := ⟨fun c j a e f g => by rw [h'.f c j a e f g, h.f c j a e f g], Int.le_trans h.c h'.c⟩
theorem zU.l (h : zU s G μ0 μ t τ o k) : zFl s D μ0 μ := ⟨fun c j a _ _ _ => h.f c j a, by rw [h.f 7 3 (by decide)]; exact Int.le_refl _⟩
/-- the names of a def's list are being told -/
def zGl (μ : ab_m) (s D b x : Int) : Prop := zG μ s (μ s 4) D b (fun _ => False) 0 0 ∧ μ (s + 8) D + μ (s + 9) D = 1500 + x + μ s 7
theorem zGl.same {x : Int} (hs : s = 16 ∨ s = 26) (h : zGl μ s D b x) (e : ∀ c j, c ≠ 2 → ¬ (c = 7 ∧ j = 4) → μ' c j = μ c j) : zGl μ' s D b x := by
  obtain ⟨⟨Γ, gg⟩, h2⟩ := h
  unfold zGl
  rw [e s 4 (by omega) (by omega), e s 7 (by omega) (by omega), e _ _ (by omega) (by omega), e _ _ (by omega) (by omega)]
  exact ⟨⟨Γ, gg.same (fun j _ _ => e s j (by omega) (by omega)) (fun c j x y => e c j (by omega) (by omega)) (e 7 3 (by decide) (by decide)) fun c j x => e c j (by omega) (by omega)⟩, h2⟩
theorem zGl.of {x : Int} (h' : zU s (zGl μ s D b x) μ μ' t' τ' o' k') : zU s (zGl μ' s D b x) μ' μ' t' τ' o' k' := by
  have hs : s = 16 ∨ s = 26 := h'.i.hs
  exact h'.base fun q => (h'.g q).same hs fun c j x _ => h'.f c j (by omega)
/-- other numbers of the def under way -/
theorem zGG.lst {N : Int} (hs : s = 16 ∨ s = 26) (h : zGG μ s Γ (μ s 4) D b Z H κ) (hD : 0 ≤ D) (e : ∀ c j, ¬ (c = s + 9 ∧ j = D) → μ' c j = μ c j) (hN : μ' (s + 9) D = N) (n1 : 0 ≤ N ∧ N ≤ 6) (n2 : μ (s + 8) D + N ≤ 3000) (n3 : μ (s + 9) D ≤ N) : zGG μ' s Γ (μ s 4) D b Z H κ := by
  have es : ∀ j, μ' s j = μ s j := fun j => e s j (by omega)
  have er : rho μ' s D = rho μ s D := by unfold rho; rw [es]
  have rd : rho μ s D = D := by unfold rho; rw [if_neg (by omega)]
  have hc : D + 1 = μ s 10 ∧ 0 ≤ μ (s + 8) D := by
    rcases h.cd with c | c
    · omega
    · exact ⟨c.2.1, c.2.2.1⟩
  refine h.grow (es 4) (by rw [es]; exact Int.le_refl _) (by rw [es]; exact Int.le_refl _) (by rw [es]; exact Int.le_refl _) er (fun c j x y => e c j (by omega)) (fun c j x y q => e c j (by omega)) ?_ (fun i x y => ?_) (by rw [e 7 3 (by omega)]; exact h.b) fun x p r => by rw [e _ _ (by omega)]; rw [es] at r; exact h.ro x p r
  · rw [es, e (s + 8) D (by omega), hN]; exact Or.inr ⟨hD, hc.1, hc.2, n1, n2⟩
  · rw [e 7 3 (by omega)] at y
    obtain ⟨a1, a2, a3⟩ := h.nm i x y
    refine ⟨?_, by rw [e 9 i (by omega), e 10 i (by omega), es]; exact a2, by rw [e 9 i (by omega), e 10 i (by omega), er]; exact a3⟩
    rw [e 9 i (by omega), e 10 i (by omega)]
    unfold zNa
    rw [es, es, e (s + 8) D (by omega), hN]
    intro u
    refine ⟨(a1 u).1, ?_⟩
    rcases (a1 u).2 with v | ⟨v, w⟩
    · exact Or.inl v
    · refine Or.inr ⟨v, ?_⟩
      rcases w with w | w | ⟨j, w⟩
      · exact Or.inl w
      · exact Or.inr (Or.inl (by omega))
      · have := w.1; have := w.2.1; omega
theorem c_tellList {μ3 : ab_m} (h : zU s (∀ f, 0 ≤ f → f ≤ 3000 → zG (ab_mu (ab_mu μ3 (s + 8) D f) (s + 9) D 0) s (μ3 s 4) D b (fun _ => False) 0 0) μ3 μ t τ 0 k) (hD : 0 ≤ D ∧ D < 15) (t2 : τ ≤ -2) (hP : ∀ μ' k', zU s (zG μ' s (μ' s 4) D b (fun _ => False) 0 0) μ' μ' t τ 0 k' → zFl s D μ μ' → P 0 μ') : jj_mRe_tellList X (d + 3) 0 (ab_la [2, D]) [] μ P := by
  have hs : s = 16 ∨ s = 26 := h.i.hs
  have bad : ∀ (μ1 : ab_m), zFl s D μ μ1 → μ1 2 4 ≠ 0 → (∀ t' τ' o' k', ∃ G, zU s G μ1 μ1 t' τ' o' k') → P 0 μ1 := fun μ1 f z u => by
    obtain ⟨G, u⟩ := u t τ 0 0
    exact hP μ1 0 (u.base fun q => absurd q (u.i.sf (Or.inl z))) f
  have cl : ∀ (μ1 : ab_m) (k1 : Int), zU s (zGl μ1 s D b 0) μ1 μ1 t (τ - 1 + 1) 1 k1 → zFl s D μ μ1 → jj_mRe_closeRound X (d + 2) 0 (ab_la [2]) [] μ1 (fun r μ' => P 0 μ') := fun μ1 k1 u1 f1 => c_u_closeRound (o := 0) u1 (Int.le_refl _) fun μ2 k2 u2 => by
    have v := zGl.of u2
    exact hP μ2 k2 ((v.base fun q => (v.g q).1).weak (by omega) (by omega)) (f1.trans u2.l)
  have s57 : ∀ (m : Nat) (l : ab_l) (μ1 : ab_m) (lf mo k1 : Int), l 0 = 2 → l 1 = D → l 2 = mo → l 3 = lf → lf ≤ 3001 → lf.toNat = m → zU s (zGl μ1 s D b 0) μ1 μ1 t (if mo = 0 then τ - 1 + 1 else τ - 1) 1 k1 → zFl s D μ μ1 → jj_mRe_tellList X (d + 3) 57 l [] μ1 P := by
    intro m
    induction m with
    | zero =>
      intro l μ1 lf mo k1 l0 l1 l2 l3 lf1 em u1 f1
      refine bk_mRe_tellList_57 l0 ?_
      rw [l1, l2, l3]
      exact ⟨fun _ => cl μ1 k1 (u1.weak (Int.le_refl _) (by split <;> omega)) f1, fun q => by omega⟩
    | succ m ih =>
      intro l μ1 lf mo k1 l0 l1 l2 l3 lf1 em u1 f1
      obtain ⟨lf2, lf3, lf4⟩ := lfm lf1 em
      have u1' := u1.weak (t' := t) (τ' := τ - 1 + 1) (Int.le_refl _) (by split <;> omega)
      refine bk_mRe_tellList_57 l0 ?_
      rw [l1, l2, l3]
      refine ⟨fun _ => cl μ1 k1 u1' f1, fun lf0 => ⟨fun _ => cl μ1 k1 u1' f1, fun mo0 => ?_⟩⟩
      rw [if_neg mo0] at u1
      have s119 : ∀ (l : ab_l) (μ2 : ab_m), l 0 = 2 → l 1 = D → l 3 = lf → zU s (zGl μ2 s D b 1 ∧ 1 ≤ μ2 (s + 9) D) μ2 μ2 t (τ - 1) 1 33 → zFl s D μ μ2 → jj_mRe_tellList X (d + 3) 119 l [] μ2 P := by
        intro l μ2 l0 l1 l3 u2 f2
        refine bk_mRe_tellList_119 l0 ?_
        rw [l3, lf4]
        have lo := u2.i.nu.2.1
        have tk : ∀ (μ3 : ab_m) (r : Int), (∀ c j, ¬ (c = s ∧ j = 7) → μ3 c j = μ2 c j) → (0 ≤ μ3 s 7 ∧ μ3 s 7 ≤ 1499) → μ3 s 7 ≤ μ2 s 7 + 1 → r = 1499 + μ3 s 7 → 0 ≤ r → (μ2 s 7 < 1499 → μ3 s 7 = μ2 s 7 + 1) → jj_mRe_tellName X (d + 2) 0 (ab_la [2, 0, r]) [] μ3 (fun r6 μ5 => jj_mRe_go X (d + 2) 0 (ab_la [2]) [] μ5 (fun r9 μ8 => jj_mRe_kind X (d + 2) 0 (ab_la [2]) [] μ8 (fun r12 μ11 => (r12 ≠ 29 → jj_mRe_tellList X (d + 3) 57 (ab_up (ab_up l 2 0) 3 (lf - 1)) [] μ11 P) ∧ (r12 = 29 → jj_mRe_go X (d + 2) 0 (ab_la [2]) [] μ11 (fun r15 μ14 => jj_mRe_tellList X (d + 3) 57 (ab_up (ab_up l 2 1) 3 (lf - 1)) [] μ14 P))))) := by
          intro μ3 r e3 l7 l7' hr r0 up
          have e2 : ∀ j, μ3 2 j = μ2 2 j := fun j => e3 2 j (by omega)
          have es : ∀ j, j ≠ 7 → μ3 s j = μ2 s j := fun j q => e3 s j (by omega)
          have i3 : zI μ3 s t (τ - 1 + 2) := by
            obtain ⟨i1, i2, i3, i4, i5, i6, i7, i8, i9, i10, i11, i12⟩ := u2.i
            refine ⟨by rw [e2]; exact i1, i2, by rw [e3 3 3 (by omega)]; exact i3.same fun c j q => e3 c j (by omega), by rw [e2, e3 3 3 (by omega)]; exact i4, by rw [e2, e2, e2]; exact i5, by rw [es 4 (by decide)]; exact i6, fun q => ?_, by rw [es 6 (by decide), es 8 (by decide), es 10 (by decide)]; exact ⟨i8.1, l7, i8.2.2⟩, by rw [e3 7 3 (by omega), e3 7 4 (by omega)]; exact i9, fun i x y q => ?_, by rw [e2]; exact i11, by rw [e2]; exact i12⟩
            · rw [e2] at q
              rw [e2, e2, e3 5 _ (by omega), es 4 (by decide)]
              have := i7 q
              exact ⟨this.1, by omega, this.2.2⟩
            · rw [e3 7 3 (by omega)] at y
              rw [e3 9 i (by omega)] at q
              rw [e3 10 i (by omega)]
              exact i10 i x y q
          have u3 : zU s (zGl μ3 s D b 0 ∧ 1 ≤ μ3 (s + 9) D) μ3 μ3 t (τ - 1 + 2) 1 33 := by
            refine ⟨i3, fun _ _ _ => rfl, id, id, fun q => ?_, by rw [e2, e2]; exact u2.op, by rw [e2, e2, e3 4 _ (by omega)]; exact u2.kw⟩
            rw [e2] at q
            obtain ⟨⟨⟨Γ, gg⟩, g2⟩, g3⟩ := u2.g q
            have z : μ2 2 4 = 0 := by
              by_cases y : μ2 2 4 = 0
              · exact y
              · exact absurd q (u2.i.sf (Or.inl y))
            have ph := (u2.i.ph z).2.1
            have pl := u2.i.pl
            have up := up (by omega)
            unfold zGl
            rw [es 4 (by decide), e3 (s + 8) D (by omega), e3 (s + 9) D (by omega)]
            exact ⟨⟨⟨Γ, gg.same (fun j _ y => es j y) (fun c j x y => e3 c j (by omega)) (e3 7 3 (by omega)) fun c j x => e3 c j (by omega)⟩, by omega⟩, g3⟩
          refine c_u_tellName (kd := 0) u3 fun μ4 μ5 u4 e5 => ?_
          have e52 : ∀ j, μ5 2 j = μ4 2 j := fun j => e5.f 2 j (by omega) (by omega)
          have u5 : zU s (zGl μ5 s D b 0) μ5 μ5 t (τ - 1 + 2) 1 33 := by
            refine ⟨u4.i.tell e5 fun q => absurd q (by decide), fun _ _ _ => rfl, id, id, fun q => ?_, by rw [e52, e52]; exact u4.op, by rw [e52, e52, e5.f 4 _ (by omega) (by omega)]; exact u4.kw⟩
            rw [e52] at q
            obtain ⟨g1, g3⟩ := u4.g q
            have g1 : zGl μ4 s D b 0 := g1.same hs fun c j x _ => u4.f c j (by omega)
            rw [← u4.f (s + 9) D (by omega)] at g3
            have r4 : r = 1499 + μ4 s 7 := by rw [u4.f s 7 (by omega)]; exact hr
            obtain ⟨⟨Γ, gg⟩, g2⟩ := g1
            have hc : 0 ≤ μ4 (s + 8) D ∧ μ4 (s + 8) D + μ4 (s + 9) D ≤ 3000 := by
              rcases gg.cd with c | c
              · omega
              · exact ⟨c.2.2.1, c.2.2.2.2⟩
            unfold zGl
            rw [e5.f s 4 (by omega) (by omega), e5.f s 7 (by omega) (by omega), e5.f (s + 8) D (by omega) (by omega), e5.f (s + 9) D (by omega) (by omega)]
            exact ⟨⟨Γ, gg.tell hs e5 ⟨fun _ => ⟨by omega, Or.inr (Or.inl (by omega))⟩, fun q => absurd q (by decide), fun q => absurd q (by decide)⟩ (Or.inl rfl)⟩, g2⟩
          have f5 : zFl s D μ μ5 := ⟨fun c j a e f g => by rw [e5.f c j (by omega) (by omega), u4.f c j a, e3 c j (by omega), f2.f c j a e f g], by have := f2.c; have := e5.c; have := u4.f 7 3 (by decide); have := e3 7 3 (by omega); omega⟩
          refine c_u_go (w := 1) u5 (fun _ => by decide) fun μ6 u6 a6 g6 => c_u_kind u6 fun r7 hr7 => ?_
          have f6 := f5.trans (u6.l (D := D))
          refine ⟨fun q => ih _ μ6 (lf - 1) 0 _ l0 l1 rfl rfl lf2 lf3 ((zGl.of u6).weak (by omega) (by rw [if_pos rfl]; omega)) f6, fun q => c_u_go (w := 1) u6 (fun z => ?_) fun μ7 u7 _ _ => ih _ μ7 (lf - 1) 1 _ l0 l1 rfl rfl lf2 lf3 ((zGl.of u7).weak (by omega) (by rw [if_neg (by decide)]; omega)) (f5.trans u7.l)⟩
          rcases hr7 with hr7 | hr7
          · exact absurd z hr7.1
          · rw [← hr7.2.1, q]; decide
        refine ⟨by rw [u2.i.sc]; exact u2.i.hs, bk_mSc_takeLocal_0 (by show ab_is 10 (μ2 2 2); rw [u2.i.sc]; exact u2.i.hs) ?_⟩
        simp only [la0]
        rw [u2.i.sc]
        refine ⟨fun z => ?_, fun z μ3 e3 => ?_⟩
        · rw [show ab_w (ab_w (1500 + μ2 s 7) - 1) = 1499 + μ2 s 7 by rw [ab_wi (x := 1500 + μ2 s 7) (by omega) (by omega), ab_wi (by omega) (by omega)]; omega]
          exact tk μ2 _ (fun _ _ _ => rfl) lo (by omega) rfl (by omega) fun y => by omega
        · rw [show ab_w (μ2 s 7 + 1) = μ2 s 7 + 1 from ab_wi (by omega) (by omega)] at e3
          have v : μ3 s 7 = μ2 s 7 + 1 := by rw [e3, ab_mud, if_pos ⟨rfl, rfl⟩]
          rw [v, show ab_w (ab_w (1500 + (μ2 s 7 + 1)) - 1) = 1499 + (μ2 s 7 + 1) by rw [ab_wi (x := 1500 + (μ2 s 7 + 1)) (by omega) (by omega), ab_wi (by omega) (by omega)]; omega]
          exact tk μ3 _ (fun c j y => by rw [e3, ab_mud, if_neg y]) (by omega) (by omega) (by omega) (by omega) fun _ => v
      refine c_u_kind u1 fun r hr => ⟨fun q => ?_, fun q => c_u_misfit u1 fun μ2 z2 u2 => bad μ2 (f1.trans (u2 0 0 0 0).l) z2 fun t' τ' o' k' => ⟨_, zGl.of (u2 t' τ' o' k')⟩⟩
      have k33 : zU s (zGl μ1 s D b 0) μ1 μ1 t (τ - 1) 1 33 := by
        rcases hr with hr | hr
        · exact u1.stop hr.1 _ _ _ _
        · have : k1 = 33 := hr.2.1.symm.trans q
          rw [this] at u1; exact u1
      rw [u1.i.sc]
      refine ⟨u1.i.hs, hD, fun n6 => ⟨hD, hD, fun μ2 e2 => ?_⟩, fun n6 => c_u_soften k33 (by decide) u1.at3 fun μ2 z2 _ u2 => s119 l μ2 l0 l1 l3 (u2.base fun q => absurd q z2) (f1.trans u2.l)⟩
      have g2 : ∀ c j, ¬ (c = s + 9 ∧ j = D) → μ2 c j = μ1 c j := fun c j q => by rw [e2, ab_mud, if_neg q]
      have e22 : ∀ j, μ2 2 j = μ1 2 j := fun j => g2 2 j (by omega)
      refine s119 l μ2 l0 l1 l3 ⟨k33.i.chg (fun c j q => g2 c j (by omega)) (g2 3 3 (by omega)) (fun j _ _ => e22 j) (g2 s 4 (by omega)) (g2 s 7 (by omega)) ?_ ?_ ?_ ?_, fun _ _ _ => rfl, id, id, fun q => ?_, by rw [e22, e22]; exact k33.op, by rw [e22, e22, g2 4 _ (by omega)]; exact k33.kw⟩ ⟨fun c j a e f g => by rw [g2 c j (by omega), f1.f c j a e f g], by rw [g2 7 3 (by omega)]; exact f1.c⟩
      · have nu := u1.i.nu
        rw [g2 s 6 (by omega), g2 s 8 (by omega), g2 s 10 (by omega)]; exact ⟨nu.1, nu.2.2⟩
      · rw [g2 7 3 (by omega), g2 7 4 (by omega)]; exact ⟨⟨u1.i.nc.1.1, Int.le_refl _⟩, u1.i.nc.2⟩
      · rw [e22]; exact u1.i.bo
      · rw [e22]; exact u1.i.dw
      · rw [e22] at q
        obtain ⟨⟨Γ, gg⟩, g3⟩ := k33.g q
        have z : μ1 2 4 = 0 := by
          by_cases y : μ1 2 4 = 0
          · exact y
          · exact absurd q (u1.i.sf (Or.inl y))
        have ph := (u1.i.ph z).2.1
        have pl := u1.i.pl
        have hc : 0 ≤ μ1 (s + 9) D ∧ μ1 (s + 9) D ≤ 6 := by
          rcases gg.cd with c | c
          · omega
          · exact c.2.2.2.1
        have v : μ2 (s + 9) D = μ1 (s + 9) D + 1 := by
          rw [e2, ab_mud, if_pos ⟨rfl, rfl⟩, ab_wi (by omega) (by omega)]
        refine ⟨⟨?_, ?_⟩, by omega⟩
        · rw [g2 s 4 (by omega)]
          exact ⟨Γ, gg.lst hs hD.1 g2 v (by omega) (by omega) (by omega)⟩
        · rw [v, g2 (s + 8) D (by omega), g2 s 7 (by omega)]; omega
  have lo := h.i.nu.2.1
  refine bk_mRe_tellList_0 rfl ?_
  simp only [la1]
  rw [h.i.sc, show ab_w (1500 + μ s 7) = 1500 + μ s 7 from ab_wi (by omega) (by omega)]
  refine ⟨h.i.hs, hD, fun μ1 e1 => ?_⟩
  rw [e1, mu_ne (show (2 : Int) ≠ s + 8 by omega), h.i.sc, ← e1]
  refine ⟨h.i.hs, hD, fun μ2 e2 => ?_⟩
  have g2 : ∀ c j, ¬ ((c = s + 8 ∨ c = s + 9) ∧ j = D) → μ2 c j = μ c j := fun c j q => by rw [e2, ab_mud, if_neg (by omega), e1, ab_mud, if_neg (by omega)]
  have e22 : ∀ j, μ2 2 j = μ 2 j := fun j => g2 2 j (by omega)
  have v9 : μ2 (s + 9) D = 0 := by rw [e2, ab_mud, if_pos ⟨rfl, rfl⟩]
  have v8 : μ2 (s + 8) D = 1500 + μ s 7 := by rw [e2, ab_mud, if_neg (by omega), e1, ab_mud, if_pos ⟨rfl, rfl⟩]
  have u2 : zU s (zGl μ2 s D b 0) μ2 μ2 t τ 0 k := by
    refine ⟨h.i.chg (fun c j q => g2 c j (by omega)) (g2 3 3 (by omega)) (fun j _ _ => e22 j) (g2 s 4 (by omega)) (g2 s 7 (by omega)) ?_ ?_ ?_ ?_, fun _ _ _ => rfl, id, id, fun q => ?_, by rw [e22, e22]; exact h.op, by rw [e22, e22, g2 4 _ (by omega)]; exact h.kw⟩
    · have nu := h.i.nu
      rw [g2 s 6 (by omega), g2 s 8 (by omega), g2 s 10 (by omega)]; exact ⟨nu.1, nu.2.2⟩
    · rw [g2 7 3 (by omega), g2 7 4 (by omega)]; exact ⟨⟨h.i.nc.1.1, Int.le_refl _⟩, h.i.nc.2⟩
    · rw [e22]; exact h.i.bo
    · rw [e22]; exact h.i.dw
    · rw [e22] at q
      obtain ⟨Γ, gg⟩ := h.g q (1500 + μ s 7) (by omega) (by omega)
      refine ⟨?_, by rw [v8, v9, g2 s 7 (by omega)]; omega⟩
      have ev : ∀ c j, c ≠ 2 → μ2 c j = ab_mu (ab_mu μ3 (s + 8) D (1500 + μ s 7)) (s + 9) D 0 c j := fun c j q => by
        rw [e2, e1, ab_mud, ab_mud, ab_mud, ab_mud, h.f c j (by omega)]
      rw [g2 s 4 (by omega), h.f s 4 (by omega)]
      exact ⟨Γ, gg.same (fun j _ _ => ev s j (by omega)) (fun c j x y => ev c j (by omega)) (ev 7 3 (by omega)) fun c j x => ev c j (by omega)⟩
  have f2 : zFl s D μ μ2 := ⟨fun c j _ _ _ q => g2 c j q, by rw [g2 7 3 (by omega)]; exact Int.le_refl _⟩
  refine c_u_openRound u2 fun μ4 k4 u4 => c_u_kind u4 fun r hr => ?_
  have f4 := f2.trans (u4.l (D := D))
  have v4 := (zGl.of u4).weak (t' := t) (τ' := τ - 1) (by omega) (Int.le_refl _)
  exact ⟨fun _ => s57 _ _ μ4 (μ4 3 3) 0 _ rfl rfl rfl rfl u4.i.ww.c.2 rfl (v4.weak (Int.le_refl _) (by rw [if_pos rfl]; omega)) f4, fun _ => s57 _ _ μ4 (μ4 3 3) 1 _ rfl rfl rfl rfl u4.i.ww.c.2 rfl (v4.weak (Int.le_refl _) (by rw [if_neg (by decide)]; exact Int.le_refl _)) f4⟩
end K40

/-! THE CLASS, part k41: define -/
section K41
variable {X : jm_X} {d e : Nat} {P : Int → ab_m → Prop} {μ μ' μ0 μ1 μ2 : ab_m} {s t τ t' τ' ζ δ b b' H H' κ κ' o o' k k' n0 D : Int} {Z Z' : Int → Prop} {Γ : scG} {Lb Ln Lb' Ln' A B A' B' : List Int} {G G' : Prop}
theorem c_items (h : zW s ζ δ b Z Lb Ln μ μ t τ 0 0 0 k) (t0 : t ≤ 0) (hδ : μ 2 10 = δ) (hP : ∀ μ' k' A B, zW s ζ δ b (zZ Z A B) (A ++ Lb) (B ++ Ln) μ μ' t τ 0 0 0 k' → zPo s μ μ' A B → P 0 μ') : jj_mRe_takeItems X (d + 77) 0 (ab_la [2]) [] μ P := by
  have := c_takeItems (d := d) (c_statement (X := X) 24) h t0 hδ (fun _ => by decide) hP
  rw [show 3 * 24 + d + 5 = d + 77 by omega] at this
  exact this
theorem c_stmt {it : Int} (h : zW s ζ δ b Z Lb Ln μ μ t τ 0 0 0 k) (t0 : t ≤ 0) (hδ : μ 2 10 = δ) (hP : ∀ μ' k' A B, zW s ζ δ b (zZ Z A B) (A ++ Lb) (B ++ Ln) μ μ' t τ 0 0 0 k' → zPo s μ μ' A B → P 0 μ') : jj_mRe_statement X (d + 79) 0 (ab_la [2, it]) [] μ P := by
  have := c_statement (X := X) 25 d P μ s t τ ζ δ b 0 0 k it Z Lb Ln h t0 hδ (fun _ => by decide) hP
  rw [show 3 * 25 + d + 4 = d + 79 by omega] at this
  exact this
theorem zI.stp (h : zI μ s t τ) (fr : ∀ c j, ¬ (s ≤ c ∧ c ≤ s + 4) → μ' c j = μ c j) (gs : ∀ j, j ≠ 4 → μ' s j = μ s j) (n : 0 ≤ μ' s 4 ∧ μ' s 4 ≤ 3002) (ph : μ 2 4 = 0 → μ' s 4 ≤ μ 5 (μ 2 3) + t') : zI μ' s t' τ := by
  have hs : s = 16 ∨ s = 26 := h.hs
  have e2 : ∀ j, μ' 2 j = μ 2 j := fun j => fr 2 j (by omega)
  obtain ⟨i1, i2, i3, i4, i5, i6, i7, i8, i9, i10, i11, i12⟩ := h
  refine ⟨by rw [e2]; exact i1, i2, by rw [fr 3 3 (by omega)]; exact i3.same fun c j q => fr c j (by omega), by rw [e2, fr 3 3 (by omega)]; exact i4, by rw [e2, e2, e2]; exact i5, n, fun q => ?_, by rw [gs 6 (by decide), gs 7 (by decide), gs 8 (by decide), gs 10 (by decide)]; exact i8, by rw [fr 7 3 (by omega), fr 7 4 (by omega)]; exact i9, fun i x y q => ?_, by rw [e2]; exact i11, by rw [e2]; exact i12⟩
  · rw [e2] at q
    rw [e2, e2, fr 5 _ (by omega), gs 7 (by decide)]
    exact ⟨ph q, (i7 q).2⟩
  · rw [fr 7 3 (by omega)] at y
    rw [fr 9 i (by omega)] at q
    rw [fr 10 i (by omega)]
    exact i10 i x y q
/-- behind a def's items -/
theorem zD.fin {μ11 μ12 μ16 μ19 μ20 μ21 μ22 : ab_m} {r : Int} (W : zW s (μ11 s 4) D b (zZ (fun _ => False) A B) Lb' Ln' μ11 μ12 t τ 0 0 0 k) (t0 : t ≤ -1) (τ0 : τ ≤ 0) (hD : 0 ≤ D ∧ D < 15) (po : zPo s μ11 μ12 A B) (c11 : μ11 2 11 = 0) (h6 : μ11 (s + 6) D = μ11 s 4) (hb : 0 ≤ b ∧ b ≤ μ11 7 3) (f : zFd s μ0 μ11) (a : (μ12 s 4 ≤ 3001 ∧ r = μ12 s 4 ∧ zS s μ12 μ16 34 D) ∨ (μ12 s 4 = 3002 ∧ r = 3001 ∧ μ16 = μ12)) (e19 : μ19 = ab_mu μ16 (s + 7) D r) (e20 : μ20 = ab_mu μ19 2 10 (-1)) (e21 : μ21 = ab_mu μ20 7 3 b) (e22 : μ22 = ab_mu μ21 7 4 0) : zD s μ0 μ22 0 0 0 k ∧ (μ22 2 5 = 0 → D < μ22 s 10) := by
  have hs := W.s'
  have g22 : ∀ c j, ¬ (c = s + 7 ∧ j = D) → ¬ (c = 2 ∧ j = 10) → ¬ (c = 7 ∧ (j = 3 ∨ j = 4)) → μ22 c j = μ16 c j := fun c j p q u => by rw [e22, ab_mud, if_neg (by omega), e21, ab_mud, if_neg (by omega), e20, ab_mud, if_neg q, e19, ab_mud, if_neg p]
  have v7 : μ22 (s + 7) D = r := by rw [e22, ab_mud, if_neg (by omega), e21, ab_mud, if_neg (by omega), e20, ab_mud, if_neg (by omega), e19, ab_mud, if_pos ⟨rfl, rfl⟩]
  have v10 : μ22 2 10 = -1 := by rw [e22, ab_mud, if_neg (by omega), e21, ab_mud, if_neg (by omega), e20, ab_mud, if_pos ⟨rfl, rfl⟩]
  have v73 : μ22 7 3 = b := by rw [e22, ab_mud, if_neg (by omega), e21, ab_mud, if_pos ⟨rfl, rfl⟩]
  have v74 : μ22 7 4 = 0 := by rw [e22, ab_mud, if_pos ⟨rfl, rfl⟩]
  have n12 := W.i.n
  -- what the add leaves
  obtain ⟨fr, gs, n16, ph16, ch⟩ : (∀ c j, ¬ (s ≤ c ∧ c ≤ s + 4) → μ16 c j = μ12 c j) ∧ (∀ j, j ≠ 4 → μ16 s j = μ12 s j) ∧ (0 ≤ μ16 s 4 ∧ μ16 s 4 ≤ 3002) ∧ (μ12 2 4 = 0 → μ16 s 4 ≤ μ12 5 (μ12 2 3) + 0) ∧ zCc μ16 s Lb' Ln' := by
    rcases a with ⟨a1, a2, S⟩ | ⟨a1, a2, a3⟩
    · have n := S.n
      refine ⟨fun c j q => S.f c j (by omega) (by omega), fun j q => S.f s j (by omega) (by omega), by omega, fun q => by have := W.i.ph q; omega, W.c.same (by omega) (fun y _ q _ => ⟨S.f _ y (by omega) (by omega), S.f _ y (by omega) (by omega)⟩) (S.f 2 12 (by omega) (by omega)) (S.f 2 13 (by omega) (by omega))⟩
    · rw [a3]
      exact ⟨fun _ _ _ => rfl, fun _ _ => rfl, n12, fun q => by have := W.i.ph q; have := W.i.pl; omega, W.c⟩
  have i16 : zI μ16 s 0 τ := W.i.stp fr gs n16 ph16
  have e2 : ∀ j, j ≠ 10 → μ22 2 j = μ12 2 j := fun j q => by rw [g22 2 j (by omega) (by omega) (by omega), fr 2 j (by omega)]
  have cc := W.f.c
  have n73 : μ16 7 3 = μ12 7 3 := fr 7 3 (by omega)
  have i22 : zI μ22 s 0 τ := by
    have nu := i16.nu
    refine i16.chg (fun c j q => g22 c j (by omega) (by omega) (by omega)) (g22 3 3 (by omega) (by omega) (by omega)) (fun j x y => g22 2 j (by omega) (by omega) (by omega)) (g22 s 4 (by omega) (by omega) (by omega)) (g22 s 7 (by omega) (by omega) (by omega)) ?_ ?_ ?_ ?_
    · rw [g22 s 6 (by omega) (by omega) (by omega), g22 s 8 (by omega) (by omega) (by omega), g22 s 10 (by omega) (by omega) (by omega)]; exact ⟨nu.1, nu.2.2⟩
    · rw [v73, v74]; omega
    · rw [g22 2 11 (by omega) (by omega) (by omega)]; exact i16.bo
    · rw [v10]; decide
  have key : μ22 2 5 = 0 → zG μ22 s (μ12 s 4 + 1) (-1) b (fun _ => False) 0 0 ∧ μ22 s 4 = μ12 s 4 + 1 ∧ D < μ22 s 10 := fun q => by
    rw [e2 5 (by decide)] at q
    have ab := po.l q c11
    obtain ⟨Γ, gg⟩ := W.g q
    rw [ab.1, ab.2] at gg
    have z := W.go q
    have ph := W.i.ph z
    have pl := W.i.pl
    rcases a with ⟨a1, a2, S⟩ | ⟨a1, a2, a3⟩
    · have n : μ22 s 4 = μ12 s 4 + 1 := by rw [g22 s 4 (by omega) (by omega) (by omega), S.n]
      have f6 : μ12 (s + 6) D = μ11 s 4 := by rw [W.f.o (s + 6) D (by omega) (by omega) (by omega)]; exact h6
      have cd : D + 1 = μ12 s 10 := by
        rcases gg.cd with c | c
        · omega
        · exact c.2.1
      refine ⟨gg.addD hD.1 (by decide) n12.1 f6 (fun k w => by simp [zZ] at w) n ?_ ?_ (by rw [v7, a2]) (fun c k x y q => by rw [g22 c k (by omega) (by omega) (by omega), S.f c k (by omega) (by omega)]) (fun j q => by rw [g22 s j (by omega) (by omega) (by omega), S.f s j (by omega) (by omega)]) (fun c j q => by rw [g22 c j (by omega) (by omega) (by omega), S.f c j (by omega) (by omega)]) (fun j q => by rw [g22 _ j (by omega) (by omega) (by omega), S.f _ j (by omega) (by omega)]) v73 (fun c j q => by rw [g22 c j (by omega) (by omega) (by omega), S.f c j (by omega) (by omega)]), n, ?_⟩
      · rw [g22 _ _ (by omega) (by omega) (by omega)]; exact S.o
      · rw [g22 _ _ (by omega) (by omega) (by omega)]; exact S.w.1
      · rw [g22 s 10 (by omega) (by omega) (by omega), S.f s 10 (by omega) (by omega)]; omega
    · omega
  have f22 : zFd s μ0 μ22 := f.trans ⟨fun c j x y z => by rw [g22 c j (by omega) (by omega) (by omega), fr c j (by omega), W.f.o c j x y (by omega)], fun j x y => by rw [e2 j (by omega), W.f.f j (by omega) (by omega) (by omega) y]⟩
  refine ⟨⟨⟨⟨i22.sc, i22.hs, i22.ww, i22.a, i22.sf, i22.n, fun q => by have := i22.ph q; omega, i22.nu, i22.nc, i22.nk, i22.bo, i22.dw⟩, fun _ _ _ => rfl, id, id, fun q => ?_, by rw [e2 4 (by decide), e2 8 (by decide)]; exact W.op, ?_⟩, f22, ?_⟩, fun q => (key q).2.2⟩
  · have kk := key q
    unfold zGd
    rw [kk.2.1, v73]; exact kk.1
  · rw [e2 4 (by decide), e2 3 (by decide), g22 4 _ (by omega) (by omega) (by omega), fr 4 _ (by omega)]; exact W.kw
  · refine ⟨⟨v10, ?_, v74⟩, Lb', Ln', ch.same (by rw [g22 s 4 (by omega) (by omega) (by omega)]; exact Int.le_refl _) (fun y _ _ _ => ⟨g22 _ y (by omega) (by omega) (by omega), g22 _ y (by omega) (by omega) (by omega)⟩) (g22 2 12 (by omega) (by omega) (by omega)) (g22 2 13 (by omega) (by omega) (by omega))⟩
    rw [e2 11 (by decide), W.f.f 11 (by decide) (by decide) (by decide) (by decide)]; exact c11
/-- the def's number is given -/
theorem zGd.dnew {f : Int} (hs : s = 16 ∨ s = 26) (h : zGd μ s) (hD : μ s 10 = D) (d0 : 0 ≤ D) (e : ∀ c j, ¬ (c = s ∧ j = 10) → ¬ (c = 7 ∧ j = 4) → μ' c j = μ c j) (v : μ' s 10 = D + 1) (f0 : 0 ≤ f) (f3 : f ≤ 3000) : zG (ab_mu (ab_mu μ' (s + 8) D f) (s + 9) D 0) s (μ' s 4) D (μ' 7 3) (fun _ => False) 0 0 := by
  obtain ⟨Γ, gg⟩ := h
  generalize hν : ab_mu (ab_mu μ' (s + 8) D f) (s + 9) D 0 = ν
  have en : ∀ c j, ¬ (c = s ∧ j = 10) → ¬ (c = 7 ∧ j = 4) → ¬ ((c = s + 8 ∨ c = s + 9) ∧ j = D) → ν c j = μ c j := fun c j p q r => by rw [← hν, ab_mud, if_neg (by omega), ab_mud, if_neg (by omega), e c j p q]
  have es : ∀ j, j ≠ 10 → ν s j = μ s j := fun j q => en s j (by omega) (by omega) (by omega)
  have v10 : ν s 10 = D + 1 := by rw [← hν, ab_mud, if_neg (by omega), ab_mud, if_neg (by omega)]; exact v
  have v8 : ν (s + 8) D = f := by rw [← hν, ab_mud, if_neg (by omega), ab_mud, if_pos ⟨rfl, rfl⟩]
  have v9 : ν (s + 9) D = 0 := by rw [← hν, ab_mud, if_pos ⟨rfl, rfl⟩]
  have r1 : rho μ s (-1) = D := by unfold rho; rw [if_pos rfl]; exact hD
  have r2 : rho ν s D = D := by unfold rho; rw [if_neg (by omega)]
  rw [e s 4 (by omega) (by omega), e 7 3 (by omega) (by omega)]
  refine ⟨Γ, gg.grow (es 4 (by decide)) (by rw [es 6 (by decide)]; exact Int.le_refl _) (by rw [es 8 (by decide)]; exact Int.le_refl _) (by omega) (by rw [r1, r2]) (fun c j x y => en c j (by omega) (by omega) (by omega)) (fun c j x y q => en c j (by omega) (by omega) (by omega)) (Or.inr ⟨d0, v10.symm, by omega, by omega, by omega⟩) (fun i x y => ?_) (by rw [en 7 3 (by omega) (by omega) (by omega)]; exact gg.b) fun x p r => by rw [en _ _ (by omega) (by omega) (by omega)]; rw [es 8 (by decide)] at r; exact gg.ro x p r⟩
  rw [en 7 3 (by omega) (by omega) (by omega)] at y
  obtain ⟨n1, n2, n3⟩ := gg.nm i x y
  have q9 := en 9 i (by omega) (by omega) (by omega)
  have q10 := en 10 i (by omega) (by omega) (by omega)
  refine ⟨?_, by rw [q9, q10, es 8 (by decide)]; exact n2, by rw [q9, q10, r2]; rw [r1] at n3; exact n3⟩
  rw [q9, q10, es 6 (by decide)]
  intro u
  refine ⟨(n1 u).1, ?_⟩
  rcases (n1 u).2 with w | w
  · exact Or.inl w
  · have := w.1; omega
theorem c_define (h : zD s μ0 μ 0 0 0 k) (hk : zTo (μ 2 4 = 0) (k = 37)) (hP : ∀ μ' k', zD s μ0 μ' 0 0 0 k' → P 0 μ') : jj_mRe_define X (d + 78) 0 (ab_la [2]) [] μ P := by
  have hs : s = 16 ∨ s = 26 := h.u.i.hs
  have s83 : ∀ (l : ab_l) (μ1 : ab_m) (nm D b : Int), l 0 = 2 → l 1 = nm → 0 ≤ nm ∧ nm < 3001 → μ1 s 10 = D + 1 → μ1 7 3 = b → 0 ≤ D ∧ D < 15 → (∀ μ2, μ2 = ab_mu μ1 7 4 (μ1 7 3) → zU s (∀ f, 0 ≤ f → f ≤ 3000 → zG (ab_mu (ab_mu μ2 (s + 8) D f) (s + 9) D 0) s (μ2 s 4) D b (fun _ => False) 0 0) μ2 μ2 (0 - 1) (0 - 1) 0 33) → zFd s μ0 μ1 → (μ1 2 11 = 0 ∧ zCh μ1 s) → 0 ≤ b → jj_mRe_define X (d + 78) 83 l [] μ1 P := by
    intro l μ1 nm D b l0 l1 hnm h10 h73 hD hu f1 c1 b0
    have u2 := hu _ rfl
    have sc1 : μ1 2 2 = s := by
      have := u2.i.sc
      rw [ab_mud, if_neg (by decide)] at this
      exact this
    refine bk_mRe_define_83 l0 ?_
    rw [sc1, h10, show ab_w (D + 1 - 1) = D by rw [ab_wi (by omega) (by omega)]; omega, l1]
    refine ⟨u2.i.hs, fun μ2 e2 => ?_⟩
    rw [← e2] at u2
    have g2 : ∀ c j, ¬ (c = 7 ∧ j = 4) → μ2 c j = μ1 c j := fun c j q => by rw [e2, ab_mud, if_neg q]
    refine c_u_go (w := 1) u2 (fun _ => by decide) fun μ3 u3 a3 g3 => c_tellList u3 hD (by omega) fun μ6 k6 u6 f6 μ9 e9 => ?_
    have g9 : ∀ c j, ¬ (c = 2 ∧ j = 10) → μ9 c j = μ6 c j := fun c j q => by rw [e9, ab_mud, if_neg q]
    rw [g9 2 2 (by decide), u6.i.sc]
    refine ⟨u6.i.hs, hD, fun μ11 e11 => ?_⟩
    have g11 : ∀ c j, ¬ (c = 2 ∧ j = 10) → ¬ (c = s + 6 ∧ j = D) → μ11 c j = μ6 c j := fun c j p q => by rw [e11, ab_mud, if_neg q, g9 c j p]
    have v10 : μ11 2 10 = D := by rw [e11, ab_mud, if_neg (by omega), e9, ab_mud, if_pos ⟨rfl, rfl⟩]
    have v6 : μ11 (s + 6) D = μ11 s 4 := by rw [g11 s 4 (by omega) (by omega), e11, ab_mud, if_pos ⟨rfl, rfl⟩, g9 s 4 (by omega)]
    -- all the way back to μ1
    have g6 : ∀ c j, c = s + 1 ∨ c = s + 2 ∨ (c = s ∧ j = 4) ∨ (c = 2 ∧ 11 ≤ j ∧ j ≤ 13) → μ6 c j = μ1 c j := fun c j q => by rw [f6.f c j (by omega) (by omega) (by omega) (by omega), u3.f c j (by omega), g2 c j (by omega)]
    obtain ⟨⟨Lb, Ln, ch⟩⟩ : Nonempty (zCh μ11 s) := ⟨c1.2.same (by rw [g11 s 4 (by omega) (by omega), g6 s 4 (by omega)]) (fun c y q => by rw [g11 c y (by omega) (by omega), g6 c y (by omega)]) (by rw [g11 2 12 (by omega) (by omega), g6 2 12 (by omega)]) (by rw [g11 2 13 (by omega) (by omega), g6 2 13 (by omega)])⟩
    have u11 : zU s (zG μ11 s (μ11 s 4) D b (fun _ => False) 0 0) μ11 μ11 (0 - 1 - 1) (0 - 1 - 1) 0 k6 := by
      have nu := u6.i.nu
      refine ⟨u6.i.chg (fun c j q => g11 c j (by omega) (by omega)) (g11 3 3 (by omega) (by omega)) (fun j x y => g11 2 j (by omega) (by omega)) (g11 s 4 (by omega) (by omega)) (g11 s 7 (by omega) (by omega)) ?_ ?_ ?_ ?_, fun _ _ _ => rfl, id, id, fun q => ?_, by rw [g11 2 4 (by omega) (by omega), g11 2 8 (by omega) (by omega)]; exact u6.op, by rw [g11 2 4 (by omega) (by omega), g11 2 3 (by omega) (by omega), g11 4 _ (by omega) (by omega)]; exact u6.kw⟩
      · rw [g11 s 6 (by omega) (by omega), g11 s 8 (by omega) (by omega), g11 s 10 (by omega) (by omega)]; exact ⟨nu.1, nu.2.2⟩
      · rw [g11 7 3 (by omega) (by omega), g11 7 4 (by omega) (by omega)]; exact ⟨⟨u6.i.nc.1.1, Int.le_refl _⟩, u6.i.nc.2⟩
      · rw [g11 2 11 (by omega) (by omega)]; exact u6.i.bo
      · rw [v10]; omega
      · rw [g11 2 5 (by omega) (by omega)] at q
        obtain ⟨Γ, gg⟩ := u6.g q
        have es : ∀ j, μ11 s j = μ6 s j := fun j => g11 s j (by omega) (by omega)
        have er : rho μ11 s D = rho μ6 s D := by unfold rho; rw [es]
        have rd : rho μ6 s D = D := by unfold rho; rw [if_neg (by omega)]
        rw [es]
        refine ⟨Γ, gg.grow (es 4) (by rw [es]; exact Int.le_refl _) (by rw [es]; exact Int.le_refl _) (by rw [es]; exact Int.le_refl _) er (fun c j x y => g11 c j (by omega) (by omega)) (fun c j x y w => g11 c j (by omega) (by omega)) (by rw [es, g11 (s + 8) _ (by omega) (by omega), g11 (s + 9) _ (by omega) (by omega)]; exact gg.cd) (fun i x y => ?_) (by rw [g11 7 3 (by omega) (by omega)]; exact gg.b) fun x p r => by rw [g11 _ _ (by omega) (by omega)]; rw [es] at r; exact gg.ro x p r⟩
        rw [g11 7 3 (by omega) (by omega)] at y
        obtain ⟨n1, n2, n3⟩ := gg.nm i x y
        have q9 := g11 9 i (by omega) (by omega)
        have q10 := g11 10 i (by omega) (by omega)
        refine ⟨?_, by rw [q9, q10, es]; exact n2, by rw [q9, q10, er]; exact n3⟩
        unfold zNa
        rw [q9, q10, es, es, g11 (s + 8) _ (by omega) (by omega), g11 (s + 9) _ (by omega) (by omega)]
        intro u
        refine ⟨(n1 u).1, ?_⟩
        rcases (n1 u).2 with v | ⟨v, w⟩
        · exact Or.inl v
        · refine Or.inr ⟨v, ?_⟩
          rcases w with w | w | ⟨j, w⟩
          · exact Or.inl w
          · exact Or.inr (Or.inl w)
          · have := w.1; have := w.2.1; omega
    have W11 := u11.w ch u11.g
    refine c_items W11 (by omega) v10 fun μ12 k12 A B W12 po => ?_
    rw [W12.i.sc]
    refine ⟨W12.i.hs, c_addR W12.i.hs rfl W12.i.n fun r μ16 a => ⟨hD, fun μ19 e19 μ20 e20 μ21 e21 μ22 e22 => ⟨hnm, ?_⟩⟩⟩
    have fc := f6.c
    have c3 := u3.f 7 3 (by decide)
    have c2 := g2 7 3 (by decide)
    have c11 := g11 7 3 (by omega) (by omega)
    have F11 : zFd s μ0 μ11 := f1.trans ⟨fun c j x y z => by rw [g11 c j (by omega) (by omega), f6.f c j (by omega) (by omega) (by omega) (by omega), u3.f c j (by omega), g2 c j (by omega)], fun j x y => by rw [g11 2 j (by omega) (by omega), f6.f 2 j (by omega) (by omega) (by omega) (by omega), u3.f 2 j (by omega), g2 2 j (by omega)]⟩
    have q := zD.fin (μ0 := μ0) W12 (by omega) (by omega) hD po (by rw [g11 2 11 (by omega) (by omega), g6 2 11 (by omega)]; exact c1.1) v6 (by omega) F11 a e19 e20 (by rw [← h73]; exact e21) e22
    refine c_mNa_tell q.1.u.i.nc.1 fun μ23 e23 => hP μ23 _ (q.1.tell e23 (fun _ => hD) fun y => ⟨fun w => absurd w (by decide), fun w => absurd w (by decide), fun _ => ⟨hD.1, q.2 y⟩⟩)
  have s48 : ∀ (l : ab_l) (μ1 : ab_m) (nm : Int), l 0 = 2 → l 1 = nm → 0 ≤ nm ∧ nm < 3001 → zD s μ0 μ1 (0 - 1) (0 - 1) 0 33 → jj_mRe_define X (d + 78) 48 l [] μ1 P := by
    intro l μ1 nm l0 l1 hnm D1
    have nu := D1.u.i.nu
    have nc := D1.u.i.nc
    refine bk_mRe_define_48 l0 ?_
    rw [D1.u.i.sc, l1]
    refine ⟨D1.u.i.hs, fun n15 μ2 e2 => ?_, fun n15 => c_u_soften D1.u (by decide) hnm fun μ2 z2 g2 u2 => ?_⟩
    · rw [show ab_w (μ1 s 10 + 1) = μ1 s 10 + 1 from ab_wi (by omega) (by omega)] at e2
      have g2 : ∀ c j, ¬ (c = s ∧ j = 10) → μ2 c j = μ1 c j := fun c j q => by rw [e2, ab_mud, if_neg q]
      have v2 : μ2 s 10 = μ1 s 10 + 1 := by rw [e2, ab_mud, if_pos ⟨rfl, rfl⟩]
      refine s83 l μ2 nm (μ1 s 10) (μ2 7 3) l0 l1 hnm v2 rfl (by omega) (fun μ3 e3 => ?_) (D1.f.trans ⟨fun c j x y z => g2 c j (by omega), fun j _ _ => g2 2 j (by omega)⟩) ⟨by rw [g2 2 11 (by omega)]; exact D1.c.1.2.1, D1.c.2.same (g2 s 4 (by omega)) (fun c y q => g2 c y (by omega)) (g2 2 12 (by omega)) (g2 2 13 (by omega))⟩ (by rw [g2 7 3 (by omega)]; exact nc.1.1)
      have g3 : ∀ c j, ¬ (c = s ∧ j = 10) → ¬ (c = 7 ∧ j = 4) → μ3 c j = μ1 c j := fun c j p q => by rw [e3, ab_mud, if_neg q, g2 c j p]
      have v3 : μ3 s 10 = μ1 s 10 + 1 := by rw [e3, ab_mud, if_neg (by omega)]; exact v2
      have v4 : μ3 7 4 = μ1 7 3 := by rw [e3, ab_mud, if_pos ⟨rfl, rfl⟩, g2 7 3 (by omega)]
      refine ⟨D1.u.i.chg (fun c j q => g3 c j (by omega) (by omega)) (g3 3 3 (by omega) (by omega)) (fun j x y => g3 2 j (by omega) (by omega)) (g3 s 4 (by omega) (by omega)) (g3 s 7 (by omega) (by omega)) (by rw [g3 s 6 (by omega) (by omega), g3 s 8 (by omega) (by omega), v3]; omega) (by rw [v4, g3 7 3 (by omega) (by omega)]; omega) (by rw [g3 2 11 (by omega) (by omega)]; exact D1.u.i.bo) (by rw [g3 2 10 (by omega) (by omega)]; exact D1.u.i.dw), fun _ _ _ => rfl, id, id, fun q f f0 f3 => ?_, by rw [g3 2 4 (by omega) (by omega), g3 2 8 (by omega) (by omega)]; exact D1.u.op, by rw [g3 2 4 (by omega) (by omega), g3 2 3 (by omega) (by omega), g3 4 _ (by omega) (by omega)]; exact D1.u.kw⟩
      rw [g3 2 5 (by omega) (by omega)] at q
      have := zGd.dnew hs (D1.u.g q) rfl (by omega) g3 v3 f0 f3
      rw [show μ2 7 3 = μ3 7 3 by rw [g2 7 3 (by omega), g3 7 3 (by omega) (by omega)]]
      exact this
    · refine s83 l μ2 nm 14 (μ2 7 3) l0 l1 hnm (by rw [g2 s 10 (by omega), n15]; rfl) rfl (by decide) (fun μ3 e3 => ?_) (D1.f.trans u2.fd) ⟨by rw [g2 2 11 (by decide)]; exact D1.c.1.2.1, D1.c.2.same (g2 s 4 (by omega)) (fun c y q => g2 c y (by omega)) (g2 2 12 (by decide)) (g2 2 13 (by decide))⟩ (by rw [g2 7 3 (by decide)]; exact nc.1.1)
      have g3 : ∀ c j, ¬ (c = 7 ∧ j = 4) → μ3 c j = μ2 c j := fun c j q => by rw [e3, ab_mud, if_neg q]
      have v4 : μ3 7 4 = μ2 7 3 := by rw [e3, ab_mud, if_pos ⟨rfl, rfl⟩]
      have nu2 := u2.i.nu
      have nc2 := u2.i.nc
      exact ⟨u2.i.chg (fun c j q => g3 c j (by omega)) (g3 3 3 (by omega)) (fun j x y => g3 2 j (by omega)) (g3 s 4 (by omega)) (g3 s 7 (by omega)) (by rw [g3 s 6 (by omega), g3 s 8 (by omega), g3 s 10 (by omega)]; exact ⟨nu2.1, nu2.2.2⟩) (by rw [v4, g3 7 3 (by omega)]; omega) (by rw [g3 2 11 (by omega)]; exact u2.i.bo) (by rw [g3 2 10 (by omega)]; exact u2.i.dw), fun _ _ _ => rfl, id, id, fun q => absurd (by rw [← g3 2 5 (by omega)]; exact q) z2, by rw [g3 2 4 (by omega), g3 2 8 (by omega)]; exact u2.op, by rw [g3 2 4 (by omega), g3 2 3 (by omega), g3 4 _ (by omega)]; exact u2.kw⟩
  refine bk_mRe_define_0 rfl (c_u_go (w := 1) h.u (fun z => by rw [hk z]; decide) fun μ1 u1 _ _ => c_u_kind u1 fun r hr => ⟨fun q => ?_, fun q => c_u_misfit u1 fun μ2 z2 u2 => hP μ2 0 (h.of (u2 _ _ _ _))⟩)
  have D1 := h.of u1
  have k33 : zD s μ0 μ1 (0 - 1) (0 - 1) 0 33 := by
    rcases hr with hr | hr
    · omega
    · have : μ 4 (μ 2 3 + 1) = 33 := hr.2.1.symm.trans q
      rw [this] at D1; exact D1
  exact ⟨u1.at3, c_mNa_isInBlock u1.i.nc fun r2 => ⟨fun _ => s48 _ μ1 _ rfl rfl u1.at3 k33, fun _ => c_u_soften k33.u (by decide) u1.at3 fun μ2 z2 g2 u2 => s48 _ μ2 _ rfl rfl u1.at3 (k33.of u2)⟩⟩
end K41

/-! THE CLASS, part k42: read -/
section K42
variable {X : jm_X} {d e : Nat} {P : Int → ab_m → Prop} {μ μ' μ0 μ1 μ2 : ab_m} {s t τ t' τ' ζ δ b b' H H' κ κ' o o' k k' n0 D : Int} {Z Z' : Int → Prop} {Γ : scG} {Lb Ln Lb' Ln' A B A' B' : List Int} {G G' : Prop}
/-- all is read: a well-made script -/
theorem zGG.halt (gg : zGG μ s Γ ζ (-1) b Z 0 κ) (k3 : κ ≤ 30) (hs : s = 16 ∨ s = 26) (hZ : ∀ k, ¬ Z k) (S : zS s μ μ' 28 0) (n3 : 0 ≤ μ s 4 ∧ μ s 4 ≤ 3000) (h5 : μ s 5 = ζ) (h6 : 0 ≤ μ s 6 ∧ μ s 6 ≤ 1499) (h10 : 0 ≤ μ s 10 ∧ μ s 10 ≤ 15) : ∃ Γ', scW μ' s Γ' (μ s 4 + 1) (μ s 10) := by
  obtain ⟨z, b0, cu, rz, rm, st, mi, df, cd, nm, hb, ro⟩ := gg
  have r1 : rho μ s (-1) = μ s 10 := by unfold rho; rw [if_pos rfl]
  rw [r1] at rz rm df
  obtain ⟨W, hW⟩ : ∃ W : Int → List Int, ∀ j, (0 ≤ j → j < μ s 4 → sDc μ s (W j) (μ (s + 3) j) ∧ ∀ y ∈ W j, y < μ s 4) ∧ (¬ j < μ s 4 → W j = []) := by
    apply Classical.axiomOfChoice (r := fun j L => (0 ≤ j → j < μ s 4 → sDc μ s L (μ (s + 3) j) ∧ ∀ y ∈ L, y < μ s 4) ∧ (¬ j < μ s 4 → L = []))
    intro j
    by_cases q : 0 ≤ j ∧ j < μ s 4
    · obtain ⟨L, w1, w2⟩ := (st j q.1 q.2).wr
      exact ⟨L, fun _ _ => ⟨w1, w2⟩, fun y => absurd q.2 y⟩
    · exact ⟨[], fun y1 y2 => absurd ⟨y1, y2⟩ q, fun _ => rfl⟩
  obtain ⟨Sn, So, Sg, Sw, Sf⟩ := S
  generalize hn : μ s 4 = n at *
  have es : ∀ j, j ≠ 4 → μ' s j = μ s j := fun j q => Sf s j (by omega) (by omega)
  have ek : ∀ c k, s + 1 ≤ c → c ≤ s + 4 → k ≠ n → μ' c k = μ c k := fun c k x y q => Sf c k (by omega) (by omega)
  have ea : ∀ c k, s + 5 ≤ c → c ≤ s + 9 → μ' c k = μ c k := fun c k x y => Sf c k (by omega) (by omega)
  have on : ∀ L x, sDc μ s L x → (∀ y ∈ L, y < n) → sDc μ' s L x := fun L x hh hl => hh.on fun y hy => ek _ y (by omega) (by omega) (by have := hl y hy; omega)
  have rz1 := rz n z.2.1 (Int.le_refl _)
  have rz2 := rz ζ (Int.le_refl _) z.2.1
  have rle : ∀ k, 0 ≤ k → k ≤ n → Γ.2.1 k ≤ μ s 10 := fun k x y => by
    by_cases q : k < ζ
    · have := rm k x q; omega
    · have := (rz k (by omega) y).1; omega
  refine ⟨⟨Γ.1, Γ.2.1, Γ.2.2.1, Γ.2.2.2.1, W⟩, ⟨Sn, by omega, by omega⟩, by rw [es 6 (by decide)]; exact h6, h10, b0, fun k x y => ?_, ?_, fun x p q => ?_, ?_, fun k x y => ?_⟩
  · by_cases q : k = n
    · subst q
      refine ⟨Or.inr (Or.inl ⟨So, cu.1⟩), by show 0 ≤ Γ.2.2.2.1 k ∧ Γ.2.2.2.1 k ≤ 30; omega, fun q => by omega, fun q => by omega, fun q => by omega, fun q => by omega, fun q => by omega, fun q => by omega, fun q => by omega, fun q => by omega, ?_⟩
      show sDc μ' s (W k) (μ' (s + 3) k)
      rw [(hW k).2 (by omega), Sw.1]
      rfl
    · have kn : k < n := by omega
      have m := mi k x kn
      obtain ⟨mv, qq, n', td, jp, rw', cl, rt, tr, dr, wr⟩ := st k x kn
      have o1 := ek (s + 1) k (by omega) (by omega) q
      have o2 := ek (s + 2) k (by omega) (by omega) q
      have o3 := ek (s + 3) k (by omega) (by omega) q
      refine ⟨?_, qq, by rw [o1, o2]; exact n', ?_, ?_, ?_, ?_, by rw [o1, o2]; exact rt, ?_, ?_, ?_⟩
      · rw [o1, o2]
        rcases mv with w | ⟨w1, w2, w3, w4, w5⟩
        · exact Or.inl ⟨w.1, w.2.1, w.2.2.1, w.2.2.2.1, w.2.2.2.2, by omega⟩
        · exact Or.inr (Or.inr ⟨by rw [ea (s + 9) _ (by omega) (by omega)]; exact w1, w2, w3, by omega, w4, w5⟩)
      · rw [o1, o2]
        intro u
        rcases td u with w | w | ⟨j, w1, w2, w3, w4, w5⟩
        · exact Or.inl (by rw [es 6 (by decide)]; exact w)
        · exact Or.inr (Or.inl (by rw [ea (s + 8) _ (by omega) (by omega), ea (s + 9) _ (by omega) (by omega)]; exact w))
        · exact Or.inr (Or.inr ⟨j, w1, w2, w3, by rw [ek _ _ (by omega) (by omega) (by omega)]; exact w4, by rw [ek _ _ (by omega) (by omega) (by omega)]; exact w5⟩)
      · rw [o1, o2]
        intro u
        have jp := jp u
        rw [hn] at jp
        have : 0 ≤ μ (s + 2) k := (m u).resolve_right (hZ k)
        exact ⟨this, by omega, jp.2.2⟩
      · rw [o1, o2]
        intro u v w
        rw [ea (s + 5) _ (by omega) (by omega)]
        exact ro _ v (rw' u).2
      · rw [o1, o2]
        intro u
        have cl := cl u
        have := rle k x (by omega)
        exact ⟨cl.1, cl.2, by omega⟩
      · rw [o1, o2]
        intro u
        obtain ⟨t1, j, t2, t3, t4, L, t5, t6, t7⟩ := tr u
        refine ⟨t1, j, t2, t3, t4, ?_⟩
        show μ (s + 2) k ∈ W j
        rw [((hW j).1 t2 (by omega)).1.un t5]
        exact t7
      · rw [o1]
        intro u
        have dr := dr u
        exact ⟨dr.1, by rw [ek _ _ (by omega) (by omega) (by omega)]; exact dr.2.1, dr.2.2⟩
      · show sDc μ' s (W k) (μ' (s + 3) k)
        have := (hW k).1 x kn
        rw [o3]
        exact on _ _ this.1 this.2
  · rw [es 5 (by decide), h5]
    exact ⟨by omega, rz2.1, z.2.2, rz2.2⟩
  · obtain ⟨b1, b2, b3⟩ := df x p q
    rw [hn] at b1 b2
    rw [ea (s + 6) x (by omega) (by omega), ea (s + 7) x (by omega) (by omega), ea (s + 8) x (by omega) (by omega), ea (s + 9) x (by omega) (by omega)]
    exact ⟨by omega, b1.2.1, b1.2.2.1, b1.2.2.2, by omega, b2.2, b3.1, b3.2.1, b3.2.2⟩
  · rw [show n + 1 - 1 = n by omega]
    exact ⟨So, rz1.1⟩
  · have kn : k < n := by omega
    rw [ek _ _ (by omega) (by omega) (by omega)]
    rcases (st k x kn).mv with w | w
    · rw [w.1]; decide
    · have := w.1
      unfold scHv at this
      exact this.1.2.2.1
/-- nothing is read yet -/
theorem zGd.first (h4 : μ s 4 = 0) (h8 : μ s 8 = 0) (h10 : μ s 10 = 0) (h7 : μ 7 3 = 0) : zGd μ s := by
  unfold zGd
  rw [h4, h7]
  refine ⟨⟨fun _ => 0, fun _ => 0, fun _ => 0, fun _ => 0, fun _ => []⟩, ⟨by decide, by omega, rfl⟩, ⟨rfl, rfl, rfl⟩, ⟨rfl, by decide, Int.le_refl 0, Int.le_refl 0⟩, fun k x y => ⟨?_, ?_⟩, fun k x y => by omega, fun k x y => by omega, fun k x y => by omega, fun x p q => ?_, Or.inl rfl, fun i x y => by omega, ⟨by decide, by omega⟩, fun x p q => by omega⟩
  · unfold rho; rw [if_pos rfl, h10]
  · show (0 : Int) = 0; rfl
  · unfold rho at q; rw [if_pos rfl, h10] at q; omega
theorem c_isAtDecl (h : zU s G μ0 μ t τ o k) (hP : ∀ r, r = 0 ∨ (μ 2 4 = 0 ∧ (k = 41 ∨ k = 46 ∨ k = 37)) → P r μ) : jj_mRe_isAtDecl X (d + 1) 0 (ab_la [2]) [] μ P := by
  refine bk_mRe_isAtDecl_0 rfl (c_u_kind h fun r hr => ?_)
  have z : r ≠ 48 → μ 2 4 = 0 ∧ k = r := fun y => by
    rcases hr with hr | hr
    · exact absurd hr.2 y
    · exact ⟨hr.1, hr.2.1.symm⟩
  refine ⟨fun q => hP 1 (Or.inr ?_), fun _ => ⟨fun q => hP 1 (Or.inr ?_), fun _ => ⟨fun _ => hP 0 (Or.inl rfl), fun q => hP 1 (Or.inr ?_)⟩⟩⟩
  · have := z (by omega); exact ⟨this.1, by omega⟩
  · have := z (by omega); exact ⟨this.1, by omega⟩
  · have := z (by omega); exact ⟨this.1, by omega⟩
end K42
/-- what read leaves as it was -/
def rdK (s : Int) (μ μ' : ab_m) : Prop := (∀ c j, ¬ (2 ≤ c ∧ c ≤ 15) → ¬ (s ≤ c ∧ c ≤ s + 9) → c ≠ 0 → μ' c j = μ c j) ∧ (∀ j, ¬ (3 ≤ j ∧ j ≤ 6) → j ≠ 1 → j ≠ 9 → j ≠ 15 → μ' 0 j = μ 0 j) ∧ (μ' 0 1 = 0)
theorem rdK.o {s : Int} {μ μ' : ab_m} (h'' : rdK s μ μ') : ∀ c j, ¬ (2 ≤ c ∧ c ≤ 15) → ¬ (s ≤ c ∧ c ≤ s + 9) → c ≠ 0 → μ' c j = μ c j := h''.1
theorem rdK.f {s : Int} {μ μ' : ab_m} (h'' : rdK s μ μ') : ∀ j, ¬ (3 ≤ j ∧ j ≤ 6) → j ≠ 1 → j ≠ 9 → j ≠ 15 → μ' 0 j = μ 0 j := h''.2.1
theorem rdK.t {s : Int} {μ μ' : ab_m} (h'' : rdK s μ μ') : μ' 0 1 = 0 := h''.2.2
section K42
variable {X : jm_X} {d e : Nat} {P : Int → ab_m → Prop} {μ μ' μ0 μ1 μ2 : ab_m} {s t τ t' τ' ζ δ b b' H H' κ κ' o o' k k' n0 D : Int} {Z Z' : Int → Prop} {Γ : scG} {Lb Ln Lb' Ln' A B A' B' : List Int} {G G' : Prop}
/-- what read does -/
def rdR (s : Int) (μ μ' : ab_m) : Prop := (∀ j, (3 ≤ j ∧ j ≤ 5) ∨ j = 9 ∨ j = 15 → μ' 0 j = μ 0 j) ∨ (μ' 0 3 = s ∧ μ' 0 4 = μ 0 3 ∧ μ' 0 5 = 1 ∧ μ' 0 9 = 0 ∧ μ' 0 15 = 0 ∧ ∃ Γ N dn, scW μ' s Γ N dn)
theorem scW.frame {N dn : Int} (h : scW μ s Γ N dn) (e : ∀ c j, s ≤ c → c ≤ s + 9 → μ' c j = μ c j) : scW μ' s Γ N dn := by
  have es : ∀ j, μ' s j = μ s j := fun j => e s j (by omega) (by omega)
  have a : ∀ (i : Int) (h : 1 ≤ i ∧ i ≤ 9) (j : Int), μ' (s + i) j = μ (s + i) j := fun i h j => e _ j (by omega) (by omega)
  obtain ⟨n, g, d, b0, k, st, df, la, ns⟩ := h
  have sd : ∀ L x, sDc μ s L x → sDc μ' s L x := fun L x hh => hh.on fun y _ => a 4 (by decide) y
  have a1 := a 1 (by decide)
  have a2 := a 2 (by decide)
  have a3 := a 3 (by decide)
  have a5 := a 5 (by decide)
  have a8 := a 8 (by decide)
  have a9 := a 9 (by decide)
  refine ⟨by rw [es]; exact n, by rw [es]; exact g, d, b0, fun k' x y => ?_, by rw [es]; exact st, fun x p q => by rw [a 6 (by decide), a 7 (by decide), a8, a9]; exact df x p q, by rw [a1]; exact la, fun k' x y => by rw [a1]; exact ns k' x y⟩
  obtain ⟨mv, qq, n', td, jp, rw', cl, rt, tr, dr, wr⟩ := k k' x y
  refine ⟨by rw [a1, a2, a9]; exact mv, qq, by rw [a1, a2]; exact n', ?_, by rw [a1, a2]; exact jp, by rw [a1, a2, a5]; exact rw', by rw [a1, a2]; exact cl, by rw [a1, a2]; exact rt, by rw [a1, a2]; exact tr, by rw [a1, a1]; exact dr, by rw [a3]; exact sd _ _ wr⟩
  rw [a1, a2]
  intro u
  rcases td u with w | w | ⟨j, w⟩
  · exact Or.inl (by rw [es]; exact w)
  · exact Or.inr (Or.inl (by rw [a8, a9]; exact w))
  · exact Or.inr (Or.inr ⟨j, by rw [a1, a2]; exact w⟩)
theorem c_mP_read (ht : 0 ≤ μ 0 1 ∧ μ 0 1 ≤ 3000) (h4 : ab_is 10 (μ 0 4)) (h3 : ab_is 10 (μ 0 3)) (hP : ∀ r μ', rdK (μ 0 4) μ μ' → rdR (μ 0 4) μ μ' → P r μ') : jj_mP_read X (d + 80) 0 (ab_la [0]) [] μ P := by
  obtain ⟨s, hsd⟩ : ∃ s, s = μ 0 4 := ⟨_, rfl⟩
  have hs0 : ab_is 10 s := by rw [hsd]; exact h4
  have hs : s = 16 ∨ s = 26 := hs0
  have h3' : μ 0 3 = 16 ∨ μ 0 3 = 26 := h3
  rw [← hsd] at hP
  have arr : ab_arr 0 3000 1 := ⟨1, rfl, by decide, by decide⟩
  -- the end
  have s135 : ∀ (l : ab_l) (μ3 μ1 : ab_m) (k1 : Int) (Lb Ln A B : List Int), l 0 = 0 → zW s (μ3 s 4) (-1) (μ3 7 3) (zZ (fun _ => False) A B) (A ++ Lb) (B ++ Ln) μ3 μ1 0 0 0 0 0 k1 → zPo s μ3 μ1 A B → μ3 2 11 = 0 → μ3 s 5 = μ3 s 4 → (∀ c j, ¬ (2 ≤ c ∧ c ≤ 15) → ¬ (s ≤ c ∧ c ≤ s + 9) → ¬ (c = 0 ∧ j = 1) → μ3 c j = μ c j) → μ3 0 1 = 0 → jj_mP_read X (d + 80) 135 l [] μ1 P := by
    intro l μ3 μ1 k1 Lb Ln A B l0 W po c11 h5 f3 t3
    refine bk_mP_read_135 l0 (bk_mRe_finish_0 rfl ⟨by rw [W.i.sc]; exact W.i.hs, c_addR W.i.hs W.i.sc W.i.n fun r μ4 a μ5 e5 => ?_⟩)
    have fr : ∀ c j, ¬ (s ≤ c ∧ c ≤ s + 4) → μ4 c j = μ1 c j := fun c j q => by
      rcases a with ⟨-, -, S⟩ | ⟨-, -, a3⟩
      · exact S.f c j (by omega) (by omega)
      · rw [a3]
    have g5 : ∀ c j, ¬ (c = 0 ∧ j = 6) → μ5 c j = μ4 c j := fun c j q => by rw [e5, ab_mud, if_neg q]
    have o5 : ∀ c j, ¬ (2 ≤ c ∧ c ≤ 15) → ¬ (s ≤ c ∧ c ≤ s + 9) → ¬ (c = 0 ∧ (j = 6 ∨ j = 1)) → μ5 c j = μ c j := fun c j x y z => by rw [g5 c j (by omega), fr c j (by omega), W.f.o c j (by omega) (by omega) (by omega), f3 c j x y (by omega)]
    have t5 : μ5 0 1 = 0 := by rw [g5 0 1 (by decide), fr 0 1 (by omega), W.f.o 0 1 (by decide) (by decide) (by omega)]; exact t3
    have q3 := o5 0 3 (by decide) (by omega) (by decide)
    have q4 := o5 0 4 (by decide) (by omega) (by decide)
    refine ⟨fun z => ⟨by omega, by omega, fun μ6 e6 => ⟨by omega, by omega, fun μ7 e7 μ8 e8 μ9 e9 μ10 e10 => ?_⟩⟩, fun z => hP _ μ5 ⟨fun c j x y w => o5 c j x y (by omega), fun j x y _ _ => o5 0 j (by decide) (by omega) (by omega), t5⟩ (Or.inl fun j q => o5 0 j (by decide) (by omega) (by omega))⟩
    have g10 : ∀ c j, ¬ (c = 0 ∧ (j = 3 ∨ j = 4 ∨ j = 5 ∨ j = 9 ∨ j = 15)) → μ10 c j = μ5 c j := fun c j q => by rw [e10, ab_mud, if_neg (by omega), e9, ab_mud, if_neg (by omega), e8, ab_mud, if_neg (by omega), e7, ab_mud, if_neg (by omega), e6, ab_mud, if_neg (by omega)]
    refine hP _ μ10 ⟨fun c j x y w => by rw [g10 c j (by omega)]; exact o5 c j x y (by omega), fun j x y u v => by rw [g10 0 j (by omega)]; exact o5 0 j (by decide) (by omega) (by omega), by rw [g10 0 1 (by decide)]; exact t5⟩ (Or.inr ⟨?_, ?_, ?_, ?_, ?_, ?_⟩)
    · rw [e10, ab_mud, if_neg (by decide), e9, ab_mud, if_neg (by decide), e8, ab_mud, if_neg (by decide), e7, ab_mud, if_neg (by decide), e6, ab_mud, if_pos ⟨rfl, rfl⟩, q4, hsd]
    · rw [e10, ab_mud, if_neg (by decide), e9, ab_mud, if_neg (by decide), e8, ab_mud, if_neg (by decide), e7, ab_mud, if_pos ⟨rfl, rfl⟩, q3]
    · rw [e10, ab_mud, if_neg (by decide), e9, ab_mud, if_neg (by decide), e8, ab_mud, if_pos ⟨rfl, rfl⟩]
    · rw [e10, ab_mud, if_neg (by decide), e9, ab_mud, if_pos ⟨rfl, rfl⟩]
    · rw [e10, ab_mud, if_pos ⟨rfl, rfl⟩]
    · have y : μ1 2 5 = 0 := by rw [← fr 2 5 (by omega)]; exact z
      have ab := po.l y c11
      obtain ⟨Γ, gg⟩ := W.g y
      rw [ab.1, ab.2] at gg
      have ph := W.i.ph (W.go y)
      have pl := W.i.pl
      have nu := W.i.nu
      rcases a with ⟨a1, a2, S⟩ | ⟨a1, a2, a3⟩
      · obtain ⟨Γ', w⟩ := gg.halt (by decide) hs (fun k w => by simp [zZ] at w) S ⟨W.i.n.1, by omega⟩ (by rw [W.f.g 5 (by decide) (by decide)]; exact h5) nu.1 nu.2.2.2
        exact ⟨Γ', _, _, w.frame fun c j x y => by rw [g10 c j (by omega), g5 c j (by omega)]⟩
      · omega
  -- the program's statements
  have s107 : ∀ (m : Nat) (l : ab_l) (μ3 μ1 : ab_m) (k1 lf : Int) (Lb Ln A B : List Int), l 0 = 0 → l 1 = lf → lf ≤ 3001 → lf.toNat = m → zW s (μ3 s 4) (-1) (μ3 7 3) (zZ (fun _ => False) A B) (A ++ Lb) (B ++ Ln) μ3 μ1 0 0 0 0 0 k1 → zPo s μ3 μ1 A B → μ3 2 10 = -1 → μ3 2 11 = 0 → μ3 s 5 = μ3 s 4 → (∀ c j, ¬ (2 ≤ c ∧ c ≤ 15) → ¬ (s ≤ c ∧ c ≤ s + 9) → ¬ (c = 0 ∧ j = 1) → μ3 c j = μ c j) → μ3 0 1 = 0 → jj_mP_read X (d + 80) 107 l [] μ1 P := by
    intro m
    induction m with
    | zero =>
      intro l μ3 μ1 k1 lf Lb Ln A B l0 l1 lf1 em W po c10 c11 h5 f3 t3
      refine bk_mP_read_107 l0 ?_
      rw [l1]
      exact ⟨fun _ => s135 l μ3 μ1 k1 Lb Ln A B l0 W po c11 h5 f3 t3, fun q => by omega⟩
    | succ m ih =>
      intro l μ3 μ1 k1 lf Lb Ln A B l0 l1 lf1 em W po c10 c11 h5 f3 t3
      obtain ⟨lf2, lf3, lf4⟩ := lfm lf1 em
      have en := s135 l μ3 μ1 k1 Lb Ln A B l0 W po c11 h5 f3 t3
      refine bk_mP_read_107 l0 ?_
      rw [l1, lf4]
      refine ⟨fun _ => en, fun _ => bk_mRe_hasMore_0 rfl ⟨fun _ => ⟨fun _ => en, fun y => absurd rfl y⟩, fun z => c_mRe_kind W fun r hr => ⟨fun _ => ⟨fun _ => en, fun y => absurd rfl y⟩, fun _ => ⟨fun y => absurd y (by decide), fun _ => ?_⟩⟩⟩⟩
      refine c_stmt W.base (Int.le_refl _) (by rw [W.f.f 10 (by decide) (by decide) (by decide) (by decide)]; exact c10) fun μ2 k2 A2 B2 W2 po2 => ih _ μ3 μ2 k2 (lf - 1) Lb Ln (A2 ++ A) (B2 ++ B) l0 rfl lf2 lf3 (W2.back W.f).join (po.trans W.f po2 (zF.fault W2)) c10 c11 h5 f3 t3
  -- the decls
  have s28 : ∀ (m : Nat) (l : ab_l) (μb μ1 : ab_m) (k1 lf : Int), l 0 = 0 → l 1 = lf → lf ≤ 3001 → lf.toNat = m → zD s μb μ1 0 0 0 k1 → (∀ c j, ¬ (2 ≤ c ∧ c ≤ 15) → ¬ (s ≤ c ∧ c ≤ s + 9) → ¬ (c = 0 ∧ j = 1) → μb c j = μ c j) → μb 0 1 = 0 → jj_mP_read X (d + 80) 28 l [] μ1 P := by
    intro m
    have bs : ∀ (l : ab_l) (μb μ1 : ab_m) (k1 : Int), l 0 = 0 → zD s μb μ1 0 0 0 k1 → (∀ c j, ¬ (2 ≤ c ∧ c ≤ 15) → ¬ (s ≤ c ∧ c ≤ s + 9) → ¬ (c = 0 ∧ j = 1) → μb c j = μ c j) → μb 0 1 = 0 → jj_mRe_beginStatements X (d + 79) 0 (ab_la [2]) [] μ1 (fun r2 μ1 => jj_mP_read X (d + 80) 107 (ab_up l 1 3000) [] μ1 P) := by
      intro l μb μ1 k1 l0 D1 fb tb
      refine bk_mRe_beginStatements_0 rfl fun μ2 e2 => ?_
      have g2 : ∀ c j, ¬ (c = 7 ∧ j = 4) → μ2 c j = μ1 c j := fun c j q => by rw [e2, ab_mud, if_neg q]
      rw [g2 2 2 (by decide), D1.u.i.sc]
      refine ⟨hs0, fun μ3 e3 => ?_⟩
      have g3 : ∀ c j, ¬ (c = 7 ∧ j = 4) → ¬ (c = s ∧ j = 5) → μ3 c j = μ1 c j := fun c j p q => by rw [e3, ab_mud, if_neg q, g2 c j p]
      have v4 : μ3 7 4 = μ1 7 3 := by rw [e3, ab_mud, if_neg (by omega), e2, ab_mud, if_pos ⟨rfl, rfl⟩]
      have v5 : μ3 s 5 = μ3 s 4 := by rw [g3 s 4 (by omega) (by omega), e3, ab_mud, if_pos ⟨rfl, rfl⟩, g2 s 4 (by omega)]
      have nu := D1.u.i.nu
      have nc := D1.u.i.nc
      obtain ⟨⟨Lb, Ln, ch⟩⟩ : Nonempty (zCh μ3 s) := ⟨D1.c.2.same (g3 s 4 (by omega) (by omega)) (fun c y q => g3 c y (by omega) (by omega)) (g3 2 12 (by omega) (by omega)) (g3 2 13 (by omega) (by omega))⟩
      have i3 : zI μ3 s 0 0 := D1.u.i.chg (fun c j q => g3 c j (by omega) (by omega)) (g3 3 3 (by omega) (by omega)) (fun j x y => g3 2 j (by omega) (by omega)) (g3 s 4 (by omega) (by omega)) (g3 s 7 (by omega) (by omega)) (by rw [g3 s 6 (by omega) (by omega), g3 s 8 (by omega) (by omega), g3 s 10 (by omega) (by omega)]; exact ⟨nu.1, nu.2.2⟩) (by rw [v4, g3 7 3 (by omega) (by omega)]; omega) (by rw [g3 2 11 (by omega) (by omega)]; exact D1.u.i.bo) (by rw [g3 2 10 (by omega) (by omega)]; exact D1.u.i.dw)
      have W3 : zW s (μ3 s 4) (-1) (μ3 7 3) (fun _ => False) Lb Ln μ3 μ3 0 0 0 0 0 k1 := by
        refine ⟨i3, zF.refl, ch, fun q => ?_, by rw [g3 2 4 (by omega) (by omega), g3 2 8 (by omega) (by omega)]; exact D1.u.op, by rw [g3 2 4 (by omega) (by omega), g3 2 3 (by omega) (by omega), g3 4 _ (by omega) (by omega)]; exact D1.u.kw⟩
        rw [g3 2 5 (by omega) (by omega)] at q
        obtain ⟨Γ, gg⟩ := D1.u.g q
        rw [g3 s 4 (by omega) (by omega), g3 7 3 (by omega) (by omega)]
        exact ⟨Γ, gg.same (fun j q _ => g3 s j (by omega) (by omega)) (fun c j x y => g3 c j (by omega) (by omega)) (g3 7 3 (by omega) (by omega)) fun c j x => g3 c j (by omega) (by omega)⟩
      exact s107 _ _ μ3 μ3 k1 3000 Lb Ln [] [] l0 rfl (by decide) rfl W3.nil zPo.nil (by rw [g3 2 10 (by omega) (by omega)]; exact D1.c.1.1) (by rw [g3 2 11 (by omega) (by omega)]; exact D1.c.1.2.1) v5 (fun c j x y z => by rw [g3 c j (by omega) (by omega), D1.f.o c j (by omega) (by omega) y, fb c j x y z]) (by rw [g3 0 1 (by omega) (by omega), D1.f.o 0 1 (by decide) (by decide) (by omega)]; exact tb)
    induction m with
    | zero =>
      intro l μb μ1 k1 lf l0 l1 lf1 em D1 fb tb
      refine bk_mP_read_28 l0 ?_
      rw [l1]
      exact ⟨fun _ => bs l μb μ1 k1 l0 D1 fb tb, fun q => by omega⟩
    | succ m ih =>
      intro l μb μ1 k1 lf l0 l1 lf1 em D1 fb tb
      obtain ⟨lf2, lf3, lf4⟩ := lfm lf1 em
      refine bk_mP_read_28 l0 ?_
      rw [l1, lf4]
      refine ⟨fun _ => bs l μb μ1 k1 l0 D1 fb tb, fun _ => c_isAtDecl D1.u fun r hr => ⟨fun _ => bs l μb μ1 k1 l0 D1 fb tb, fun y => ?_⟩⟩
      have hk := hr.resolve_left y
      refine c_u_kind D1.u fun r2 hr2 => ?_
      have k2 : r2 = k1 := by
        rcases hr2 with q | q
        · exact absurd hk.1 q.1
        · exact q.2.1
      have go : ∀ (r : Int) (μ2 : ab_m) (k2 : Int), zD s μb μ2 0 0 0 k2 → jj_mP_read X (d + 80) 28 (ab_up (ab_up l 2 r2) 1 (lf - 1)) [] μ2 P := fun _ μ2 k2 D2 => ih _ μb μ2 k2 (lf - 1) l0 rfl lf2 lf3 D2 fb tb
      exact ⟨fun q1 => ⟨fun q2 => c_tellInts1 D1 (fun _ => by omega) fun μ2 k2 D2 => go 0 μ2 k2 D2, fun q2 => c_tellRow D1 (fun _ => by omega) fun μ2 k2 D2 => go 0 μ2 k2 D2⟩, fun q1 => c_define D1 (fun _ => by omega) fun μ2 k2 D2 => go 0 μ2 k2 D2⟩
  refine bk_mP_read_0 rfl (bk_mRe_begin_0 rfl (n1 := 3000) arr h4 (c_mWo_split ht fun μ1 f1 w1 => bk_mNa_forget_0 rfl fun μ2 e2 μ3 e3 μ4 e4 => ?_))
  simp only [la3] at e4
  rw [← hsd] at e4
  have g4 : ∀ c j, ¬ (c = 7 ∧ (j = 3 ∨ j = 4)) → ¬ (c = 2 ∧ j = 2) → μ4 c j = μ1 c j := fun c j p q => by rw [e4, ab_mud, if_neg q, e3, ab_mud, if_neg (by omega), e2, ab_mud, if_neg (by omega)]
  have v2 : μ4 2 2 = s := by rw [e4, ab_mud, if_pos ⟨rfl, rfl⟩]
  have v73 : μ4 7 3 = 0 := by rw [e4, ab_mud, if_neg (by decide), e3, ab_mud, if_neg (by decide), e2, ab_mud, if_pos ⟨rfl, rfl⟩]
  have v74 : μ4 7 4 = 0 := by rw [e4, ab_mud, if_neg (by decide), e3, ab_mud, if_pos ⟨rfl, rfl⟩]
  rw [v2]
  refine ⟨hs0, bk_mSc_forget_0 (by show ab_is 10 s; exact hs0) ?_⟩
  simp only [la0]
  intro μ5 e5 μ6 e6 μ7 e7 μ8 e8 μ9 e9 μ10 e10 μ11 e11 μ12 e12 μ13 e13 μ14 e14 μ15 e15 μ16 e16 μ17 e17 μ18 e18 μ19 e19 μ20 e20 μ21 e21 μ22 e22
  have g10 : ∀ c j, c ≠ s → μ10 c j = μ4 c j := fun c j q => by rw [e10, mu_ne q, e9, mu_ne q, e8, mu_ne q, e7, mu_ne q, e6, mu_ne q, e5, mu_ne q]
  have w10 : μ10 s 4 = 0 ∧ μ10 s 6 = 0 ∧ μ10 s 7 = 0 ∧ μ10 s 8 = 0 ∧ μ10 s 10 = 0 := by
    refine ⟨?_, ?_, ?_, ?_, ?_⟩
    · rw [e10, ab_mud, if_neg (by omega), e9, ab_mud, if_neg (by omega), e8, ab_mud, if_neg (by omega), e7, ab_mud, if_neg (by omega), e6, ab_mud, if_neg (by omega), e5, ab_mud, if_pos ⟨rfl, rfl⟩]
    · rw [e10, ab_mud, if_neg (by omega), e9, ab_mud, if_neg (by omega), e8, ab_mud, if_neg (by omega), e7, ab_mud, if_pos ⟨rfl, rfl⟩]
    · rw [e10, ab_mud, if_neg (by omega), e9, ab_mud, if_neg (by omega), e8, ab_mud, if_pos ⟨rfl, rfl⟩]
    · rw [e10, ab_mud, if_neg (by omega), e9, ab_mud, if_pos ⟨rfl, rfl⟩]
    · rw [e10, ab_mud, if_pos ⟨rfl, rfl⟩]
  have g22 : ∀ c j, ¬ (c = 2 ∧ 3 ≤ j ∧ j ≤ 13) → ¬ (c = 0 ∧ j = 1) → μ22 c j = μ10 c j := fun c j p q => by rw [e22, ab_mud, if_neg q, e21, ab_mud, if_neg (by omega), e20, ab_mud, if_neg (by omega), e19, ab_mud, if_neg (by omega), e18, ab_mud, if_neg (by omega), e17, ab_mud, if_neg (by omega), e16, ab_mud, if_neg (by omega), e15, ab_mud, if_neg (by omega), e14, ab_mud, if_neg (by omega), e13, ab_mud, if_neg (by omega), e12, ab_mud, if_neg (by omega), e11, ab_mud, if_neg (by omega)]
  have x1 : μ22 0 1 = 0 := by rw [e22]; rfl
  have x3 : μ22 2 3 = 0 := by rw [e22, e21, e20, e19, e18, e17, e16, e15, e14, e13, e12, e11]; rfl
  have x4 : μ22 2 4 = 0 := by rw [e22, e21, e20, e19, e18, e17, e16, e15, e14, e13, e12, e11]; rfl
  have x7 : μ22 2 7 = 1 := by rw [e22, e21, e20, e19, e18, e17, e16, e15, e14, e13, e12, e11]; rfl
  have x8 : μ22 2 8 = 0 := by rw [e22, e21, e20, e19, e18, e17, e16, e15, e14, e13, e12, e11]; rfl
  have x10 : μ22 2 10 = -1 := by rw [e22, e21, e20, e19, e18, e17, e16, e15, e14, e13, e12, e11]; rfl
  have x11 : μ22 2 11 = 0 := by rw [e22, e21, e20, e19, e18, e17, e16, e15, e14, e13, e12, e11]; rfl
  have x12 : μ22 2 12 = -1 := by rw [e22, e21, e20, e19, e18, e17, e16, e15, e14, e13, e12, e11]; rfl
  have x13 : μ22 2 13 = -1 := by rw [e22, e21, e20, e19, e18, e17, e16, e15, e14, e13, e12, e11]; rfl
  have wd : ∀ c j, 3 ≤ c ∧ c ≤ 6 → μ22 c j = μ1 c j := fun c j q => by rw [g22 c j (by omega) (by omega), g10 c j (by omega), g4 c j (by omega) (by omega)]
  have y2 : μ22 2 2 = s := by rw [g22 2 2 (by decide) (by decide), g10 2 2 (by omega)]; exact v2
  have y73 : μ22 7 3 = 0 := by rw [g22 7 3 (by decide) (by decide), g10 7 3 (by omega)]; exact v73
  have y74 : μ22 7 4 = 0 := by rw [g22 7 4 (by decide) (by decide), g10 7 4 (by omega)]; exact v74
  have ys : ∀ j, μ22 s j = μ10 s j := fun j => g22 s j (by omega) (by omega)
  have ww : wW μ22 (μ22 3 3) := by rw [wd 3 3 (by decide)]; exact w1.same fun c j q => wd c j (by omega)
  have i22 : zI μ22 s 0 0 := by
    have C := ww.c
    refine ⟨y2, hs0, ww, by omega, fun q => by omega, by rw [ys]; omega, fun _ => ?_, by rw [ys, ys, ys, ys]; omega, by omega, fun i a c => by omega, by omega, by omega⟩
    rw [ys, ys, x3, x8]
    have := ww.pl _ 0 (Int.le_refl _) (by omega) rfl
    omega
  refine s28 _ _ μ22 μ22 (μ22 4 (μ22 2 3)) 3000 rfl rfl (by decide) rfl ⟨⟨i22, fun _ _ _ => rfl, id, id, fun _ => zGd.first (by rw [ys]; exact w10.1) (by rw [ys]; exact w10.2.2.2.1) (by rw [ys]; exact w10.2.2.2.2) y73, fun _ => x8, fun _ => rfl⟩, zFd.refl, ⟨x10, x11, y74⟩, [], [], x12, x13, fun x hx => by simp at hx⟩ (fun c j x y z => ?_) x1
  rw [g22 c j (by omega) (by omega), g10 c j (by omega), g4 c j (by omega) (by omega), f1 c j (by omega) (by omega)]
end K42

