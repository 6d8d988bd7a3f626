/-! THE CLASS, part k35: takeSimple, takeNamed -/
section K35
variable {X : jm_X} {d : Nat} {P : Int → ab_m → Prop} {μ μ' μ0 μ1 : ab_m} {s t τ t' τ' ζ δ b b' H H' κ κ' o o' k k' n0 : Int} {Z Z' : Int → Prop} {Γ : scG} {Lb Ln Lb' Ln' A B : List Int}
theorem zNg.on {kd r : Int} (h : zNg μ s ζ δ kd r) (hs : s = 16 ∨ s = 26) (f : zF s μ μ') (n : μ s 4 ≤ 3001) (z : 0 ≤ ζ) : zNg μ' s ζ δ kd r := by
  have o : ∀ c j, s + 5 ≤ c → c ≤ s + 9 → μ' c j = μ c j := fun c j x y => f.o c j (by omega) (by omega) (by omega)
  have fn := f.n
  refine ⟨fun q => ⟨(h.n q).1, ?_⟩, fun q => by rw [f.g 8 (by decide) (by decide)]; exact h.w q, fun q => by unfold rho; rw [f.g 10 (by decide) (by decide)]; exact h.d q⟩
  rcases (h.n q).2 with w | w | ⟨j, w1, w2, w3⟩
  · exact Or.inl (by rw [f.g 6 (by decide) (by decide)]; exact w)
  · exact Or.inr (Or.inl (by rw [o _ _ (by omega) (by omega), o _ _ (by omega) (by omega)]; exact w))
  · have p := f.p j (by omega) w2 (by omega)
    exact Or.inr (Or.inr ⟨j, w1, by omega, by rw [p.1, p.2]; exact w3⟩)
/-- the names of now still count when the walk has gone on -/
theorem zW.ng {kd r : Int} {t2 τ2 H2 κ2 o2 k2 t3 τ3 H3 κ3 o3 k3 : Int} {μ2 : ab_m} (h : zW s ζ δ b Z Lb Ln μ0 μ1 t2 τ2 H2 κ2 o2 k2) (h2 : zW s ζ δ b Z' Lb' Ln' μ1 μ2 t3 τ3 H3 κ3 o3 k3) (t1 : t2 ≤ 1) (g : zTo (μ1 2 5 = 0) (zNg μ1 s ζ δ kd r)) (y : μ2 2 5 = 0) : zNg μ2 s ζ δ kd r := by
  have y1 : μ1 2 5 = 0 := zF.fault h2 y
  have ph := h.i.ph (h.go y1)
  have pl := h.i.pl
  obtain ⟨Γ, gg⟩ := h.g y1
  exact (g y1).on h.s' h2.f (by omega) gg.z.1
theorem c_leave {n : Int} {Q : ab_m → Prop} (h : zW s ζ δ b Z Lb Ln μ μ1 (t + 1) τ 0 κ' o k) (t0 : t ≤ 0) (k0 : (0 ≤ κ' ∧ κ' ≤ 30) ∧ 0 ≤ κ) (z : μ1 2 4 = 0) (hk : k ≠ 34 ∧ k ≠ 35) (hn : n = 12 ∨ n = 13) (hQ : ∀ μ' k' A B, zW s ζ δ b (zZ Z A B) (A ++ Lb) (B ++ Ln) μ μ' (t + 1) τ 0 κ o k' → zPo s μ μ' A B → Q μ') : jj_mRe_takeLeave X (d + 1) 0 (ab_la [2, μ1 2 n]) [] μ1 (fun r μ8 => ∀ μ11, μ11 = ab_mu μ8 2 n r → Q μ11) := by
  have hs := h.s'
  have fin : ∀ (μ2 : ab_m), zW s ζ δ b Z Lb Ln μ μ2 (t + 1) τ 0 κ' o k → (∀ cc j, ¬ (cc = 2 ∧ (j = 5 ∨ j = 6)) → μ2 cc j = μ1 cc j) → (zTo (μ2 2 5 = 0) (μ1 2 11 ≠ 0)) → jj_mRe_go X d 0 (ab_la [2]) [] μ2 (fun r2 μ1' => ab_is 10 (μ1' 2 2) ∧ jj_mSc_add X d 0 (ab_la [μ1' 2 2, 25, μ1 2 n]) [] μ1' (fun r5 μ4 => ∀ μ11, μ11 = ab_mu μ4 2 n r5 → Q μ11)) := by
    intro μ2 W2 f2 hl
    refine c_mRe_go (w := 1) W2 (fun _ => zGo1 hk.1 hk.2) fun μ3 W3 a3 f3 => ?_
    have W3' := (W3.to (t' := t) (by omega) rfl rfl).mono (Z' := fun k => Z k ∨ k = μ3 s 4) fun k q => Or.inl q
    have z3 : μ3 2 4 = 0 := by rw [f3 2 4 (by omega), f2 2 4 (by omega)]; exact z
    have en : μ3 2 n = μ1 2 n := by rw [f3 2 n (by omega), f2 2 n (by omega)]
    have n0 := W3.i.n
    have ln : -1 ≤ μ1 2 n ∧ μ1 2 n ≤ μ3 s 4 := by
      rw [← en]
      rcases hn with hn | hn
      · subst hn
        have c := W3.c.b
        have := c.len
        cases Lb with
        | nil => have : μ3 2 12 = -1 := c; omega
        | cons y r => have := c.1; have := c.2.2.2.1; omega
      · subst hn
        have c := W3.c.n
        have := c.len
        cases Ln with
        | nil => have : μ3 2 13 = -1 := c; omega
        | cons y r => have := c.1; have := c.2.2.2.1; omega
    have ph := (W3'.i.ph z3).1
    have pl := W3'.i.pl
    refine ⟨by rw [W3.i.sc]; exact W3.i.hs, c_zadd W3' W3.i.sc (by omega) (H' := 0) (κ' := κ) (fun _ => zA_25 (Int.le_refl _) k0.1 k0.2 ln (Or.inr (Or.inr rfl))) fun r4 μ4 W4 a4 μ5 e5 => ?_⟩
    obtain ⟨er, S⟩ := a4.S W3' z3 (by omega)
    have n4 := S.n
    have bb : ∀ x ∈ Lb, x < μ3 s 4 := fun x hx => (W3.c.b.mem x hx).2.2.1
    have bn : ∀ x ∈ Ln, x < μ3 s 4 := fun x hx => (W3.c.n.mem x hx).2.2.1
    have e4 : μ4 s 4 - 1 = μ3 s 4 := by omega
    have W5 := W4.leave (μ' := μ5) (n := n) (by rw [e4, ← er]; exact e5) hn (by omega) (by rw [e4]; exact S.o) (by rw [e4]; exact bb) (by rw [e4]; exact bn) (by rw [e4, S.g, a4.fr 2 n (by omega), en])
    rw [e4] at W5
    have fn := W3.f.n
    have l5 : μ5 2 5 = 0 → μ 2 11 = 0 → False := fun y1 y2 => by
      have q5 : μ2 2 5 = 0 := by
        rw [e5, ab_mud, if_neg (by omega), a4.fr 2 5 (by omega), f3 2 5 (by omega)] at y1; exact y1
      exact hl q5 (by rw [h.f.f 11 (by decide) (by decide) (by decide) (by decide)]; exact y2)
    rcases hn with hn | hn
    · subst hn
      rw [if_pos rfl, if_pos rfl] at W5
      exact hQ μ5 _ [μ3 s 4] [] ((W5.mono (Z' := zZ Z [μ3 s 4] []) fun k q => q.imp id fun w => Or.inl (by rw [w]; exact List.mem_cons_self ..)).weak (Int.le_refl _) (by omega) (Int.le_refl _)) ⟨fun x hx => by simp at hx; omega, fun x hx => by simp at hx, fun y1 y2 => (l5 y1 y2).elim⟩
    · subst hn
      rw [if_neg (by decide), if_neg (by decide)] at W5
      exact hQ μ5 _ [] [μ3 s 4] ((W5.mono (Z' := zZ Z [] [μ3 s 4]) fun k q => q.imp id fun w => Or.inr (by rw [w]; exact List.mem_cons_self ..)).weak (Int.le_refl _) (by omega) (Int.le_refl _)) ⟨fun x hx => by simp at hx, fun x hx => by simp at hx; omega, fun y1 y2 => (l5 y1 y2).elim⟩
  exact bk_mRe_takeLeave_0 rfl ⟨fun y => fin μ1 h (fun _ _ _ => rfl) fun _ => y, fun y => c_mRe_soften h (by decide) h.at3 fun μ2 y2 f2 W2 _ => fin μ2 (W2 Z 0 κ') f2 fun x => absurd x y2⟩
theorem c_mRe_takeSimple (h : zW s ζ δ b Z Lb Ln μ μ t τ 0 κ o k) (t0 : t ≤ 0) (k0 : zTo (μ 2 4 = 0) (0 ≤ κ ∧ κ ≤ 25)) (hδ : μ 2 10 = δ) (hP : ∀ μ' k' A B, zW s ζ δ b (zZ Z A B) (A ++ Lb) (B ++ Ln) μ μ' t τ 0 κ o k' → zPo s μ μ' A B → P 0 μ') : jj_mRe_takeSimple X (d + 3) 0 (ab_la [2]) [] μ P := by
  have hs := h.s'
  have fin : ∀ (l : ab_l) (μ1 : ab_m) (k1 : Int) (A B : List Int), l 0 = 2 → zW s ζ δ b (zZ Z A B) (A ++ Lb) (B ++ Ln) μ μ1 (t + 1) τ 0 κ o k1 → zPo s μ μ1 A B → jj_mRe_takeSimple X (d + 3) 179 l [] μ1 P := by
    intro l μ1 k1 A B l0 W1 po
    exact bk_mRe_takeSimple_179 l0 (c_mRe_expect W1.base (by decide) fun μ2 k2 W2 _ _ => hP μ2 k2 A B ((W2.back W1.f).weak (by show t + 1 - 1 ≤ t; omega) (by have := wt1 30; omega) (Int.le_refl _)) ⟨po.a, po.b, fun y1 y2 => po.l (zF.fault W2 y1) y2⟩)
  have ok := fun (l : ab_l) (μ1 : ab_m) (k1 : Int) (l0 : l 0 = 2) (W1 : zW s ζ δ b Z Lb Ln μ μ1 (t + 1) τ 0 κ o k1) => fin l μ1 k1 [] [] l0 W1.nil zPo.nil
  refine bk_mRe_takeSimple_0 rfl ⟨by rw [h.i.sc]; exact h.i.hs, c_zadd h h.i.sc (by omega) (H' := 0) (κ' := κ + 1) (fun y => ?_) fun r1 μ1 W1 a1 => c_mRe_kind W1 fun r hr => ?_⟩
  · have := k0 (h.go y)
    exact zA_31 (Int.le_refl _) ⟨this.1, by omega⟩
  have f1 := a1.fr
  have mis : jj_mRe_misfit X (d + 2) 0 (ab_la [2]) [] μ1 (fun _ μ13 => jj_mRe_takeSimple X (d + 3) 179 (ab_la [2]) [] μ13 P) := c_mRe_misfit W1 fun μ2 z2 W2 _ => ok _ μ2 0 rfl (W2 _ _ _ _ _ _ _)
  have kz : μ1 2 4 = 0 → (0 ≤ κ + 1 ∧ κ + 1 ≤ 30) ∧ 0 ≤ κ := fun z => by
    have := k0 (by rw [← f1 2 4 (nes' hs)]; exact z); omega
  have z1 : r ≠ 48 → μ1 2 4 = 0 ∧ r = k := fun y => by
    rcases hr with hr | hr
    · exact absurd hr.2 y
    · exact ⟨hr.1, hr.2.1⟩
  refine ⟨⟨fun e => ?_, fun _ => mis, fun _ => mis, fun _ => mis, fun _ => mis, fun _ => mis, fun e => ?_, fun e => ?_, fun e => ?_, fun e => ?_, trivial⟩, fun _ => mis⟩
  · have z := z1 (by omega)
    exact c_leave W1 t0 (kz z.1) z.1 (by omega) (Or.inl rfl) fun μ2 k2 A B W2 po => fin _ μ2 k2 A B rfl W2 po
  · have z := z1 (by omega)
    exact c_leave W1 t0 (kz z.1) z.1 (by omega) (Or.inr rfl) fun μ2 k2 A B W2 po => fin _ μ2 k2 A B rfl W2 po
  · have z := z1 (by omega)
    refine c_mRe_go (w := 1) W1 (fun _ => zGo1 (by omega) (by omega)) fun μ2 W2 a2 f2 => c_takeExpr0 W2 (by omega) (fun _ => (kz z.1).1) (Int.le_refl _) fun μ3 k3 W3 F3 => ⟨by rw [W3.i.sc]; exact W3.i.hs, c_zadd W3 W3.i.sc (by omega) (H' := 0) (κ' := κ) (fun _ => zA_24 (Int.le_refl _) (kz z.1).1 (kz z.1).2) fun r4 μ4 W4 a4 => ok _ μ4 k3 rfl (W4.weak (by omega) (by omega) (Int.le_refl _))⟩
  · have z := z1 (by omega)
    refine bk_mRe_takeRead_0 rfl (c_mRe_go (w := 1) W1 (fun _ => zGo1 (by omega) (by omega)) fun μ2 W2 a2 f2 => c_mRe_kind W2 fun r2 hr2 => ⟨fun e2 => c_mRe_wanted W2 W2.at3 (Or.inl rfl) fun r3 μ3 W3 g3 f3 => c_mRe_go (w := 1) W3 (fun y => ?_) fun μ4 W4 a4 f4 => ⟨by rw [W4.i.sc]; exact W4.i.hs, c_zadd W4 W4.i.sc (by omega) (H' := 0) (κ' := κ) (fun y => zA_23 (Int.le_refl _) (kz z.1).1 (kz z.1).2 ?_) fun r5 μ5 W5 a5 => ok _ μ5 _ rfl (W5.weak (by omega) (by omega) (Int.le_refl _))⟩, fun _ => c_mRe_misfit W2 fun μ3 z3 W3 _ => ok _ μ3 0 rfl (W3 _ _ _ _ _ _ _)⟩)
    · have : μ1 4 (μ1 2 3 + 1) = 33 := by
        rcases hr2 with q | q
        · omega
        · omega
      rw [this]; decide
    · have g := g3 (by rw [← f4 2 5 (by decide)]; exact y)
      refine ⟨fun q => ⟨(g.n q).1, ?_⟩, fun q => absurd q (by decide), fun q => absurd q (by decide)⟩
      have na := (g.n q).2
      unfold zNa at *
      rw [f4 s 6 (by omega), f4 s 4 (by omega), f4 (s + 8) _ (by omega), f4 (s + 9) _ (by omega)]
      rcases na with na | na | ⟨j, na⟩
      · exact Or.inl na
      · exact Or.inr (Or.inl na)
      · exact Or.inr (Or.inr ⟨j, by rw [f4 (s + 1) _ (by omega), f4 (s + 2) _ (by omega)]; exact na⟩)
  · have z := z1 (by omega)
    have s115 : ∀ (l : ab_l) (μ2 : ab_m), l 0 = 2 → zW s ζ δ b Z Lb Ln μ μ2 (t + 1) τ 0 (κ + 1) o k → (zTo (μ2 2 5 = 0) (δ ≠ -1)) → jj_mRe_takeSimple X (d + 3) 115 l [] μ2 P := by
      intro l μ2 l0 W2 hd
      refine bk_mRe_takeSimple_115 l0 (c_mRe_go (w := 1) W2 (fun _ => zGo1 (by omega) (by omega)) fun μ3 W3 a3 f3 => c_takeExpr0 W3 (by omega) (fun _ => (kz z.1).1) (Int.le_refl _) fun μ4 k4 W4 F4 => ⟨by rw [W4.i.sc]; exact W4.i.hs, c_zadd W4 W4.i.sc (by omega) (H' := 0) (κ' := κ) (fun y => zA_33 (Int.le_refl _) (kz z.1).1 (kz z.1).2 ?_) fun r5 μ5 W5 a5 => ok _ μ5 _ l0 (W5.weak (by omega) (by omega) (Int.le_refl _))⟩)
      have d4 : μ4 2 10 = δ := by rw [W4.f.f 10 (by decide) (by decide) (by decide) (by decide)]; exact hδ
      have y3 : μ3 2 5 = 0 := by
        by_cases x : μ3 2 5 = 0
        · exact x
        · exact absurd y (F4.ft x)
      have hd := hd (by rw [← f3 2 5 (by decide)]; exact y3)
      obtain ⟨Γ, gg⟩ := W4.g y
      rcases gg.cd with c | c
      · exact absurd c hd
      · rw [d4, if_neg (by omega)]
        unfold rho
        rw [if_neg hd]
        exact ⟨rfl, by omega⟩
    refine ⟨fun y => s115 _ μ1 rfl W1 fun _ => ?_, fun y => c_mRe_soften W1 (by decide) W1.at3 fun μ2 y2 f2 W2 _ => s115 _ μ2 rfl (W2 Z 0 (κ + 1)) fun x => absurd x y2⟩
    rw [f1 2 10 (nes' hs), hδ] at y
    exact y
theorem c_mRe_takeNamed {nx : Int} (h : zW s ζ δ b Z Lb Ln μ μ t τ 0 κ o 33) (t0 : t ≤ 0) (z : μ 2 4 = 0) (k0 : 0 ≤ κ ∧ κ ≤ 25) (hn : zTo (nx = 31 ∨ nx = 27 ∨ nx = 23) (μ 4 (μ 2 3 + 1) = nx)) (hP : ∀ μ' k', zW s ζ δ b Z Lb Ln μ μ' t τ 0 κ o k' → P 0 μ') : jj_mRe_takeNamed X (d + 3) 0 (ab_la [2, nx]) [] μ P := by
  have hs := h.s'
  have fin : ∀ (l : ab_l) (μ1 : ab_m) (k1 : Int), l 0 = 2 → zW s ζ δ b Z Lb Ln μ μ1 (t + 1) τ 0 κ o k1 → jj_mRe_takeNamed X (d + 3) 161 l [] μ1 P := by
    intro l μ1 k1 l0 W1
    exact bk_mRe_takeNamed_161 l0 (c_mRe_expect W1 (by decide) fun μ2 k2 W2 _ _ => hP μ2 k2 (W2.weak (by show t + 1 - 1 ≤ t; omega) (by have := wt1 30; omega) (Int.le_refl _)))
  refine bk_mRe_takeNamed_0 rfl ⟨by rw [h.i.sc]; exact h.i.hs, c_zadd h h.i.sc (by omega) (H' := 0) (κ' := κ + 1) (fun y => zA_31 (Int.le_refl _) ⟨k0.1, by omega⟩) fun r1 μ1 W1 a1 => ?_⟩
  simp only [la1]
  have f1 := a1.fr
  have z1 : μ1 2 4 = 0 := by rw [f1 2 4 (nes' hs)]; exact z
  have k1 : 0 ≤ κ + 1 ∧ κ + 1 ≤ 30 := by omega
  have n1 : μ1 4 (μ1 2 3 + 1) = μ 4 (μ 2 3 + 1) := by rw [f1 2 3 (nes' hs), f1 4 _ (by omega)]
  refine ⟨fun x31 => ⟨fun x27 => ⟨fun x23 => ?_, fun x23 => ?_⟩, fun x27 => ?_⟩, fun x31 => ?_⟩
  · exact c_mRe_go (w := 1) W1 (fun _ => by decide) fun μ2 W2 a2 f2 => c_mRe_misfit W2 fun μ3 z3 W3 _ => fin _ μ3 0 rfl (W3 _ _ _ _ _ _ _)
  · refine c_takeExpr1 W1 (by omega) (fun _ => k1) (Int.le_refl _) (fun _ => ⟨rfl, by rw [n1, hn (Or.inr (Or.inr x23)), x23]⟩) fun μ2 k2 W2 F2 l2 => ?_
    have gq : μ2 2 5 = 0 → zG μ2 s ζ δ b Z (0 + 1) κ := fun y => by
      obtain ⟨Γ, gg⟩ := W2.g y
      have l2 := l2 (W2.go y)
      have := W1.i.n
      exact gg.q0 (by omega) (by rw [l2.2]; decide) k0.1
    have W2' := W2.g' gq
    refine ⟨by rw [W2.i.sc]; exact W2.i.hs, c_zadd W2' W2.i.sc (by omega) (H' := 0) (κ' := κ) (fun y => ?_) fun r3 μ3 W3 a3 => fin _ μ3 k2 rfl (W3.weak (by omega) (Int.le_refl _) (Int.le_refl _))⟩
    obtain ⟨Γ, gg⟩ := W2.g y
    have l2 := l2 (W2.go y)
    have y1 : μ1 2 5 = 0 := by
      by_cases x : μ1 2 5 = 0
      · exact x
      · exact absurd y (F2.ft x)
    obtain ⟨Γ1, g1⟩ := W1.g y1
    have := g1.z
    exact zA_35 (Int.le_refl _) ⟨k0.1, by omega⟩ ⟨by omega, l2.2⟩
  · refine c_mRe_wanted W1 W1.at3 (Or.inr rfl) fun r2 μ2 W2 g2 f2 => c_mRe_go (w := 1) W2.base (fun _ => by decide) fun μ3 W3 a3 f3 => ?_
    have n3 : μ2 4 (μ2 2 3 + 1) = 27 := by rw [f2 2 3 (by decide), f2 4 _ (by omega), n1, hn (Or.inr (Or.inl x27)), x27]
    rw [n3] at W3
    refine c_mRe_openOne W3 fun μ4 W4 a4 f4 => c_mRe_go (w := 1) W4 (fun _ => by decide) fun μ5 W5 a5 f5 => c_takeExpr0 W5 (by omega) (fun _ => k1) (Int.le_refl _) fun μ6 k6 W6 F6 => c_mRe_expect W6 (by decide) fun μ7 k7 W7 p7 a7 μ8 e8 => ?_
    have D := W7.down (fun y => by
      have := W7.i.ph y
      have := W7.op y
      have := h.i.ph z
      have := h.op z
      omega) e8
    refine c_mRe_expect D.1 (by decide) fun μ9 k9 W9 p9 a9 => c_takeExpr0 W9 (by have := wt1 28; have := wt1 31; omega) (fun _ => k1) (by decide) fun μ10 k10 W10 F10 => ⟨by rw [W10.i.sc]; exact W10.i.hs, c_zadd W10 W10.i.sc (by have := wt1 28; have := wt1 31; omega) (H' := 0) (κ' := κ) (fun y => zA_22 (H := 0) (Int.le_refl _) k1 k0.1 (W2.ng W10 (by omega) g2 y)) fun r11 μ11 W11 a11 => fin _ μ11 k10 rfl ((W11.back W2.f).weak (by have := wt1 28; have := wt1 31; omega) (by have := wt1 28; have := wt1 31; omega) (Int.le_refl _))⟩
  · refine c_mRe_wanted W1 W1.at3 (Or.inl rfl) fun r2 μ2 W2 g2 f2 => c_mRe_go (w := 1) W2.base (fun _ => by decide) fun μ3 W3 a3 f3 => ?_
    have n3 : μ2 4 (μ2 2 3 + 1) = 31 := by rw [f2 2 3 (by decide), f2 4 _ (by omega), n1, hn (Or.inl x31), x31]
    rw [n3] at W3
    exact c_mRe_go (w := 1) W3 (fun _ => by decide) fun μ4 W4 a4 f4 => c_takeExpr0 W4 (by omega) (fun _ => k1) (Int.le_refl _) fun μ5 k5 W5 F5 => ⟨by rw [W5.i.sc]; exact W5.i.hs, c_zadd W5 W5.i.sc (by omega) (H' := 0) (κ' := κ) (fun y => zA_29 (H := 0) (Int.le_refl _) k1 k0.1 (W2.ng W5 (by omega) g2 y)) fun r6 μ6 W6 a6 => fin _ μ6 k5 rfl ((W6.back W2.f).weak (by omega) (by omega) (Int.le_refl _))⟩
end K35

/-! THE CLASS, part k36: items, blocks, if -/
section K36
variable {X : jm_X} {d e : Nat} {P : Int → ab_m → Prop} {μ μ' μ0 μ1 μ2 : ab_m} {s t τ t' τ' ζ δ b b' H H' κ κ' o o' k k' n0 : Int} {Z Z' : Int → Prop} {Γ : scG} {Lb Ln Lb' Ln' A B A' B' : List Int}
/-- a statement below which e words may stand open -/
def zSt (X : jm_X) (e : Nat) : Prop := ∀ (d : Nat) (P : Int → ab_m → Prop) (μ : ab_m) (s t τ ζ δ b κ o k it : Int) (Z : Int → Prop) (Lb Ln : List Int), zW s ζ δ b Z Lb Ln μ μ t τ 0 κ o k → t ≤ 0 → μ 2 10 = δ → (zTo (μ 2 4 = 0) ((0 ≤ κ ∧ κ ≤ o) ∧ 25 ≤ o + (e : Int))) → (∀ μ' k' A B, zW s ζ δ b (zZ Z A B) (A ++ Lb) (B ++ Ln) μ μ' t τ 0 κ o k' → zPo s μ μ' A B → P 0 μ') → jj_mRe_statement X (3 * e + d + 4) 0 (ab_la [2, it]) [] μ P
theorem zPo.pre (h : zPo s μ1 μ' A B) (f : zF s μ μ1) : zPo s μ μ' A B := by
  have n := f.n
  refine ⟨fun x hx => by have := h.a x hx; omega, fun x hx => by have := h.b x hx; omega, fun y1 y2 => h.l y1 ?_⟩
  rw [f.f 11 (by decide) (by decide) (by decide) (by decide)]; exact y2
theorem zPo.post (h : zPo s μ μ1 A B) (y : μ' 2 5 = 0 → μ1 2 5 = 0) : zPo s μ μ' A B := ⟨h.a, h.b, fun y1 y2 => h.l (y y1) y2⟩
theorem zPo.trans (h : zPo s μ μ1 A B) (f : zF s μ μ1) (h' : zPo s μ1 μ' A' B') (y : μ' 2 5 = 0 → μ1 2 5 = 0) : zPo s μ μ' (A' ++ A) (B' ++ B) := by
  have h' := h'.pre f
  refine ⟨fun x hx => (List.mem_append.mp hx).elim (h'.a x) (h.a x), fun x hx => (List.mem_append.mp hx).elim (h'.b x) (h.b x), fun y1 y2 => ?_⟩
  have q := h.l (y y1) y2
  have q' := h'.l y1 y2
  rw [q.1, q.2, q'.1, q'.2]
  exact ⟨rfl, rfl⟩
theorem zW.join (h : zW s ζ δ b (zZ (zZ Z A B) A' B') (A' ++ (A ++ Lb)) (B' ++ (B ++ Ln)) μ0 μ t τ H κ o k) : zW s ζ δ b (zZ Z (A' ++ A) (B' ++ B)) ((A' ++ A) ++ Lb) ((B' ++ B) ++ Ln) μ0 μ t τ H κ o k := by
  rw [List.append_assoc, List.append_assoc]
  refine h.mono fun k q => ?_
  rcases q with (q | q | q) | q | q
  · exact Or.inl q
  · exact Or.inr (Or.inl (List.mem_append.mpr (Or.inr q)))
  · exact Or.inr (Or.inr (List.mem_append.mpr (Or.inr q)))
  · exact Or.inr (Or.inl (List.mem_append.mpr (Or.inl q)))
  · exact Or.inr (Or.inr (List.mem_append.mpr (Or.inl q)))
theorem zF.run (h : zW s ζ δ b Z Lb Ln μ0 μ t τ H κ o k) : μ 2 4 = 0 → μ0 2 4 = 0 := fun y => by
  by_cases x : μ0 2 4 = 0
  · exact x
  · exact absurd y (h.f.st x)
theorem c_takeItems (IH : zSt X e) (h : zW s ζ δ b Z Lb Ln μ μ t τ 0 κ o k) (t0 : t ≤ 0) (hδ : μ 2 10 = δ) (k0 : zTo (μ 2 4 = 0) ((0 ≤ κ ∧ κ ≤ o) ∧ 24 ≤ o + (e : Int))) (hP : ∀ μ' k' A B, zW s ζ δ b (zZ Z A B) (A ++ Lb) (B ++ Ln) μ μ' t τ 0 κ o k' → zPo s μ μ' A B → P 0 μ') : jj_mRe_takeItems X (3 * e + d + 5) 0 (ab_la [2]) [] μ P := by
  have s58 : ∀ (l : ab_l) (μ1 : ab_m) (k1 : Int) (A B : List Int), l 0 = 2 → zW s ζ δ b (zZ Z A B) (A ++ Lb) (B ++ Ln) μ μ1 t τ 0 κ (o + 1) k1 → zPo s μ μ1 A B → jj_mRe_takeItems X (3 * e + d + 5) 58 l [] μ1 P := by
    intro l μ1 k1 A B l0 W po
    refine bk_mRe_takeItems_58 l0 (c_mRe_expect W.base (by decide) fun μ2 k2 W2 _ a2 μ3 e3 => ?_)
    have D := W2.down (fun y => by have := k0 (zF.run W (a2 y).1); omega) e3
    exact hP μ3 k2 A B ((D.1.back W.f).weak (by have := wt1 26; omega) (by have := wt1 26; omega) (Int.le_refl _)) (po.post (zF.fault D.1))
  have s27 : ∀ (m : Nat) (l : ab_l) (μ1 : ab_m) (k1 lf : Int) (A B : List Int), l 0 = 2 → l 1 = lf → lf ≤ 3001 → lf.toNat = m → zW s ζ δ b (zZ Z A B) (A ++ Lb) (B ++ Ln) μ μ1 t τ 0 κ (o + 1) k1 → zPo s μ μ1 A B → jj_mRe_takeItems X (3 * e + d + 5) 27 l [] μ1 P := by
    intro m
    induction m with
    | zero =>
      intro l μ1 k1 lf A B l0 l1 lf1 em W po
      refine bk_mRe_takeItems_27 l0 ?_
      rw [l1]
      exact ⟨fun _ => s58 l μ1 k1 A B l0 W po, fun q => by omega⟩
    | succ m ih =>
      intro l μ1 k1 lf A B l0 l1 lf1 em W po
      obtain ⟨lf2, lf3, lf4⟩ := lfm lf1 em
      refine bk_mRe_takeItems_27 l0 ?_
      rw [l1, lf4]
      refine ⟨fun _ => s58 l μ1 k1 A B l0 W po, fun _ => ⟨fun _ => s58 l μ1 k1 A B l0 W po, fun z => c_mRe_kind W fun r hr => ⟨fun _ => s58 l μ1 k1 A B l0 W po, fun _ => IH d _ μ1 s t τ ζ δ b κ (o + 1) k1 1 _ _ _ W.base t0 ?_ (fun y => ?_) fun μ2 k2 A2 B2 W2 po2 => ?_⟩⟩⟩
      · rw [W.f.f 10 (by decide) (by decide) (by decide) (by decide)]; exact hδ
      · have := k0 (zF.run W y); omega
      · exact ih _ μ2 k2 (lf - 1) (A2 ++ A) (B2 ++ B) l0 rfl lf2 lf3 (W2.back W.f).join (po.trans W.f po2 (zF.fault W2))
  refine bk_mRe_takeItems_0 rfl (c_mRe_kind h fun r hr => ⟨fun q => c_mRe_expect h (by decide) fun μ1 k1 W1 _ a1 => ?_, fun q => c_mRe_openOne h fun μ1 W1 a1 f1 => c_mRe_expect W1 (by decide) fun μ2 k2 W2 _ a2 => ?_⟩)
  · have z : μ1 2 4 ≠ 0 := fun z => by
      have := a1 z
      rcases hr with hr | hr
      · exact hr.1 this.1
      · omega
    exact s27 _ _ μ1 0 (μ1 3 3) [] [] rfl rfl W1.i.ww.c.2 rfl (zW.nil (W1.stop z _ _ _ _ _ _ _)) zPo.nil
  · exact s27 _ _ μ2 k2 (μ2 3 3) [] [] rfl rfl W2.i.ww.c.2 rfl (W2.weak (by have := wt1 25; omega) (by have := wt1 25; omega) (Int.le_refl _)).nil zPo.nil
/-- other counts of names -/
theorem zW.cnt {μ3 : ab_m} (h : zW s ζ δ b Z Lb Ln μ0 μ t τ H κ o k) (e : ∀ c j, c ≠ 7 → μ' c j = μ c j) (n3 : 0 ≤ μ' 7 3 ∧ μ' 7 3 ≤ μ 7 3) (n4 : 0 ≤ μ' 7 4) (hb : zTo (μ 2 5 = 0) (b ≤ μ' 7 3)) (f : zF s μ3 μ') : zW s ζ δ b Z Lb Ln μ3 μ' t τ H κ o k := by
  have hs := h.s'
  have es : ∀ j, μ' s j = μ s j := fun j => e s j (by omega)
  have e2 : ∀ j, μ' 2 j = μ 2 j := fun j => e 2 j (by omega)
  obtain ⟨i1, i2, i3, i4, i5, i6, i7, i8, i9, i10, i11, i12⟩ := h.i
  refine ⟨⟨by rw [e2]; exact i1, i2, by rw [e 3 3 (by omega)]; exact i3.same fun c j q => e c j (by omega), by rw [e2, e 3 3 (by omega)]; exact i4, by rw [e2, e2, e2]; exact i5, by rw [es]; exact i6, by rw [e2, e2, e2, es, es, e 5 _ (by omega)]; exact i7, by rw [es, es, es, es]; exact i8, by omega, fun i x y q => ?_, by rw [e2]; exact i11, by rw [e2]; exact i12⟩, f, h.c.same (by rw [es]; exact Int.le_refl _) (fun y _ _ _ => ⟨e (s + 1) y (by omega), e (s + 2) y (by omega)⟩) (e2 12) (e2 13), fun q => ?_, by rw [e2, e2]; exact h.op, by rw [e2, e2, e 4 _ (by omega)]; exact h.kw⟩
  · rw [e 9 i (by omega)] at q
    rw [e 10 i (by omega)]
    exact i10 i x (by omega) q
  · rw [e2] at q
    obtain ⟨Γ, gg⟩ := h.g q
    have er : rho μ' s δ = rho μ s δ := by unfold rho; rw [es]
    have gb := gg.b
    have hb := hb q
    refine ⟨Γ, gg.grow (es 4) (by rw [es]; exact Int.le_refl _) (by rw [es]; exact Int.le_refl _) (by rw [es]; exact Int.le_refl _) er (fun c j _ _ => e c j (by omega)) (fun c j _ _ _ => e c j (by omega)) (by rw [es, e _ _ (by omega), e _ _ (by omega)]; exact gg.cd) (fun i x y => ?_) ⟨gb.1, hb⟩ fun x p r => by rw [e _ _ (by omega)]; rw [es] at r; exact gg.ro x p r⟩
    obtain ⟨n1, n2, n3'⟩ := gg.nm i x (by omega)
    refine ⟨?_, by rw [e 9 i (by omega), e 10 i (by omega), es]; exact n2, by rw [e 9 i (by omega), e 10 i (by omega), er]; exact n3'⟩
    rw [e 9 i (by omega), e 10 i (by omega)]
    unfold zNa
    rw [es, es, e (s + 8) _ (by omega), e (s + 9) _ (by omega)]
    intro u
    refine ⟨(n1 u).1, ?_⟩
    rcases (n1 u).2 with v | ⟨v, w⟩
    · exact Or.inl v
    · refine Or.inr ⟨v, ?_⟩
      rcases w with w | w | ⟨j, w⟩
      · exact Or.inl w
      · exact Or.inr (Or.inl w)
      · exact Or.inr (Or.inr ⟨j, by rw [e (s + 1) _ (by omega), e (s + 2) _ (by omega)]; exact w⟩)
theorem c_takeBlock (IH : zSt X e) (h : zW s ζ δ b Z Lb Ln μ μ t τ 0 κ o k) (t0 : t ≤ 0) (hδ : μ 2 10 = δ) (k0 : zTo (μ 2 4 = 0) ((0 ≤ κ ∧ κ ≤ o) ∧ 24 ≤ o + (e : Int))) (hP : ∀ μ' k' A B, zW s ζ δ b (zZ Z A B) (A ++ Lb) (B ++ Ln) μ μ' t τ 0 κ o k' → zPo s μ μ' A B → P 0 μ') : jj_mRe_takeBlock X (3 * e + d + 6) 0 (ab_la [2]) [] μ P := by
  have hs := h.s'
  have nc := h.i.nc
  refine bk_mRe_takeBlock_0 rfl fun μ1 e1 => ?_
  have g1 : ∀ c j, c ≠ 7 → μ1 c j = μ c j := fun c j q => by rw [e1, mu_ne q]
  have g13 : μ1 7 3 = μ 7 3 := by rw [e1, ab_mud, if_neg (by decide)]
  have g14 : μ1 7 4 = μ 7 3 := by rw [e1, ab_mud, if_pos ⟨rfl, rfl⟩]
  have W1 : zW s ζ δ b Z Lb Ln μ1 μ1 t τ 0 κ o k := h.cnt g1 (by omega) (by omega) (fun q => by obtain ⟨Γ, gg⟩ := h.g q; have := gg.b; omega) zF.refl
  refine c_takeItems (d := d) IH W1 t0 (by rw [g1 2 10 (by decide)]; exact hδ) (by rw [g1 2 4 (by decide)]; exact k0) fun μ2 k2 A B W2 po μ5 e5 μ6 e6 => ?_
  have g6 : ∀ c j, c ≠ 7 → μ6 c j = μ2 c j := fun c j q => by rw [e6, mu_ne q, e5, mu_ne q]
  have g63 : μ6 7 3 = μ 7 3 := by rw [e6, ab_mud, if_neg (by decide), e5, ab_mud, if_pos ⟨rfl, rfl⟩]
  have g64 : μ6 7 4 = μ 7 4 := by rw [e6, ab_mud, if_pos ⟨rfl, rfl⟩]
  have c2 := W2.f.c
  have F : zF s μ μ6 := by
    obtain ⟨a1, a2, a3, a4, a5, a6, a7, a8, a9, a10⟩ := W2.f
    have es : ∀ j, μ1 s j = μ s j := fun j => g1 s j (by omega)
    refine ⟨fun c j x y z => by rw [g6 c j (by omega), a1 c j x y z, g1 c j (by omega)], fun j x y z w => by rw [g6 2 j (by decide), a2 j x y z w, g1 2 j (by decide)], fun j x y => by rw [g6 s j (by omega), a3 j x y, es], fun k x y z => ?_, by rw [g6 s 4 (by omega), ← es]; exact a5, by rw [g6 2 3 (by decide), ← g1 2 3 (by decide)]; exact a6, by omega, g64, by rw [g6 2 5 (by decide), ← g1 2 5 (by decide)]; exact a9, by rw [g6 2 4 (by decide), ← g1 2 4 (by decide)]; exact a10⟩
    rw [g6 (s + 1) k (by omega), g6 (s + 2) k (by omega), ← g1 (s + 1) k (by omega), ← g1 (s + 2) k (by omega)]
    exact a4 k x (by rw [es]; exact y) z
  refine hP μ6 k2 A B (W2.cnt g6 (by omega) (by omega) (fun q => ?_) F) ⟨?_, ?_, ?_⟩
  · obtain ⟨Γ, gg⟩ := W1.g (zF.fault W2 q)
    have := gg.b; omega
  · rw [← g1 s 4 (by omega)]; exact po.a
  · rw [← g1 s 4 (by omega)]; exact po.b
  · rw [g6 2 5 (by decide), ← g1 2 11 (by decide)]; exact po.l
theorem zCc.nb' {x : Int} (h : zCc μ s Lb Ln) (e : x ≤ 3000 → μ (s + 1) x ≠ 25) : x ∉ Lb ∧ x ∉ Ln := ⟨fun q => by have := h.b.mem x q; exact e this.2.1 this.2.2.2, fun q => by have := h.n.mem x q; exact e this.2.1 this.2.2.2⟩
/-- where a step that is told later lies -/
theorem zAd.x {op arg r : Int} (a : zAd s μ μ' op arg r) (h : zW s ζ δ b Z Lb Ln μ0 μ t τ H κ o k) (t0 : t ≤ 0) : (μ0 s 4 ≤ r ∨ 3000 < r) ∧ (r ≤ 3000 → r = μ s 4 ∧ μ' s 4 = r + 1 ∧ μ' (s + 1) r = op) ∧ (μ 2 5 = 0 → ζ ≤ r ∧ r ≤ 3000) := by
  have fn := h.f.n
  have r0 := a.r0
  refine ⟨?_, fun q => ?_, fun q => ?_⟩
  · by_cases q : r ≤ 3000
    · have := (a.ad (by omega)).1; omega
    · omega
  · obtain ⟨er, S⟩ := a.ad (by omega)
    exact ⟨er, by rw [S.n, er], by rw [er]; exact S.o⟩
  · have := h.i.ph (h.go q)
    have pl := h.i.pl
    obtain ⟨Γ, gg⟩ := h.g q
    have z := gg.z
    have := (a.ad (by omega)).1
    omega
theorem c_takeIf (IH : zSt X e) (h : zW s ζ δ b Z Lb Ln μ μ t τ 0 κ o 40) (t0 : t ≤ 0) (hδ : μ 2 10 = δ) (z : μ 2 4 = 0) (k0 : (0 ≤ κ ∧ κ ≤ o) ∧ 24 ≤ o + (e : Int)) (hP : ∀ μ' k' A B, zW s ζ δ b (zZ Z A B) (A ++ Lb) (B ++ Ln) μ μ' t τ 0 κ o k' → zPo s μ μ' A B → P 0 μ') : jj_mRe_takeIf X (3 * e + d + 6) 0 (ab_la [2]) [] μ P := by
  have hs := h.s'
  have op0 := h.op z
  have ph0 := h.i.ph z
  have k1 : 0 ≤ κ + 1 ∧ κ + 1 ≤ 30 := by omega
  refine bk_mRe_takeIf_0 rfl ⟨by rw [h.i.sc]; exact h.i.hs, c_zadd h h.i.sc (by omega) (H' := 0) (κ' := κ + 1) (fun y => zA_31 (Int.le_refl _) (by omega)) fun r1 μ1 W1 a1 => c_mRe_openOne W1 fun μ2 W2 a2 f2 => c_mRe_go (w := 1) W2 (fun _ => by decide) fun μ3 W3 a3 f3 => c_mRe_openRound W3 fun μ4 k4 W4 p4 a4 => c_takeExpr0 W4 (by omega) (fun _ => k1) (Int.le_refl _) fun μ5 k5 W5 F5 => c_mRe_closeRound W5 (fun _ => by omega) fun μ6 k6 W6 p6 a6 => ⟨by rw [W6.i.sc]; exact W6.i.hs, c_zadd W6 W6.i.sc (by omega) (H' := 0) (κ' := κ) (fun y => zA_26 (H := 0) (Int.le_refl _) k1 k0.1.1 (by have := W6.i.n; omega)) fun r7 μ7 W7 a7 => ?_⟩⟩
  have n7 := a7.x W6 (by omega)
  have r70 := a7.r0
  refine IH (d + 1) _ μ7 s _ _ ζ δ b κ (o + 1) _ 0 _ _ _ W7.base (by omega) (by rw [W7.f.f 10 (by decide) (by decide) (by decide) (by decide)]; exact hδ) (fun _ => by omega) fun μ8 k8 A B W8 po => c_mRe_kind W8 fun r hr => ⟨fun q => ?_, fun q => ?_⟩
  · rw [W8.i.sc]
    refine ⟨W8.i.hs, by omega, fun μ9 e9 μ10 e10 => ?_⟩
    have ni := W8.c.nb' (x := r7) fun y => by
      have n7 := n7.2.1 y
      rw [(W8.f.p r7 r70.1 (by omega) y).1, n7.2.2]; decide
    have W9 := (W8.back W7.f).setArg e9 n7.1 ni.1 ni.2 fun y => by
      have y7 := zF.fault W8 y
      have x := n7.2.2 (by rw [← a7.fr 2 5 (nes' hs)]; exact y7)
      have x2 := n7.2.1 x.2
      have fn := W8.f.n
      obtain ⟨Γ, gg⟩ := W8.g y
      exact ⟨⟨x.1, by omega, Or.inl (by rw [(W8.f.p r7 r70.1 (by omega) x.2).1, x2.2.2]; decide)⟩, gg.z.2.1, Int.le_refl _⟩
    have D := W9.down (fun _ => by omega) e10
    refine hP μ10 k8 A B (D.1.weak (by omega) (by omega) (Int.le_refl _)) ((po.pre W7.f).post fun y => ?_)
    rw [D.2 2 5 (by decide), e9, mu_ne (by omega)] at y; exact y
  · refine c_mRe_openOne W8.base fun μ9 W9 a9 f9 => c_mRe_go (w := 1) W9 (fun y => ?_) fun μ10 W10 a10 f10 => ⟨by rw [W10.i.sc]; exact W10.i.hs, c_zadd W10 W10.i.sc (by omega) (H' := 0) (κ' := κ) (fun y => zA_25 (Int.le_refl _) (by omega) k0.1.1 (by have := W10.i.n; omega) (Or.inl (Int.le_refl _))) fun r11 μ11 W11 a11 => ?_⟩
    · have y8 := (a9 y).1
      rcases hr with hr | hr
      · exact absurd y8 hr.1
      · rw [← hr.2.1, q]; decide
    rw [W11.i.sc]
    refine ⟨W11.i.hs, by omega, fun μ12 e12 => ?_⟩
    have n11 := a11.x W10 (by omega)
    have r110 := a11.r0
    have fn7 := W7.f.n
    have fn8 := W8.f.n
    have fn11 := W11.f.n
    have at7 : r7 ≤ 3000 → r7 < μ8 s 4 ∧ μ11 (s + 1) r7 = 26 := fun y => by
      have n7 := n7.2.1 y
      refine ⟨by omega, ?_⟩
      rw [← n7.2.2, ← (W8.f.p r7 r70.1 (by omega) y).1, (W11.f.p r7 r70.1 (by omega) y).1]
    have ni := W11.c.nb' (x := r7) fun y => by rw [(at7 y).2]; decide
    have F8 := W7.f.trans W8.f
    have W12 := (W11.back F8).setArg e12 n7.1 ni.1 ni.2 fun y => by
      have y8 := zF.fault W11 y
      have y7 := zF.fault W8 y8
      have x := n7.2.2 (by rw [← a7.fr 2 5 (nes' hs)]; exact y7)
      have x2 := at7 x.2
      obtain ⟨Γ, gg⟩ := W11.g y
      exact ⟨⟨x.1, by omega, Or.inl (by rw [x2.2]; decide)⟩, gg.z.2.1, Int.le_refl _⟩
    have g12 : ∀ c j, c ≠ s + 2 → μ12 c j = μ11 c j := fun c j q => by rw [e12, mu_ne q]
    have s12 := g12 s 4 (by omega)
    refine IH (d + 1) _ μ12 s _ _ ζ δ b κ (o + 1 + 1) _ 0 _ _ _ W12.base (by omega) (by rw [W12.f.f 10 (by decide) (by decide) (by decide) (by decide)]; exact hδ) (fun _ => by omega) fun μ13 k13 A2 B2 W13 po2 => ?_
    rw [W13.i.sc]
    refine ⟨W13.i.hs, by omega, fun μ14 e14 μ15 e15 μ16 e16 => ?_⟩
    have nb : r11 ∉ A2 ++ (A ++ Lb) := fun hx => by
      have m := W13.c.b.mem r11 hx
      have n := n11.2.1 m.2.1
      rcases List.mem_append.mp hx with w | w
      · have := po2.a r11 w; omega
      · have := W10.c.b.mem r11 w; omega
    have nn : r11 ∉ B2 ++ (B ++ Ln) := fun hx => by
      have m := W13.c.n.mem r11 hx
      have n := n11.2.1 m.2.1
      rcases List.mem_append.mp hx with w | w
      · have := po2.b r11 w; omega
      · have := W10.c.n.mem r11 w; omega
    have x11 : μ s 4 ≤ r11 ∨ 3000 < r11 := by have := n11.1; omega
    have W14 := (W13.back W12.f).setArg e14 x11 nb nn fun y => by
      have y12 := zF.fault W13 y
      have y10 : μ10 2 5 = 0 := by rw [g12 2 5 (by omega), a11.fr 2 5 (nes' hs)] at y12; exact y12
      have x := n11.2.2 y10
      have x2 := n11.2.1 x.2
      have fn := W13.f.n
      obtain ⟨Γ, gg⟩ := W13.g y
      exact ⟨⟨x.1, by omega, Or.inl (by rw [(W13.f.p r11 r110.1 (by omega) x.2).1, g12 _ _ (by omega), x2.2.2]; decide)⟩, gg.z.2.1, Int.le_refl _⟩
    have D1 := W14.down (fun _ => by omega) e15
    have D2 := D1.1.down (fun _ => by omega) e16
    refine hP μ16 k13 (A2 ++ A) (B2 ++ B) (D2.1.join.weak (by omega) (by omega) (Int.le_refl _)) ((((po.pre W7.f).post fun y => ?_).trans W12.f po2 (zF.fault W13)).post fun y => ?_)
    · exact zF.fault W11 (by rw [← g12 2 5 (by omega)]; exact y)
    · rw [D2.2 2 5 (by decide), D1.2 2 5 (by decide), e14, mu_ne (by omega)] at y; exact y
end K36

/-! THE CLASS, part k37: while, do, statements -/
section K37
variable {X : jm_X} {d e : Nat} {P : Int → ab_m → Prop} {μ μ' μ0 μ1 μ2 : ab_m} {s t τ t' τ' ζ δ b b' H H' κ κ' o o' k k' n0 : Int} {Z Z' : Int → Prop} {Γ : scG} {Lb Ln Lb' Ln' A B A' B' : List Int}
def zLf (c j : Int) : Prop := c = 2 ∧ 11 ≤ j ∧ j ≤ 13
theorem zF.sw {ν ν' : ab_m} (f : zF s μ μ') (hs : s = 16 ∨ s = 26) (e0 : ∀ c j, ¬ zLf c j → ν c j = μ c j) (e1 : ∀ c j, ¬ zLf c j → ν' c j = μ' c j) (v : ν' 2 11 = ν 2 11) : zF s ν ν' := by
  unfold zLf at e0 e1
  obtain ⟨a1, a2, a3, a4, a5, a6, a7, a8, a9, a10⟩ := f
  refine ⟨fun c j x y z => by rw [e1 c j (by omega), e0 c j (by omega)]; exact a1 c j x y z, fun j x y z w => ?_, fun j x y => by rw [e1 s j (by omega), e0 s j (by omega)]; exact a3 j x y, fun k x y z => ?_, by rw [e1 s 4 (by omega), e0 s 4 (by omega)]; exact a5, by rw [e1 2 3 (by omega), e0 2 3 (by omega)]; exact a6, by rw [e1 7 3 (by omega), e0 7 3 (by omega)]; exact a7, by rw [e1 7 4 (by omega), e0 7 4 (by omega)]; exact a8, by rw [e1 2 5 (by omega), e0 2 5 (by omega)]; exact a9, by rw [e1 2 4 (by omega), e0 2 4 (by omega)]; exact a10⟩
  · by_cases q : j = 11
    · subst q; exact v
    · rw [e1 2 j (by omega), e0 2 j (by omega)]; exact a2 j x y z w
  · rw [e1 (s + 1) k (by omega), e1 (s + 2) k (by omega), e0 (s + 1) k (by omega), e0 (s + 2) k (by omega)]
    exact a4 k x (by rw [← e0 s 4 (by omega)]; exact y) z
/-- a loop's body begins -/
theorem zW.loop (h : zW s ζ δ b Z Lb Ln μ0 μ t τ H κ o k) (e : ∀ c j, ¬ zLf c j → μ' c j = μ c j) (v : μ' 2 11 = 1 ∧ μ' 2 12 = -1 ∧ μ' 2 13 = -1) : zW s ζ δ b Z [] [] μ' μ' t τ H κ o k := by
  have hs := h.s'
  unfold zLf at e
  have e2 : ∀ c j, c ≠ 2 → μ' c j = μ c j := fun c j q => e c j (by omega)
  have ef : ∀ j, ¬ (11 ≤ j ∧ j ≤ 13) → μ' 2 j = μ 2 j := fun j q => e 2 j (by omega)
  refine ⟨h.i.upd hs (fun c j q _ => e2 c j q) ef (by omega), zF.refl, ⟨v.2.1, v.2.2, fun x hx => by simp at hx⟩, fun q => ?_, by rw [ef 4 (by decide), ef 8 (by decide)]; exact h.op, by rw [ef 4 (by decide), ef 3 (by decide), e2 4 _ (by decide)]; exact h.kw⟩
  rw [ef 5 (by decide)] at q
  obtain ⟨Γ, gg⟩ := h.g q
  exact ⟨Γ, gg.same (fun j _ _ => e2 s j (by omega)) (fun c j x y => e2 c j (by omega)) (e2 7 3 (by decide)) fun c j x => e2 c j (by omega)⟩
/-- a loop's end: its jumps get their aims, the outer loop's wait on -/
theorem zW.lands {μb μ15 μ16 μ17 μ20 : ab_m} {test : Int} (h : zCc μ s Lb Ln) (W : zW s ζ δ b (zZ Z A B) A B μb μ15 t τ H κ o k) (hb : ∀ c j, ¬ zLf c j → μb c j = μ c j) (mA : ∀ x ∈ A, μ s 4 ≤ x) (mB : ∀ x ∈ B, μ s 4 ≤ x) (mz : μ15 2 5 = 0 → ζ ≤ μ s 4 ∧ ζ ≤ test ∧ test ≤ μ15 s 4) (a1 : ∀ k ∈ A, μ16 (s + 2) k = μ15 s 4) (a2 : ∀ k, k ∉ A → μ16 (s + 2) k = μ15 (s + 2) k) (a3 : ∀ c j, c ≠ s + 2 → μ16 c j = μ15 c j) (b1 : ∀ k ∈ B, μ17 (s + 2) k = test) (b2 : ∀ k, k ∉ B → μ17 (s + 2) k = μ16 (s + 2) k) (b3 : ∀ c j, c ≠ s + 2 → μ17 c j = μ16 c j) (r : ∀ c j, ¬ zLf c j → μ20 c j = μ17 c j) (r11 : μ20 2 11 = μ 2 11) (r12 : μ20 2 12 = μ 2 12) (r13 : μ20 2 13 = μ 2 13) (bo : 0 ≤ μ 2 11 ∧ μ 2 11 ≤ 1) : zW s ζ δ b Z Lb Ln μ μ20 t τ H κ o k := by
  have hs := W.s'
  have g7 : ∀ c j, c ≠ s + 2 → μ17 c j = μ15 c j := fun c j q => by rw [b3 c j q, a3 c j q]
  have r' := r
  have hb' := hb
  unfold zLf at r' hb'
  have g : ∀ c j, c ≠ 2 → c ≠ s + 2 → μ20 c j = μ15 c j := fun c j q1 q2 => by rw [r' c j (by omega), g7 c j q2]
  have g2 : ∀ j, ¬ (11 ≤ j ∧ j ≤ 13) → μ20 2 j = μ15 2 j := fun j q => by rw [r' 2 j (by omega), g7 2 j (by omega)]
  have F : zF s μ μ20 := by
    have F1 : zF s μb μ17 := by
      obtain ⟨a1, a2', a3', a4, a5, a6, a7, a8, a9, a10⟩ := W.f
      have sb := hb' s 4 (by omega)
      refine ⟨fun c j x y z => by rw [g7 c j (by omega)]; exact a1 c j x y z, fun j x y z w => by rw [g7 2 j (by omega)]; exact a2' j x y z w, fun j x y => by rw [g7 s j (by omega)]; exact a3' j x y, fun k x y z => ?_, by rw [g7 s 4 (by omega)]; exact a5, by rw [g7 2 3 (by omega)]; exact a6, by rw [g7 7 3 (by omega)]; exact a7, by rw [g7 7 4 (by omega)]; exact a8, by rw [g7 2 5 (by omega)]; exact a9, by rw [g7 2 4 (by omega)]; exact a10⟩
      rw [g7 (s + 1) k (by omega), b2 k fun hx => by have := mB k hx; omega, a2 k fun hx => by have := mA k hx; omega]
      exact a4 k x y z
    exact F1.sw hs (fun c j q => (hb c j q).symm) r r11
  refine ⟨W.i.upd hs g g2 (by rw [r11]; exact bo), F, h.same F.n (fun y x z w => F.p y x z w) r12 r13, fun q => ?_, by rw [g2 4 (by decide), g2 8 (by decide)]; exact W.op, by rw [g2 4 (by decide), g2 3 (by decide), g 4 _ (by decide) (by omega)]; exact W.kw⟩
  rw [g2 5 (by decide)] at q
  have mz := mz q
  obtain ⟨Γ, gg⟩ := W.g q
  have s16 : ∀ j, μ16 s j = μ15 s j := fun j => a3 s j (by omega)
  have gg1 : zGG μ16 s Γ ζ δ b (fun k => Z k ∨ k ∈ B) H κ := gg.args (D := fun k => k ∈ A) (v := μ15 s 4) (fun k hk => by
    have m := W.c.b.mem k hk
    have := mA k hk
    exact ⟨by omega, m.2.2.1, Or.inl (by rw [m.2.2.2]; decide)⟩) ⟨gg.z.2.1, Int.le_refl _⟩ a1 a2 (fun c j x _ _ => a3 c j x) (a3 7 3 (by omega)) (fun c j x => a3 c j (by omega)) fun k w => by
      rcases w with w | w | w
      · exact Or.inr (Or.inl w)
      · exact Or.inl w
      · exact Or.inr (Or.inr w)
  have gg2 : zGG μ17 s Γ ζ δ b Z H κ := gg1.args (D := fun k => k ∈ B) (v := test) (fun k hk => by
    have m := W.c.n.mem k hk
    have := mB k hk
    exact ⟨by omega, by rw [s16]; exact m.2.2.1, Or.inl (by rw [a3 _ _ (by omega), m.2.2.2]; decide)⟩) (by rw [s16]; exact mz.2) b1 b2 (fun c j x _ _ => b3 c j x) (b3 7 3 (by omega)) (fun c j x => b3 c j (by omega)) fun k w => by
      rcases w with w | w
      · exact Or.inr w
      · exact Or.inl w
  exact ⟨Γ, gg2.same (fun j _ _ => r' s j (by omega)) (fun c j x y => r' c j (by omega)) (r' 7 3 (by omega)) fun c j x => r' c j (by omega)⟩
theorem mu3 {a c e : Int} (e1 : μ1 = ab_mu μ 2 11 a) (e2 : μ2 = ab_mu μ1 2 12 c) (e3 : μ' = ab_mu μ2 2 13 e) : (∀ c j, ¬ zLf c j → μ' c j = μ c j) ∧ μ' 2 11 = a ∧ μ' 2 12 = c ∧ μ' 2 13 = e := by
  refine ⟨fun c j q => ?_, ?_, ?_, ?_⟩
  · unfold zLf at q
    rw [e3, ab_mud, if_neg (by omega), e2, ab_mud, if_neg (by omega), e1, ab_mud, if_neg (by omega)]
  · rw [e3, ab_mud, if_neg (by decide), e2, ab_mud, if_neg (by decide), e1, ab_mud, if_pos ⟨rfl, rfl⟩]
  · rw [e3, ab_mud, if_neg (by decide), e2, ab_mud, if_pos ⟨rfl, rfl⟩]
  · rw [e3, ab_mud, if_pos ⟨rfl, rfl⟩]
/-- both aims, and the outer loop's fields again -/
theorem c_lands {μb μ15 : ab_m} {test : Int} (h : zCc μ s Lb Ln) (W : zW s ζ δ b (zZ Z A B) A B μb μ15 t τ H κ o k) (hb : ∀ c j, ¬ zLf c j → μb c j = μ c j) (mA : ∀ x ∈ A, μ s 4 ≤ x) (mB : ∀ x ∈ B, μ s 4 ≤ x) (mz : μ15 2 5 = 0 → ζ ≤ μ s 4 ∧ ζ ≤ test ∧ test ≤ μ15 s 4) (bo : 0 ≤ μ 2 11 ∧ μ 2 11 ≤ 1) (hP : ∀ μ', zW s ζ δ b Z Lb Ln μ μ' t τ H κ o k → P 0 μ') : ab_is 10 (μ15 2 2) ∧ jj_mSc_aim X d 0 (ab_la [μ15 2 2, μ15 2 12, μ15 (μ15 2 2) 4]) [] μ15 (fun r43 μ42 => ab_is 10 (μ42 2 2) ∧ jj_mSc_aim X d 0 (ab_la [μ42 2 2, μ42 2 13, test]) [] μ42 (fun r46 μ45 => (0 ≤ μ 2 11 ∧ μ 2 11 ≤ 1) ∧ ∀ μ49, μ49 = ab_mu μ45 2 11 (μ 2 11) → ∀ μ50, μ50 = ab_mu μ49 2 12 (μ 2 12) → ∀ μ51, μ51 = ab_mu μ50 2 13 (μ 2 13) → P 0 μ51)) := by
  have hs := W.s'
  rw [W.i.sc]
  refine ⟨W.i.hs, c_mSc_aim W.i.hs rfl W.c.b fun μ16 a1 a2 a3 => ?_⟩
  rw [a3 2 2 (by omega), W.i.sc]
  refine ⟨W.i.hs, c_mSc_aim W.i.hs rfl (L := B) ?_ fun μ17 b1 b2 b3 => ⟨bo, fun μ18 e18 μ19 e19 μ20 e20 => ?_⟩⟩
  · rw [a3 2 13 (by omega)]
    exact W.c.n.same (by rw [a3 s 4 (by omega)]; exact Int.le_refl _) fun y hy => ⟨a3 _ y (by omega), a2 y fun hx => W.c.d y hx hy⟩
  · have q := mu3 e18 e19 e20
    exact hP μ20 (zW.lands h W hb mA mB mz a1 a2 a3 b1 b2 b3 q.1 q.2.1 q.2.2.1 q.2.2.2 bo)
theorem c_takeWhile (IH : zSt X e) (h : zW s ζ δ b Z Lb Ln μ μ t τ 0 κ o 47) (t0 : t ≤ 0) (hδ : μ 2 10 = δ) (z : μ 2 4 = 0) (k0 : (0 ≤ κ ∧ κ ≤ o) ∧ 24 ≤ o + (e : Int)) (hP : ∀ μ' k', zW s ζ δ b Z Lb Ln μ μ' t τ 0 κ o k' → P 0 μ') : jj_mRe_takeWhile X (3 * e + d + 6) 0 (ab_la [2]) [] μ P := by
  have hs := h.s'
  have op0 := h.op z
  have ph0 := h.i.ph z
  have k1 : 0 ≤ κ + 1 + 1 ∧ κ + 1 + 1 ≤ 30 := by omega
  refine bk_mRe_takeWhile_0 rfl ⟨by rw [h.i.sc]; exact h.i.hs, c_zadd h h.i.sc (by omega) (H' := 0) (κ' := κ + 1) (fun y => zA_31 (Int.le_refl _) (by omega)) fun r1 μ1 W1 a1 => c_mRe_openOne W1 fun μ2 W2 a2 f2 => c_mRe_go (w := 2) W2 (fun _ => by decide) fun μ3 W3 a3 f3 => ⟨by rw [W3.i.sc]; exact W3.i.hs, c_zadd W3.base W3.i.sc (by omega) (H' := 0) (κ' := κ + 1 + 1) (fun y => zA_31 (Int.le_refl _) (by omega)) fun r4 μ4 W4 a4 => c_mRe_openRound W4 fun μ5 k5 W5 p5 a5 => c_takeExpr0 W5 (by omega) (fun _ => k1) (Int.le_refl _) fun μ6 k6 W6 F6 => c_mRe_closeRound W6 (fun _ => by omega) fun μ7 k7 W7 p7 a7 => ⟨by rw [W7.i.sc]; exact W7.i.hs, c_zadd W7 W7.i.sc (by omega) (H' := 0) (κ' := κ) (fun y => zA_26 (H := 0) (Int.le_refl _) k1 k0.1.1 (by have := W7.i.n; omega)) fun r8 μ8 W8 a8 μ9 e9 μ10 e10 μ11 e11 => ?_⟩⟩⟩
  have n4 := a4.x (h := W3) (by omega)
  have r40 := a4.r0
  have n8 := a8.x W7 (by omega)
  have r80 := a8.r0
  have m3 := mu3 e9 e10 e11
  have W11 := W8.loop m3.1 m3.2
  have m3' := m3.1
  unfold zLf at m3'
  have s11 := m3' s 4 (by omega)
  have F8 := W3.f.trans W8.f
  have fn3 := W3.f.n
  have fn8 := W8.f.n
  obtain ⟨μb, hbd⟩ : ∃ μb : ab_m, μb = ab_mu (ab_mu (ab_mu μ 2 11 1) 2 12 (-1)) 2 13 (-1) := ⟨_, rfl⟩
  have mb := mu3 (μ := μ) rfl rfl hbd
  have Fb : zF s μb μ11 := F8.sw hs mb.1 m3.1 (by rw [mb.2.1, m3.2.1])
  have sb : μb s 4 = μ s 4 := mb.1 s 4 (by unfold zLf; omega)
  refine IH (d + 1) _ μ11 s _ _ ζ δ b κ (o + 1) _ 0 _ _ _ W11 (by omega) (by rw [m3' 2 10 (by omega), F8.f 10 (by decide) (by decide) (by decide) (by decide)]; exact hδ) (fun _ => by omega) fun μ12 k12 A B W12 po μ13 e13 => ?_
  rw [List.append_nil, List.append_nil] at W12
  have fn12 := W12.f.n
  have D := W12.down (fun _ => by omega) e13
  have s13 := D.2 s 4 (by omega)
  refine ⟨by rw [D.1.i.sc]; exact D.1.i.hs, c_zadd D.1 D.1.i.sc (by omega) (H' := 0) (κ' := κ) (fun y => ?_) fun r14 μ14 W14 a14 => ?_⟩
  · have y8 : μ8 2 5 = 0 := by rw [← m3' 2 5 (by omega)]; exact zF.fault D.1 y
    have y3 := zF.fault W8 y8
    have x := n4.2.1 (n4.2.2 y3).2
    exact zA_25 (Int.le_refl _) (by omega) k0.1.1 (by omega) (Or.inl (by omega))
  rw [W14.i.sc]
  refine ⟨W14.i.hs, by omega, fun μ15 e15 => ?_⟩
  have fn14 := W14.f.n
  have at8 : r8 ≤ 3000 → r8 < μ14 s 4 ∧ μ14 (s + 1) r8 = 26 := fun y => by
    have n8 := n8.2.1 y
    refine ⟨by omega, ?_⟩
    rw [← n8.2.2, ← m3' (s + 1) r8 (by omega), (W14.f.p r8 r80.1 (by omega) y).1]
  have ni := W14.c.nb' (x := r8) fun y => by rw [(at8 y).2]; decide
  have x8 : μb s 4 ≤ r8 ∨ 3000 < r8 := by have := n8.1; omega
  have fb : μ14 2 5 = 0 → μ8 2 5 = 0 := fun y => by rw [← m3' 2 5 (by omega)]; exact zF.fault W14 y
  have W15 := (W14.back Fb).setArg e15 x8 ni.1 ni.2 fun y => by
    have y8 := fb y
    have x := n8.2.2 (by rw [← a8.fr 2 5 (nes' hs)]; exact y8)
    have x2 := at8 x.2
    obtain ⟨Γ, gg⟩ := W14.g y
    exact ⟨⟨x.1, x2.1, Or.inl (by rw [x2.2]; decide)⟩, gg.z.2.1, Int.le_refl _⟩
  have g15 : ∀ c j, c ≠ s + 2 → μ15 c j = μ14 c j := fun c j q => by rw [e15, mu_ne q]
  have s15 := g15 s 4 (by omega)
  refine c_lands (d := 3 * e + d + 5) h.c W15 mb.1 (fun x hx => by have := po.a x hx; omega) (fun x hx => by have := po.b x hx; omega) (fun y => ?_) h.i.bo fun μ' W' => hP μ' _ (W'.weak (by omega) (by omega) (Int.le_refl _))
  rw [g15 2 5 (by omega)] at y
  have y3 := zF.fault W8 (fb y)
  have x := n4.2.2 y3
  have x2 := n4.2.1 x.2
  obtain ⟨Γ, gg⟩ := h.g (zF.fault W3 y3)
  have := gg.z
  exact ⟨by omega, by omega, by omega⟩
theorem c_takeDo (IH : zSt X e) (h : zW s ζ δ b Z Lb Ln μ μ t τ 0 κ o 38) (t0 : t ≤ 0) (hδ : μ 2 10 = δ) (z : μ 2 4 = 0) (k0 : (0 ≤ κ ∧ κ ≤ o) ∧ 24 ≤ o + (e : Int)) (hP : ∀ μ' k', zW s ζ δ b Z Lb Ln μ μ' t τ 0 κ o k' → P 0 μ') : jj_mRe_takeDo X (3 * e + d + 6) 0 (ab_la [2]) [] μ P := by
  have hs := h.s'
  have op0 := h.op z
  have ph0 := h.i.ph z
  have k1 : 0 ≤ κ + 1 + 1 ∧ κ + 1 + 1 ≤ 30 := by omega
  refine bk_mRe_takeDo_0 rfl ⟨by rw [h.i.sc]; exact h.i.hs, c_zadd h h.i.sc (by omega) (H' := 0) (κ' := κ + 1) (fun y => zA_31 (Int.le_refl _) (by omega)) fun r1 μ1 W1 a1 => c_mRe_openOne W1 fun μ2 W2 a2 f2 => c_mRe_go (w := 1) W2 (fun _ => by decide) fun μ3 W3 a3 f3 => ⟨by rw [W3.i.sc]; exact W3.i.hs, fun μ4 e4 μ5 e5 μ6 e6 => ?_⟩⟩
  have m3 := mu3 e4 e5 e6
  have W6 := W3.loop m3.1 m3.2
  have m3' := m3.1
  unfold zLf at m3'
  have s6 := m3' s 4 (by omega)
  have fn3 := W3.f.n
  obtain ⟨μb, hbd⟩ : ∃ μb : ab_m, μb = ab_mu (ab_mu (ab_mu μ 2 11 1) 2 12 (-1)) 2 13 (-1) := ⟨_, rfl⟩
  have mb := mu3 (μ := μ) rfl rfl hbd
  have Fb : zF s μb μ6 := W3.f.sw hs mb.1 m3.1 (by rw [mb.2.1, m3.2.1])
  have i3 := W3.i.n
  rw [W3.i.sc]
  refine IH (d + 1) _ μ6 s _ _ ζ δ b (κ + 1) (o + 1) _ 0 _ _ _ W6 (by omega) (by rw [m3' 2 10 (by omega), W3.f.f 10 (by decide) (by decide) (by decide) (by decide)]; exact hδ) (fun _ => by omega) fun μ7 k7 A B W7 po μ8 e8 => ?_
  rw [List.append_nil, List.append_nil] at W7
  have D := W7.down (fun _ => by omega) e8
  have w47 := wt1 47
  have w30 := wt1 30
  refine c_mRe_expect D.1 (by decide) fun μ9 k9 W9 p9 a9 => ⟨by rw [W9.i.sc]; exact W9.i.hs, c_zadd W9.base W9.i.sc (by omega) (H' := 0) (κ' := κ + 1 + 1) (fun y => zA_31 (Int.le_refl _) (by omega)) fun r10 μ10 W10 a10 => c_mRe_openRound W10 fun μ11 k11 W11 p11 a11 => c_takeExpr0 W11 (by omega) (fun _ => k1) (Int.le_refl _) fun μ12 k12 W12 F12 => c_mRe_closeRound W12 (fun _ => by omega) fun μ13 k13 W13 p13 a13 => ⟨by rw [W13.i.sc]; exact W13.i.hs, c_zadd W13 W13.i.sc (by omega) (H' := 0) (κ' := κ) (fun y => ?_) fun r14 μ14 W14 a14 => c_mRe_expect W14 (by decide) fun μ15 k15 W15 p15 a15 => ?_⟩⟩
  · have f9 := W9.f.n
    have f13 := W13.f.n
    exact zA_27 (H := 0) (Int.le_refl _) k1 k0.1.1 (by omega)
  · have n10 := a10.x (h := W9) (by omega)
    have r100 := a10.r0
    have F9 := Fb.trans W9.f
    have f15 := W15.f.n
    refine c_lands (d := 3 * e + d + 5) h.c (W15.back F9) mb.1 (fun x hx => by have := po.a x hx; omega) (fun x hx => by have := po.b x hx; omega) (fun y => ?_) h.i.bo fun μ' W' => hP μ' _ (W'.weak (by omega) (by omega) (Int.le_refl _))
    have y9 := zF.fault W15 y
    have x := n10.2.2 y9
    have x2 := n10.2.1 x.2
    have y3 : μ3 2 5 = 0 := by rw [← m3' 2 5 (by omega)]; exact zF.fault W9 y9
    obtain ⟨Γ, gg⟩ := h.g (zF.fault W3 y3)
    have := gg.z
    exact ⟨by omega, by omega, by omega⟩
theorem c_stBegin (h : zW s ζ δ b Z Lb Ln μ μ t τ H κ o k) (e : μ1 = ab_mu μ 2 9 (ab_w (μ 2 9 + 1))) : zW s ζ δ b Z Lb Ln μ μ1 t τ H κ o k ∧ (∀ c j, ¬ (c = 2 ∧ j = 9) → μ1 c j = μ c j) := by
  have g : ∀ c j, ¬ (c = 2 ∧ j = 9) → μ1 c j = μ c j := fun c j q => by rw [e, ab_mud, if_neg q]
  have f2 : ∀ j, j ≠ 9 → μ1 2 j = μ 2 j := fun j q => g 2 j (by omega)
  have q3 := f2 3 (by decide)
  have q4 := f2 4 (by decide)
  have q5 := f2 5 (by decide)
  have q8 := f2 8 (by decide)
  exact ⟨h.f2 (fun c j x => g c j (by omega)) (fun j x q => f2 j (by omega)) (by rw [q3]; exact ⟨Int.le_refl _, h.i.a.2⟩) (by rw [q4, q5, f2 7 (by decide)]; exact h.i.sf) (by rw [q5]; exact id) (by rw [q4]; exact id) (by rw [q4, q3, q8]; exact h.i.ph) (by rw [q4, q8]; exact h.op) (by rw [q4, q3]; exact h.kw) (by rw [q5]; exact h.g), g⟩
theorem c_statement : ∀ e, zSt X e := by
  intro e
  induction e with
  | zero =>
    intro d P μ s t τ ζ δ b κ o k it Z Lb Ln h t0 hδ k0 hP
    rw [show 3 * 0 + d + 4 = d + 4 by omega]
    refine bk_mRe_statement_0 rfl fun μ1 e1 => ?_
    obtain ⟨W1, g1⟩ := c_stBegin h e1
    have st : μ1 2 4 ≠ 0 := fun y => by
      have y0 : μ 2 4 = 0 := by rw [← g1 2 4 (by decide)]; exact y
      have := k0 y0
      have := h.i.ph y0
      have := h.op y0
      simp at *
      omega
    refine c_mRe_kind W1 fun r hr => ?_
    have r48 : r = 48 := by
      rcases hr with hr | hr
      · exact hr.2
      · exact absurd hr.1 st
    refine ⟨⟨fun q => by omega, fun q => by omega, fun q => by omega, fun q => by omega, fun q => by omega, fun q => by omega, trivial⟩, fun _ => c_mRe_takeSimple W1.base t0 (fun y => absurd y st) (by rw [g1 2 10 (by decide)]; exact hδ) fun μ2 k2 A B W2 po => hP μ2 k2 A B (W2.back W1.f) (po.pre W1.f)⟩
  | succ e IH =>
    intro d P μ s t τ ζ δ b κ o k it Z Lb Ln h t0 hδ k0 hP
    rw [show 3 * (e + 1) + d + 4 = 3 * e + d + 7 by omega]
    refine bk_mRe_statement_0 rfl fun μ1 e1 => ?_
    obtain ⟨W1, g1⟩ := c_stBegin h e1
    have d1 : μ1 2 10 = δ := by rw [g1 2 10 (by decide)]; exact hδ
    have k1 : zTo (μ1 2 4 = 0) ((0 ≤ κ ∧ κ ≤ o) ∧ 24 ≤ o + (e : Int)) := fun y => by
      have := k0 (by rw [← g1 2 4 (by decide)]; exact y)
      rw [Int.natCast_add] at this
      omega
    have k2 : zTo (μ1 2 4 = 0) (0 ≤ κ ∧ κ ≤ 25) := fun y => by
      have := k1 y
      have := W1.i.ph y
      have := W1.op y
      omega
    have fin : ∀ μ' k' A B, zW s ζ δ b (zZ Z A B) (A ++ Lb) (B ++ Ln) μ1 μ' t τ 0 κ o k' → zPo s μ1 μ' A B → P 0 μ' := fun μ2 k2 A B W2 po => hP μ2 k2 A B (W2.back W1.f) (po.pre W1.f)
    have fin0 : ∀ μ' k', zW s ζ δ b Z Lb Ln μ1 μ' t τ 0 κ o k' → P 0 μ' := fun μ2 k2 W2 => fin μ2 k2 [] [] W2.nil zPo.nil
    refine c_mRe_kind W1 fun r hr => ?_
    have zr : r ≠ 48 → μ1 2 4 = 0 ∧ k = r := fun y => by
      rcases hr with hr | hr
      · exact absurd hr.2 y
      · exact ⟨hr.1, hr.2.1.symm⟩
    refine ⟨⟨fun q => ?_, fun q => ?_, fun q => ?_, fun q => ?_, fun q => ?_, fun q => ?_, trivial⟩, fun _ => c_mRe_takeSimple W1.base t0 k2 d1 fin⟩
    · exact c_takeBlock IH W1.base t0 d1 k1 fin
    · obtain ⟨z, ek⟩ := zr (by omega)
      rw [ek, q] at W1
      refine c_mRe_nextKind W1 fun nx hn => c_mRe_takeNamed W1.base t0 z (k2 z) (fun y => ?_) fin0
      rcases hn with hn | hn
      · omega
      · exact hn.2.symm
    · obtain ⟨z, ek⟩ := zr (by omega)
      rw [ek, q] at W1
      exact c_takeDo IH W1.base t0 d1 z (k1 z) fin0
    · obtain ⟨z, ek⟩ := zr (by omega)
      rw [ek, q] at W1
      exact c_takeIf IH W1.base t0 d1 z (k1 z) fin
    · obtain ⟨z, ek⟩ := zr (by omega)
      rw [ek, q] at W1
      exact ⟨fun _ => c_mRe_misfit W1.base fun μ2 z2 W2 _ => fin0 μ2 0 (W2 _ _ _ _ _ _ _), fun _ => c_mRe_tellInts0 W1.base (fun _ => rfl) (by omega) (fun y => by have := k2 y; omega) fin0⟩
    · obtain ⟨z, ek⟩ := zr (by omega)
      rw [ek, q] at W1
      exact c_takeWhile IH W1.base t0 d1 z (k1 z) fin0
end K37

/-! THE CLASS, part k38: the Reader between statements -/
section K38
variable {X : jm_X} {d e : Nat} {P : Int → ab_m → Prop} {μ μ' μ0 μ1 μ2 : ab_m} {s t τ t' τ' ζ δ b b' H H' κ κ' o o' k k' n0 : Int} {Z Z' : Int → Prop} {Γ : scG} {Lb Ln Lb' Ln' A B A' B' : List Int} {G G' : Prop}
end K38
/-- a reader under way, of which G holds while there is no fault; only its own fields have changed since μ0 -/
def zU (s : Int) (G : Prop) (μ0 μ : ab_m) (t τ o k : Int) : Prop := (zI μ s t τ) ∧ (∀ c j, ¬ (c = 2 ∧ 3 ≤ j ∧ j ≤ 8) → μ c j = μ0 c j) ∧ (μ0 2 5 ≠ 0 → μ 2 5 ≠ 0) ∧ (μ0 2 4 ≠ 0 → μ 2 4 ≠ 0) ∧ (μ 2 5 = 0 → G) ∧ (μ 2 4 = 0 → μ 2 8 = o) ∧ (μ 2 4 = 0 → μ 4 (μ 2 3) = k)
theorem zU.i {s : Int} {G : Prop} {μ0 μ : ab_m} {t τ o k : Int} (h'' : zU s G μ0 μ t τ o k) : zI μ s t τ := h''.1
theorem zU.f {s : Int} {G : Prop} {μ0 μ : ab_m} {t τ o k : Int} (h'' : zU s G μ0 μ t τ o k) : ∀ c j, ¬ (c = 2 ∧ 3 ≤ j ∧ j ≤ 8) → μ c j = μ0 c j := h''.2.1
theorem zU.ft {s : Int} {G : Prop} {μ0 μ : ab_m} {t τ o k : Int} (h'' : zU s G μ0 μ t τ o k) : μ0 2 5 ≠ 0 → μ 2 5 ≠ 0 := h''.2.2.1
theorem zU.st {s : Int} {G : Prop} {μ0 μ : ab_m} {t τ o k : Int} (h'' : zU s G μ0 μ t τ o k) : μ0 2 4 ≠ 0 → μ 2 4 ≠ 0 := h''.2.2.2.1
theorem zU.g {s : Int} {G : Prop} {μ0 μ : ab_m} {t τ o k : Int} (h'' : zU s G μ0 μ t τ o k) : μ 2 5 = 0 → G := h''.2.2.2.2.1
theorem zU.op {s : Int} {G : Prop} {μ0 μ : ab_m} {t τ o k : Int} (h'' : zU s G μ0 μ t τ o k) : μ 2 4 = 0 → μ 2 8 = o := h''.2.2.2.2.2.1
theorem zU.kw {s : Int} {G : Prop} {μ0 μ : ab_m} {t τ o k : Int} (h'' : zU s G μ0 μ t τ o k) : μ 2 4 = 0 → μ 4 (μ 2 3) = k := h''.2.2.2.2.2.2
section K38
variable {X : jm_X} {d e : Nat} {P : Int → ab_m → Prop} {μ μ' μ0 μ1 μ2 : ab_m} {s t τ t' τ' ζ δ b b' H H' κ κ' o o' k k' n0 : Int} {Z Z' : Int → Prop} {Γ : scG} {Lb Ln Lb' Ln' A B A' B' : List Int} {G G' : Prop}
/-- the reader's safety, when some things change -/
theorem zI.chg (h : zI μ s t τ) (e : ∀ c j, c = 4 ∨ c = 5 ∨ c = 9 ∨ c = 10 → μ' c j = μ c j) (e3 : μ' 3 3 = μ 3 3) (e2 : ∀ j, 2 ≤ j → j ≤ 8 → μ' 2 j = μ 2 j) (s4 : μ' s 4 = μ s 4) (s7 : μ' s 7 = μ s 7) (nu : (0 ≤ μ' s 6 ∧ μ' s 6 ≤ 1499) ∧ (0 ≤ μ' s 8 ∧ μ' s 8 ≤ 8) ∧ (0 ≤ μ' s 10 ∧ μ' s 10 ≤ 15)) (nc : (0 ≤ μ' 7 3 ∧ μ' 7 3 ≤ μ 7 3) ∧ 0 ≤ μ' 7 4) (bo : 0 ≤ μ' 2 11 ∧ μ' 2 11 ≤ 1) (dw : -1 ≤ μ' 2 10 ∧ μ' 2 10 < 15) : zI μ' s t τ := by
  obtain ⟨i1, i2, i3, i4, i5, i6, i7, i8, i9, i10, i11, i12⟩ := h
  have f3 := e2 3 (by decide) (by decide)
  have f4 := e2 4 (by decide) (by decide)
  refine ⟨by rw [e2 2 (by decide) (by decide)]; exact i1, i2, by rw [e3]; exact i3.same fun c j q => e c j (by omega), by rw [f3, e3]; exact i4, by rw [f4, e2 5 (by decide) (by decide), e2 7 (by decide) (by decide)]; exact i5, by rw [s4]; exact i6, by rw [f4, f3, s4, s7, e2 8 (by decide) (by decide), e 5 _ (by decide)]; exact i7, ⟨nu.1, by rw [s7]; exact i8.2.1, nu.2.1, nu.2.2⟩, ⟨⟨nc.1.1, by omega⟩, nc.2⟩, fun i x y q => ?_, bo, dw⟩
  rw [e 9 i (by decide)] at q
  rw [e 10 i (by decide)]
  exact i10 i x (by omega) q
theorem zU.f2 (h : zU s G μ0 μ t τ o k) (e : ∀ c j, ¬ (c = 2 ∧ 3 ≤ j ∧ j ≤ 8) → μ' c j = μ c j) (a : μ 2 3 ≤ μ' 2 3 ∧ μ' 2 3 < μ 3 3) (sf : μ' 2 4 ≠ 0 ∨ μ' 2 7 = 0 → μ' 2 5 ≠ 0) (ft : μ 2 5 ≠ 0 → μ' 2 5 ≠ 0) (st : μ 2 4 ≠ 0 → μ' 2 4 ≠ 0) (ph : μ' 2 4 = 0 → μ s 4 ≤ μ 5 (μ' 2 3) + t' ∧ 2 * μ s 7 ≤ μ 5 (μ' 2 3) + τ' ∧ 0 ≤ μ' 2 8 ∧ μ' 2 8 ≤ 24) (op : μ' 2 4 = 0 → μ' 2 8 = o') (kw : μ' 2 4 = 0 → μ 4 (μ' 2 3) = k') : zU s G μ0 μ' t' τ' o' k' := by
  have hs : s = 16 ∨ s = 26 := h.i.hs
  obtain ⟨i1, i2, i3, i4, i5, i6, i7, i8, i9, i10, i11, i12⟩ := h.i
  have es : ∀ j, μ' s j = μ s j := fun j => e s j (by omega)
  refine ⟨⟨by rw [e 2 2 (by decide)]; exact i1, i2, by rw [e 3 3 (by decide)]; exact i3.same fun c j q => e c j (by omega), by rw [e 3 3 (by decide)]; omega, sf, by rw [es]; exact i6, fun q => by rw [es, es, e 5 _ (by omega)]; exact ph q, by rw [es, es, es, es]; exact i8, by rw [e 7 3 (by decide), e 7 4 (by decide)]; exact i9, fun i x y q => ?_, by rw [e 2 11 (by decide)]; exact i11, by rw [e 2 10 (by decide)]; exact i12⟩, fun c j q => by rw [e c j q, h.f c j q], fun q => ft (h.ft q), fun q => st (h.st q), fun q => ?_, op, fun q => by rw [e 4 _ (by omega)]; exact kw q⟩
  · rw [e 7 3 (by decide)] at y
    rw [e 9 i (by omega)] at q
    rw [e 10 i (by omega)]
    exact i10 i x y q
  · by_cases y : μ 2 5 = 0
    · exact h.g y
    · exact absurd q (ft y)
theorem zU.stop (h : zU s G μ0 μ t τ o k) (z : μ 2 4 ≠ 0) : ∀ t' τ' o' k', zU s G μ0 μ t' τ' o' k' := fun t' τ' o' k' =>
  h.f2 (fun _ _ _ => rfl) ⟨Int.le_refl _, h.i.a.2⟩ h.i.sf id id (fun q => absurd q z) (fun q => absurd q z) fun q => absurd q z
theorem zU.weak (h : zU s G μ0 μ t τ o k) (a : t ≤ t') (c : τ ≤ τ') : zU s G μ0 μ t' τ' o k :=
  h.f2 (fun _ _ _ => rfl) ⟨Int.le_refl _, h.i.a.2⟩ h.i.sf id id (fun q => by have := h.i.ph q; omega) h.op h.kw
theorem zU.base (h : zU s G μ0 μ t τ o k) (g : μ 2 5 = 0 → G') : zU s G' μ μ t τ o k := ⟨h.i, fun _ _ _ => rfl, id, id, g, h.op, h.kw⟩
theorem zU.run (h : zU s G μ0 μ t τ o k) (z : μ 2 4 = 0) : μ0 2 4 = 0 := by
  by_cases x : μ0 2 4 = 0
  · exact x
  · exact absurd z (h.st x)
theorem zU.at3 (h : zU s G μ0 μ t τ o k) : 0 ≤ μ 2 3 ∧ μ 2 3 < 3001 := by
  have := h.i.a; have := h.i.ww.c; omega
theorem c_u_misfit (h : zU s G μ0 μ t τ o k) (hP : ∀ μ', μ' 2 4 ≠ 0 → (∀ t' τ' o' k', zU s G μ0 μ' t' τ' o' k') → P 0 μ') : jj_mRe_misfit X d 0 (ab_la [2]) [] μ P := by
  have C := h.i.ww.c
  have a := h.i.a
  have fin : ∀ (v p : Int) (μ4 : ab_m), v ≠ 0 → μ4 = ab_mu (ab_mu (ab_mu (ab_mu μ 2 4 1) 2 7 0) 2 5 v) 2 6 p → P 0 μ4 := by
    intro v p μ4 hv e
    have v4 : μ4 2 4 = 1 := by rw [e]; rfl
    have v5 : μ4 2 5 = v := by rw [e]; rfl
    have vo : ∀ c j, ¬ (c = 2 ∧ 4 ≤ j ∧ j ≤ 7) → μ4 c j = μ c j := fun c j q => by rw [e, ab_mud, if_neg (by omega), ab_mud, if_neg (by omega), ab_mud, if_neg (by omega), ab_mud, if_neg (by omega)]
    have w : zU s G μ0 μ4 t τ o k := h.f2 (fun c j q => vo c j (by omega)) (by rw [vo 2 3 (by omega)]; exact ⟨Int.le_refl _, a.2⟩) (fun _ => by rw [v5]; exact hv) (fun _ => by rw [v5]; exact hv) (fun _ => by rw [v4]; decide) (fun q => by omega) (fun q => by omega) (fun q => by omega)
    exact hP μ4 (by rw [v4]; decide) (w.stop (by rw [v4]; decide))
  refine bk_mRe_misfit_0 rfl ⟨fun z => hP μ z (h.stop z), fun z => ⟨fun y => by omega, fun y μ1 e1 μ2 e2 => ?_⟩⟩
  have e3 : μ2 2 3 = μ 2 3 := by rw [e2, e1]; rfl
  refine ⟨by omega, fun q μ3 e3' => ⟨?_, fun μ4 e4 => fin 2 (μ3 5 (μ3 2 3)) μ4 (by decide) (by rw [e4]; congr 1; rw [e3', e2, e1])⟩, fun q μ3 e3' => ⟨?_, fun μ4 e4 => fin 1 (μ3 5 (μ3 2 3)) μ4 (by decide) (by rw [e4]; congr 1; rw [e3', e2, e1])⟩⟩
  · rw [e3', ab_mud, if_neg (by decide)]; omega
  · rw [e3', ab_mud, if_neg (by decide)]; omega
theorem c_u_soften {v w : Int} (h : zU s G μ0 μ t τ o k) (hv : v ≠ 0) (hw : 0 ≤ w ∧ w < 3001) (hP : ∀ μ', μ' 2 5 ≠ 0 → (∀ c j, ¬ (c = 2 ∧ (j = 5 ∨ j = 6)) → μ' c j = μ c j) → zU s G μ0 μ' t τ o k → P 0 μ') : jj_mRe_soften X d 0 (ab_la [2, v, w]) [] μ P := by
  have fin : ∀ (p : Int) (μ1 μ2 : ab_m), μ1 = ab_mu μ 2 5 v → μ2 = ab_mu μ1 2 6 p → P 0 μ2 := by
    intro p μ1 μ2 e1 e2
    have g : ∀ c j, ¬ (c = 2 ∧ (j = 5 ∨ j = 6)) → μ2 c j = μ c j := fun c j q => by rw [e2, ab_mud, if_neg (by omega), e1, ab_mud, if_neg (by omega)]
    have v5 : μ2 2 5 = v := by rw [e2, e1]; rfl
    have g' : ∀ j, j ≠ 5 → j ≠ 6 → μ2 2 j = μ 2 j := fun j x y => g 2 j (by omega)
    have q3 := g' 3 (by decide) (by decide)
    have q4 := g' 4 (by decide) (by decide)
    have q8 := g' 8 (by decide) (by decide)
    exact hP μ2 (by rw [v5]; exact hv) g (h.f2 (fun c j q => g c j (by omega)) (by rw [q3]; exact ⟨Int.le_refl _, h.i.a.2⟩) (fun _ => by rw [v5]; exact hv) (fun _ => by rw [v5]; exact hv) (fun q => by rw [q4]; exact q) (fun q => by rw [q3, q8]; rw [q4] at q; exact h.i.ph q) (fun q => by rw [q8]; rw [q4] at q; exact h.op q) (fun q => by rw [q3]; rw [q4] at q; exact h.kw q))
  have no : μ 2 5 ≠ 0 → P 0 μ := fun q => hP μ q (fun _ _ _ => rfl) h
  exact bk_mRe_soften_0 rfl ⟨hw, fun z => no (h.i.sf (Or.inr z)), fun _ => ⟨fun _ μ1 e1 μ2 e2 => fin _ μ1 μ2 e1 e2, fun y => ⟨fun _ μ1 e1 μ2 e2 => fin _ μ1 μ2 e1 e2, fun _ => ⟨fun _ => no y, fun _ => ⟨fun _ => no y, fun _ μ1 e1 μ2 e2 => fin _ μ1 μ2 e1 e2⟩⟩⟩⟩⟩
theorem c_u_kind (h : zU s G μ0 μ t τ o k) (hP : ∀ r, (μ 2 4 ≠ 0 ∧ r = 48) ∨ (μ 2 4 = 0 ∧ r = k ∧ 2 ≤ k ∧ k ≤ 47) → P r μ) : jj_mRe_kind X d 0 (ab_la [2]) [] μ P := by
  have C := h.i.ww.c
  have a := h.i.a
  refine bk_mRe_kind_0 rfl ⟨fun z => hP 48 (Or.inl ⟨z, rfl⟩), fun z => ⟨fun _ => ⟨by omega, hP _ (Or.inr ⟨z, h.kw z, ?_⟩)⟩, fun q => by omega⟩⟩
  have kw := h.kw z
  by_cases q : μ 2 3 = μ 3 3 - 1
  · have l := h.i.ww.l.1
    rw [← q, kw] at l
    omega
  · have p := (h.i.ww.p (μ 2 3) a.1 (by omega)).2.2
    rw [kw] at p
    omega
theorem zU.nx (h : zU s G μ0 μ t τ o k) (z : μ 2 4 = 0) (w : Int) (hk : zGo k w) : μ 2 3 + 1 < μ 3 3 ∧ μ 5 (μ 2 3) + w ≤ μ 5 (μ 2 3 + 1) := by
  have a := h.i.a
  have kw := h.kw z
  have q : μ 2 3 ≠ μ 3 3 - 1 := fun q => by
    have l := h.i.ww.l.1
    rw [← q, kw] at l
    have := hk.1; have := hk.2.1
    omega
  have p := (h.i.ww.p (μ 2 3) a.1 (by omega)).2.1
  rw [kw] at p
  have := hk.2.2
  omega
theorem c_u_go {w : Int} (h : zU s G μ0 μ t τ o k) (hk : zTo (μ 2 4 = 0) (zGo k w)) (hP : ∀ μ', zU s G μ0 μ' (t - w) (τ - w) o (μ 4 (μ 2 3 + 1)) → (zTo (μ 2 4 = 0) (μ' 2 3 = μ 2 3 + 1)) → (∀ c j, ¬ (c = 2 ∧ j = 3) → μ' c j = μ c j) → P 0 μ') : jj_mRe_go X d 0 (ab_la [2]) [] μ P := by
  have C := h.i.ww.c
  have a := h.i.a
  refine bk_mRe_go_0 rfl ⟨fun z => hP μ (h.stop z _ _ _ _) (fun q => absurd q z) fun _ _ _ => rfl, fun z μ1 e1 => ?_⟩
  rw [show ab_w (μ 2 3 + 1) = μ 2 3 + 1 from ab_wi (by omega) (by omega)] at e1
  have g : ∀ c j, ¬ (c = 2 ∧ j = 3) → μ1 c j = μ c j := fun c j q => by rw [e1, ab_mud, if_neg q]
  have g' : ∀ j, j ≠ 3 → μ1 2 j = μ 2 j := fun j x => g 2 j (by omega)
  have v3 : μ1 2 3 = μ 2 3 + 1 := by rw [e1]; rfl
  have nx := h.nx z w (hk z)
  have ph := h.i.ph z
  exact hP μ1 (h.f2 (fun c j q => g c j (by omega)) (by omega) (by rw [g' 4 (by decide), g' 5 (by decide), g' 7 (by decide)]; exact h.i.sf) (fun q => by rw [g' 5 (by decide)]; exact q) (fun q => by rw [g' 4 (by decide)]; exact q) (fun q => by rw [v3, g' 8 (by decide)]; omega) (fun q => by rw [g' 8 (by decide)]; exact h.op z) (fun q => by rw [v3])) (fun _ => v3) g
theorem c_u_openOne (h : zU s G μ0 μ t τ o k) (hP : ∀ μ', zU s G μ0 μ' t τ (o + 1) k → P 0 μ') : jj_mRe_openOne X d 0 (ab_la [2]) [] μ P := by
  have C := h.i.ww.c
  have a := h.i.a
  refine bk_mRe_openOne_0 rfl fun μ1 e1 => ?_
  have g : ∀ c j, ¬ (c = 2 ∧ j = 8) → μ1 c j = μ c j := fun c j q => by rw [e1, ab_mud, if_neg q]
  have g' : ∀ j, j ≠ 8 → μ1 2 j = μ 2 j := fun j x => g 2 j (by omega)
  have v8 : μ 2 4 = 0 → μ1 2 8 = o + 1 ∧ 0 ≤ o ∧ o ≤ 24 := fun z => by
    have ph := h.i.ph z
    have op := h.op z
    rw [e1, ab_mud, if_pos ⟨rfl, rfl⟩, show ab_w (μ 2 8 + 1) = μ 2 8 + 1 from ab_wi (by omega) (by omega)]
    omega
  have st : μ1 2 4 ≠ 0 → P 0 μ1 := fun z =>
    hP μ1 (zU.stop (h.f2 (t' := t) (τ' := τ) (o' := o) (k' := k) (fun c j q => g c j (by omega)) (by rw [g' 3 (by decide)]; exact ⟨Int.le_refl _, a.2⟩) (by rw [g' 4 (by decide), g' 5 (by decide), g' 7 (by decide)]; exact h.i.sf) (fun q => by rw [g' 5 (by decide)]; exact q) (fun _ => z) (fun q => absurd q z) (fun q => absurd q z) (fun q => absurd q z)) z _ _ _ _)
  refine ⟨fun y => ?_, fun y => ⟨fun z => st z, fun z μ2 e2 μ3 e3 μ4 e4 => ⟨?_, fun μ5 e5 => ?_⟩⟩⟩
  · by_cases z : μ1 2 4 = 0
    · have z' : μ 2 4 = 0 := by rw [← g' 4 (by decide)]; exact z
      have v := v8 z'
      have ph := h.i.ph z'
      exact hP μ1 (h.f2 (fun c j q => g c j (by omega)) (by rw [g' 3 (by decide)]; exact ⟨Int.le_refl _, a.2⟩) (by rw [g' 4 (by decide), g' 5 (by decide), g' 7 (by decide)]; exact h.i.sf) (fun q => by rw [g' 5 (by decide)]; exact q) (fun q => by rw [g' 4 (by decide)]; exact q) (fun q => by rw [g' 3 (by decide)]; omega) (fun q => v.1) (fun q => by rw [g' 3 (by decide)]; exact h.kw z'))
    · exact st z
  · rw [e4, ab_mud, if_neg (by decide), e3, ab_mud, if_neg (by decide), e2, ab_mud, if_neg (by decide), g' 3 (by decide)]; omega
  · have z5 : μ5 2 5 = 5 := by rw [e5, e4]; rfl
    have z4 : μ5 2 4 = 1 := by rw [e5, e4, e3, e2]; rfl
    have vo : ∀ c j, ¬ (c = 2 ∧ 4 ≤ j ∧ j ≤ 8) → μ5 c j = μ c j := fun c j q => by rw [e5, ab_mud, if_neg (by omega), e4, ab_mud, if_neg (by omega), e3, ab_mud, if_neg (by omega), e2, ab_mud, if_neg (by omega), g c j (by omega)]
    have v3 := vo 2 3 (by omega)
    exact hP μ5 (zU.stop (h.f2 (t' := t) (τ' := τ) (o' := o) (k' := k) (fun c j q => vo c j (by omega)) (by rw [v3]; exact ⟨Int.le_refl _, a.2⟩) (fun _ => by omega) (fun _ => by omega) (fun _ => by omega) (fun q => by omega) (fun q => by omega) (fun q => by omega)) (by omega) _ _ _ _)
theorem c_u_expect {w : Int} (h : zU s G μ0 μ t τ o k) (hw : w ≠ 34 ∧ w ≠ 35 ∧ w ≠ 48) (hP : ∀ μ' k', zU s G μ0 μ' (t - wt w) (τ - wt w) o k' → (zTo (μ' 2 4 = 0) (μ 2 4 = 0 ∧ k = w)) → P 0 μ') : jj_mRe_expect X (d + 1) 0 (ab_la [2, w]) [] μ P :=
  bk_mRe_expect_0 rfl (c_u_kind h fun r hr => ⟨fun _ => c_u_misfit h fun μ1 z w1 => hP μ1 0 (w1 _ _ _ _) fun q => absurd q z, fun q => by
    have q' : r = w := q
    rcases hr with hr | hr
    · exact absurd (hr.2.symm.trans q') (Ne.symm hw.2.2)
    · have kw : k = w := hr.2.1.symm.trans q'
      exact c_u_go (w := wt w) h (fun _ => ⟨by omega, by omega, by rw [kw]; exact Int.le_refl _⟩) fun μ1 w1 a1 g1 => hP μ1 _ w1 fun _ => ⟨hr.1, kw⟩⟩)
theorem zU.down (h : zU s G μ0 μ t τ (o + 1) k) (o0 : 0 ≤ o) (e : μ' = ab_mu μ 2 8 (ab_w (μ 2 8 - 1))) : zU s G μ0 μ' t τ o k := by
  have g : ∀ c j, ¬ (c = 2 ∧ j = 8) → μ' c j = μ c j := fun c j q => by rw [e, ab_mud, if_neg q]
  have g' : ∀ j, j ≠ 8 → μ' 2 j = μ 2 j := fun j x => g 2 j (by omega)
  have v : μ 2 4 = 0 → μ' 2 8 = o := fun q => by
    have ph := h.i.ph q
    have op := h.op q
    rw [e, ab_mud, if_pos ⟨rfl, rfl⟩, show ab_w (μ 2 8 - 1) = μ 2 8 - 1 from ab_wi (by omega) (by omega)]
    omega
  refine h.f2 (fun c j q => g c j (by omega)) (by rw [g' 3 (by decide)]; exact ⟨Int.le_refl _, h.i.a.2⟩) (by rw [g' 4 (by decide), g' 5 (by decide), g' 7 (by decide)]; exact h.i.sf) (fun q => by rw [g' 5 (by decide)]; exact q) (fun q => by rw [g' 4 (by decide)]; exact q) (fun q => ?_) (fun q => ?_) (fun q => ?_)
  all_goals rw [g' 4 (by decide)] at q
  · have ph := h.i.ph q
    have op := h.op q
    have := v q
    rw [g' 3 (by decide)]
    omega
  · exact v q
  · rw [g' 3 (by decide)]; exact h.kw q
theorem zI.tell {kd v : Int} (h : zI μ s t τ) (e : zTl μ μ' kd v) (h2 : kd = 2 → 0 ≤ v ∧ v < 15) : zI μ' s t τ := by
  have hs : s = 16 ∨ s = 26 := h.hs
  have ec := e.c
  have f := e.f
  have es : ∀ j, μ' s j = μ s j := fun j => f s j (by omega) (by omega)
  have e2 : ∀ j, μ' 2 j = μ 2 j := fun j => f 2 j (by omega) (by omega)
  obtain ⟨i1, i2, i3, i4, i5, i6, i7, i8, i9, i10, i11, i12⟩ := h
  refine ⟨by rw [e2]; exact i1, i2, by rw [f 3 3 (by omega) (by omega)]; exact i3.same fun c j q => f c j (by omega) (by omega), by rw [e2, f 3 3 (by omega) (by omega)]; exact i4, by rw [e2, e2, e2]; exact i5, by rw [es]; exact i6, by rw [e2, e2, e2, es, es, f 5 _ (by omega) (by omega)]; exact i7, by rw [es, es, es, es]; exact i8, by rw [f 7 4 (by omega) (by omega)]; omega, fun i x y q => ?_, by rw [e2]; exact i11, by rw [e2]; exact i12⟩
  rcases e.e i x y with w | w
  · rw [w.2.1] at q; rw [w.2.2]; exact i10 i x w.1 q
  · rw [w.2.1] at q; rw [w.2.2]; exact h2 q
theorem c_u_tellName {kd v : Int} (h : zU s G μ0 μ t τ o k) (hP : ∀ μ1 μ', zU s G μ0 μ1 t τ o k → zTl μ1 μ' kd v → P 0 μ') : jj_mRe_tellName X (d + 1) 0 (ab_la [2, kd, v]) [] μ P := by
  have nc := h.i.nc
  exact bk_mRe_tellName_0 rfl ⟨h.at3, c_mNa_isInBlock nc fun r => ⟨fun _ => c_mNa_tell nc.1 fun μ1 e1 => hP μ μ1 h e1, fun _ => c_u_soften h (by decide) h.at3 fun μ1 f1 g1 w1 => c_mNa_tell (by rw [g1 7 3 (by omega)]; exact nc.1) fun μ2 e2 => hP μ1 μ2 w1 e2⟩⟩
theorem zW.u (h : zW s ζ δ b Z Lb Ln μ0 μ t τ H κ o k) (g : μ 2 5 = 0 → G) : zU s G μ μ t τ o k := ⟨h.i, fun _ _ _ => rfl, id, id, g, h.op, h.kw⟩
theorem zU.w (h : zU s G μ0 μ t τ o k) (c : zCc μ s Lb Ln) (g : μ 2 5 = 0 → zG μ s ζ δ b Z H κ) : zW s ζ δ b Z Lb Ln μ μ t τ H κ o k := ⟨h.i, zF.refl, c, g, h.op, h.kw⟩
def zCh (μ : ab_m) (s : Int) : Prop := ∃ Lb Ln, zCc μ s Lb Ln
theorem zCh.same (h : zCh μ s) (n : μ' s 4 = μ s 4) (e : ∀ c y, c = s + 1 ∨ c = s + 2 → μ' c y = μ c y) (eb : μ' 2 12 = μ 2 12) (en : μ' 2 13 = μ 2 13) : zCh μ' s := by
  obtain ⟨Lb, Ln, c⟩ := h
  exact ⟨Lb, Ln, c.same (by rw [n]; exact Int.le_refl _) (fun y _ _ _ => ⟨e _ y (Or.inl rfl), e _ y (Or.inr rfl)⟩) eb en⟩
end K38
/-- what reading leaves as it was -/
def zFd (s : Int) (μ0 μ : ab_m) : Prop := (∀ c j, c ≠ 2 → ¬ (7 ≤ c ∧ c ≤ 15) → ¬ (s ≤ c ∧ c ≤ s + 9) → μ c j = μ0 c j) ∧ (∀ j, ¬ (3 ≤ j ∧ j ≤ 13) → j ≠ 19 → μ 2 j = μ0 2 j)
theorem zFd.o {s : Int} {μ0 μ : ab_m} (h'' : zFd s μ0 μ) : ∀ c j, c ≠ 2 → ¬ (7 ≤ c ∧ c ≤ 15) → ¬ (s ≤ c ∧ c ≤ s + 9) → μ c j = μ0 c j := h''.1
theorem zFd.f {s : Int} {μ0 μ : ab_m} (h'' : zFd s μ0 μ) : ∀ j, ¬ (3 ≤ j ∧ j ≤ 13) → j ≠ 19 → μ 2 j = μ0 2 j := h''.2
section K38
variable {X : jm_X} {d e : Nat} {P : Int → ab_m → Prop} {μ μ' μ0 μ1 μ2 : ab_m} {s t τ t' τ' ζ δ b b' H H' κ κ' o o' k k' n0 : Int} {Z Z' : Int → Prop} {Γ : scG} {Lb Ln Lb' Ln' A B A' B' : List Int} {G G' : Prop}
theorem zFd.refl : zFd s μ μ := ⟨fun _ _ _ _ _ => rfl, fun _ _ _ => rfl⟩
theorem zFd.trans (h : zFd s μ0 μ1) (h' : zFd s μ1 μ) : zFd s μ0 μ := ⟨fun c j x y z => by rw [h'.o c j x y z, h.o c j x y z], fun j x y => by rw [h'.f j x y, h.f j x y]⟩
theorem zF.fd (h : zF s μ0 μ) : zFd s μ0 μ := ⟨fun c j x y z => h.o c j x y (by omega), fun j x y => h.f j (by omega) (by omega) (by omega) y⟩
theorem zU.fd (h : zU s G μ0 μ t τ o k) : zFd s μ0 μ := ⟨fun c j x _ _ => h.f c j (by omega), fun j x _ => h.f 2 j (by omega)⟩
/-- all is well between decls -/
def zGd (μ : ab_m) (s : Int) : Prop := zG μ s (μ s 4) (-1) (μ 7 3) (fun _ => False) 0 0
end K38
def zD (s : Int) (μ0 μ : ab_m) (t τ o k : Int) : Prop := (zU s (zGd μ s) μ μ t τ o k) ∧ (zFd s μ0 μ) ∧ ((μ 2 10 = -1 ∧ μ 2 11 = 0 ∧ μ 7 4 = 0) ∧ zCh μ s)
theorem zD.u {s : Int} {μ0 μ : ab_m} {t τ o k : Int} (h'' : zD s μ0 μ t τ o k) : zU s (zGd μ s) μ μ t τ o k := h''.1
theorem zD.f {s : Int} {μ0 μ : ab_m} {t τ o k : Int} (h'' : zD s μ0 μ t τ o k) : zFd s μ0 μ := h''.2.1
theorem zD.c {s : Int} {μ0 μ : ab_m} {t τ o k : Int} (h'' : zD s μ0 μ t τ o k) : (μ 2 10 = -1 ∧ μ 2 11 = 0 ∧ μ 7 4 = 0) ∧ zCh μ s := h''.2.2
section K38
variable {X : jm_X} {d e : Nat} {P : Int → ab_m → Prop} {μ μ' μ0 μ1 μ2 : ab_m} {s t τ t' τ' ζ δ b b' H H' κ κ' o o' k k' n0 : Int} {Z Z' : Int → Prop} {Γ : scG} {Lb Ln Lb' Ln' A B A' B' : List Int} {G G' : Prop}
theorem zGd.same (hs : s = 16 ∨ s = 26) (h : zGd μ s) (e : ∀ c j, c ≠ 2 → ¬ (c = 7 ∧ j = 4) → μ' c j = μ c j) : zGd μ' s := by
  obtain ⟨Γ, gg⟩ := h
  unfold zGd
  rw [e s 4 (by omega) (by omega), e 7 3 (by decide) (by decide)]
  exact ⟨Γ, gg.same (fun j _ _ => e s j (by omega) (by omega)) (fun c j x y => e c j (by omega) (by omega)) (e 7 3 (by decide) (by decide)) fun c j x => e c j (by omega) (by omega)⟩
theorem zD.of (h : zD s μ0 μ t τ o k) (h' : zU s (zGd μ s) μ μ' t' τ' o' k') : zD s μ0 μ' t' τ' o' k' := by
  have hs : s = 16 ∨ s = 26 := h.u.i.hs
  refine ⟨h'.base fun q => zGd.same hs (h'.g q) fun c j x _ => h'.f c j (by omega), h.f.trans h'.fd, ?_⟩
  rw [h'.f 2 10 (by decide), h'.f 2 11 (by decide), h'.f 7 4 (by decide)]
  exact ⟨h.c.1, h.c.2.same (h'.f s 4 (by omega)) (fun c y q => h'.f c y (by omega)) (h'.f 2 12 (by decide)) (h'.f 2 13 (by decide))⟩
/-- more ints of the program -/
theorem zD.glob (h : zD s μ0 μ t τ o k) (e : ∀ c j, ¬ (c = s ∧ j = 6) → μ' c j = μ c j) (l : μ s 6 ≤ μ' s 6 ∧ μ' s 6 ≤ 1499) : zD s μ0 μ' t τ o k := by
  have hs : s = 16 ∨ s = 26 := h.u.i.hs
  have e2 : ∀ j, μ' 2 j = μ 2 j := fun j => e 2 j (by omega)
  have es : ∀ j, j ≠ 6 → μ' s j = μ s j := fun j q => e s j (by omega)
  have nu := h.u.i.nu
  refine ⟨⟨h.u.i.chg (fun c j q => e c j (by omega)) (e 3 3 (by omega)) (fun j _ _ => e2 j) (es 4 (by decide)) (es 7 (by decide)) ?_ ?_ ?_ ?_, fun _ _ _ => rfl, id, id, fun q => ?_, by rw [e2, e2]; exact h.u.op, by rw [e2, e2, e 4 _ (by omega)]; exact h.u.kw⟩, h.f.trans ⟨fun c j x y z => e c j (by omega), fun j _ _ => e2 j⟩, by rw [e2, e2, e 7 4 (by omega)]; exact ⟨h.c.1, h.c.2.same (es 4 (by decide)) (fun c y q => e c y (by omega)) (e2 12) (e2 13)⟩⟩
  · rw [es 8 (by decide), es 10 (by decide)]; omega
  · rw [e 7 3 (by omega), e 7 4 (by omega)]; exact ⟨⟨h.u.i.nc.1.1, Int.le_refl _⟩, h.u.i.nc.2⟩
  · rw [e2]; exact h.u.i.bo
  · rw [e2]; exact h.u.i.dw
  · rw [e2] at q
    obtain ⟨Γ, gg⟩ := h.u.g q
    unfold zGd
    rw [es 4 (by decide), e 7 3 (by omega)]
    have er : rho μ' s (-1) = rho μ s (-1) := by unfold rho; rw [es 10 (by decide)]
    refine ⟨Γ, gg.grow (es 4 (by decide)) l.1 (by rw [es 8 (by decide)]; exact Int.le_refl _) (by rw [es 10 (by decide)]; exact Int.le_refl _) er (fun c j x y => e c j (by omega)) (fun c j x y _ => e c j (by omega)) (Or.inl rfl) (fun i x y => ?_) (by rw [e 7 3 (by omega)]; exact gg.b) fun x p r => by rw [e _ _ (by omega)]; rw [es 8 (by decide)] at r; exact gg.ro x p r⟩
    rw [e 7 3 (by omega)] at y
    obtain ⟨n1, n2, n3⟩ := gg.nm i x y
    refine ⟨?_, by rw [e 9 i (by omega), e 10 i (by omega), es 8 (by decide)]; exact n2, by rw [e 9 i (by omega), e 10 i (by omega), er]; exact n3⟩
    rw [e 9 i (by omega), e 10 i (by omega)]
    intro u
    refine ⟨(n1 u).1, ?_⟩
    rcases (n1 u).2 with v | v
    · exact Or.inl ⟨v.1, by omega⟩
    · have := v.1; omega
theorem zGd.tell {kd v : Int} (hs : s = 16 ∨ s = 26) (h : zGd μ s) (e : zTl μ μ' kd v) (hg : (kd = 0 → 0 ≤ v ∧ v < μ s 6 ∧ v < 3000) ∧ (kd = 1 → 0 ≤ v ∧ v < μ s 8) ∧ (kd = 2 → 0 ≤ v ∧ v < μ s 10)) : zGd μ' s := by
  obtain ⟨Γ, gg⟩ := h
  unfold zGd
  rw [e.f s 4 (by omega) (by omega)]
  refine ⟨Γ, gg.tell hs e ⟨fun q => ?_, hg.2.1, fun q => ?_⟩ (Or.inr ⟨rfl, rfl, fun q => (hg.1 q).2.1⟩)⟩
  · have := hg.1 q
    exact ⟨by omega, Or.inl (by omega)⟩
  · unfold rho; rw [if_pos rfl]; exact hg.2.2 q
theorem zD.tell {kd v : Int} (h : zD s μ0 μ t τ o k) (e : zTl μ μ' kd v) (h2 : kd = 2 → 0 ≤ v ∧ v < 15) (hg : μ 2 5 = 0 → (kd = 0 → 0 ≤ v ∧ v < μ s 6 ∧ v < 3000) ∧ (kd = 1 → 0 ≤ v ∧ v < μ s 8) ∧ (kd = 2 → 0 ≤ v ∧ v < μ s 10)) : zD s μ0 μ' t τ o k := by
  have hs : s = 16 ∨ s = 26 := h.u.i.hs
  have e2 : ∀ j, μ' 2 j = μ 2 j := fun j => e.f 2 j (by omega) (by omega)
  refine ⟨⟨h.u.i.tell e h2, fun _ _ _ => rfl, id, id, fun q => ?_, by rw [e2, e2]; exact h.u.op, by rw [e2, e2, e.f 4 _ (by omega) (by omega)]; exact h.u.kw⟩, h.f.trans ⟨fun c j x y z => e.f c j (by omega) (by omega), fun j _ _ => e2 j⟩, by rw [e2, e2, e.f 7 4 (by omega) (by omega)]; exact ⟨h.c.1, h.c.2.same (e.f s 4 (by omega) (by omega)) (fun c y q => e.f c y (by omega) (by omega)) (e2 12) (e2 13)⟩⟩
  rw [e2] at q
  exact zGd.tell hs (h.u.g q) e (hg q)
end K38

/-! THE CLASS, part k39: ints and rows of the program -/
section K39
variable {X : jm_X} {d e : Nat} {P : Int → ab_m → Prop} {μ μ' μ0 μ1 μ2 : ab_m} {s t τ t' τ' ζ δ b b' H H' κ κ' o o' k k' n0 : Int} {Z Z' : Int → Prop} {Γ : scG} {Lb Ln Lb' Ln' A B A' B' : List Int} {G G' : Prop}
theorem c_takeGlobal {q : Int} (h : zI μ s t τ) (hq : q = s) (hP : ∀ r μ', (∀ c j, ¬ (c = s ∧ j = 6) → μ' c j = μ c j) → μ s 6 ≤ μ' s 6 ∧ μ' s 6 ≤ 1499 → 0 ≤ r ∧ r < μ' s 6 → P r μ') : jj_mSc_takeGlobal X d 0 (ab_la [q]) [] μ P := by
  subst hq
  have nu := h.nu.1
  refine bk_mSc_takeGlobal_0 h.hs ?_
  simp only [la0]
  refine ⟨fun z => ?_, fun z μ1 e1 => ?_⟩
  · rw [show ab_w (μ q 6 - 1) = μ q 6 - 1 from ab_wi (by omega) (by omega)]
    exact hP _ μ (fun _ _ _ => rfl) (by omega) (by omega)
  · rw [show ab_w (μ q 6 + 1) = μ q 6 + 1 from ab_wi (by omega) (by omega)] at e1
    have v : μ1 q 6 = μ q 6 + 1 := by rw [e1, ab_mud, if_pos ⟨rfl, rfl⟩]
    rw [v, show ab_w (μ q 6 + 1 - 1) = μ q 6 by rw [ab_wi (by omega) (by omega)]; omega]
    exact hP _ μ1 (fun c j y => by rw [e1, ab_mud, if_neg y]) (by omega) (by omega)
theorem c_tellInts1 (h : zD s μ0 μ 0 0 0 k) (hk : zTo (μ 2 4 = 0) (k = 41)) (hP : ∀ μ' k', zD s μ0 μ' 0 0 0 k' → P 0 μ') : jj_mRe_tellInts X (d + 2) 0 (ab_la [2, 1]) [] μ P := by
  have hs : s = 16 ∨ s = 26 := h.u.i.hs
  have s10 : ∀ (m : Nat) (l : ab_l) (μ1 : ab_m) (lf mo k1 : Int), l 0 = 2 → l 1 = 1 → l 2 = mo → l 3 = lf → lf ≤ 3001 → lf.toNat = m → zD s μ0 μ1 0 0 0 k1 → (zTo (mo ≠ 0) (zTo (μ1 2 4 = 0) (k1 = 41 ∨ k1 = 29))) → jj_mRe_tellInts X (d + 2) 10 l [] μ1 P := by
    intro m
    have ex : ∀ (μ1 : ab_m) (k1 : Int), zD s μ0 μ1 0 0 0 k1 → jj_mRe_expect X (d + 1) 0 (ab_la [2, 30]) [] μ1 (fun r5 μ4 => P 0 μ4) := fun μ1 k1 D1 => c_u_expect D1.u (by decide) fun μ2 k2 u2 _ => hP μ2 k2 (D1.of (u2.weak (by have := wt1 30; omega) (by have := wt1 30; omega)))
    induction m with
    | zero =>
      intro l μ1 lf mo k1 l0 l1 l2 l3 lf1 em D1 hm
      refine bk_mRe_tellInts_10 l0 ?_
      rw [l1, l2, l3]
      exact ⟨fun _ => ex μ1 k1 D1, fun q => by omega⟩
    | succ m ih =>
      intro l μ1 lf mo k1 l0 l1 l2 l3 lf1 em D1 hm
      obtain ⟨lf2, lf3, lf4⟩ := lfm lf1 em
      have s75 : ∀ (l : ab_l) (μ2 : ab_m) (sl k2 : Int), l 0 = 2 → l 1 = 1 → l 3 = lf → l 4 = sl → 0 ≤ sl ∧ sl < μ2 s 6 → zD s μ0 μ2 (0 - 1) (0 - 1) 0 k2 → (zTo (μ2 2 4 = 0) (k2 = 33)) → jj_mRe_tellInts X (d + 2) 75 l [] μ2 P := by
        intro l μ2 sl k2 l0 l1 l3 l4 hsl D2 k33
        refine bk_mRe_tellInts_75 l0 ?_
        rw [l3, l4, lf4]
        refine c_u_tellName D2.u fun μ3 μ4 u3 e4 => ?_
        have D3 := D2.of u3
        have s36 := u3.f s 6 (by omega)
        have nu := D2.u.i.nu.1
        have D4 := D3.tell e4 (fun q => absurd q (by decide)) fun _ => ⟨fun _ => by omega, fun q => absurd q (by decide), fun q => absurd q (by decide)⟩
        refine c_u_go (w := 1) D4.u (fun z => ?_) fun μ5 u5 a5 g5 => c_u_kind u5 fun r hr => ?_
        · rw [k33 (u3.run (by rw [← e4.f 2 4 (by decide) (by decide)]; exact z))]; decide
        · have D5 := (D4.of u5)
          have D5' : zD s μ0 μ5 0 0 0 _ := ⟨D5.u.weak (by omega) (by omega), D5.f, D5.c⟩
          refine ⟨fun q => ih _ μ5 (lf - 1) 0 _ l0 l1 rfl rfl lf2 lf3 D5' (fun q => absurd rfl q), fun q => ih _ μ5 (lf - 1) 1 _ l0 l1 rfl rfl lf2 lf3 D5' fun _ z => ?_⟩
          rcases hr with hr | hr
          · exact absurd z hr.1
          · exact Or.inr (by omega)
      refine bk_mRe_tellInts_10 l0 ?_
      rw [l1, l2, l3]
      refine ⟨fun q => by omega, fun lf0 => ⟨fun _ => ex μ1 k1 D1, fun mo0 => c_u_go (w := 1) D1.u (fun z => by rcases hm mo0 z with q | q <;> rw [q] <;> decide) fun μ2 u2 a2 g2 => c_u_kind u2 fun r hr => ⟨fun q => ⟨fun y => absurd y (by decide), fun _ => ⟨by rw [u2.i.sc]; exact u2.i.hs, c_takeGlobal u2.i u2.i.sc fun r3 μ3 e3 l3' hr3 => ⟨fun _ => ?_, fun y => absurd y (by decide)⟩⟩⟩, fun q => c_u_misfit u2 fun μ3 z3 u3 => hP μ3 0 (D1.of (u3 _ _ _ _))⟩⟩⟩
      refine s75 _ μ3 r3 _ l0 l1 l3 rfl hr3 ((D1.of u2).glob e3 l3') fun z => ?_
      rcases hr with hr | hr
      · exact absurd (by rw [← e3 2 4 (by omega)]; exact z) hr.1
      · exact hr.2.1.symm.trans q
  exact bk_mRe_tellInts_0 rfl (s10 _ _ μ (μ 3 3) 1 k rfl rfl rfl rfl h.u.i.ww.c.2 rfl h fun _ z => Or.inl (hk z))
/-- one row more -/
def zVr (μ : ab_m) (s R x : Int) : ab_m := ab_mu (ab_mu μ (s + 5) R x) s 8 (R + 1)
theorem zVr_ne {R x c j : Int} (a : ¬ (c = s + 5 ∧ j = R)) (e : ¬ (c = s ∧ j = 8)) : zVr μ s R x c j = μ c j := by
  unfold zVr; rw [ab_mud, if_neg e, ab_mud, if_neg a]
theorem zVr_8 {R x : Int} : zVr μ s R x s 8 = R + 1 := by unfold zVr; rw [ab_mud, if_pos ⟨rfl, rfl⟩]
theorem zVr_5 {R x : Int} : zVr μ s R x (s + 5) R = x := by unfold zVr; rw [ab_mud, if_neg (by omega), ab_mud, if_pos ⟨rfl, rfl⟩]
theorem zGd.row {R x : Int} (hs : s = 16 ∨ s = 26) (h : zGd μ s) (hR : μ s 8 = R) (hx : x ≤ 100) : zGd (zVr μ s R x) s := by
  obtain ⟨Γ, gg⟩ := h
  have e : ∀ c j, c ≠ s + 5 → ¬ (c = s ∧ j = 8) → zVr μ s R x c j = μ c j := fun c j p q => zVr_ne (by omega) q
  have es : ∀ j, j ≠ 8 → zVr μ s R x s j = μ s j := fun j q => e s j (by omega) (by omega)
  have er : rho (zVr μ s R x) s (-1) = rho μ s (-1) := by unfold rho; rw [es 10 (by decide)]
  unfold zGd
  rw [es 4 (by decide), e 7 3 (by omega) (by omega)]
  refine ⟨Γ, gg.grow (es 4 (by decide)) (by rw [es 6 (by decide)]; exact Int.le_refl _) (by rw [zVr_8]; omega) (by rw [es 10 (by decide)]; exact Int.le_refl _) er (fun c j x y => e c j (by omega) (by omega)) (fun c j x y _ => e c j (by omega) (by omega)) (Or.inl rfl) (fun i a c => ?_) (by rw [e 7 3 (by omega) (by omega)]; exact gg.b) fun y p r => ?_⟩
  · rw [e 7 3 (by omega) (by omega)] at c
    obtain ⟨n1, n2, n3⟩ := gg.nm i a c
    refine ⟨?_, ?_, by rw [e 9 i (by omega) (by omega), e 10 i (by omega) (by omega), er]; exact n3⟩
    · rw [e 9 i (by omega) (by omega), e 10 i (by omega) (by omega), es 6 (by decide)]
      intro u
      refine ⟨(n1 u).1, ?_⟩
      rcases (n1 u).2 with v | v
      · exact Or.inl v
      · have := v.1; omega
    · rw [e 9 i (by omega) (by omega), e 10 i (by omega) (by omega), zVr_8]
      intro u; have := n2 u; omega
  · rw [zVr_8] at r
    by_cases q : y = R
    · subst q; rw [zVr_5]; exact hx
    · rw [zVr_ne (by omega) (by omega)]; exact gg.ro y p (by omega)
theorem zTl.vr {kd v R x : Int} (hs : s = 16 ∨ s = 26) (e : zTl μ μ' kd v) : zTl (zVr μ s R x) (zVr μ' s R x) kd v := by
  have g : ∀ (ν : ab_m) (c j : Int), 7 ≤ c ∧ c ≤ 10 → zVr ν s R x c j = ν c j := fun ν c j q => zVr_ne (by omega) (by omega)
  refine ⟨by rw [g _ 7 3 (by decide), g _ 7 3 (by decide)]; exact e.c, fun i a c => ?_, fun c j p q => ?_⟩
  · rw [g _ 7 3 (by decide)] at c
    rw [g _ 7 3 (by decide), g _ 9 i (by decide), g _ 9 i (by decide), g _ 10 i (by decide), g _ 10 i (by decide)]
    exact e.e i a c
  · unfold zVr
    rw [ab_mud, ab_mud, ab_mud, ab_mud, e.f c j p q]
theorem c_tellRow (h : zD s μ0 μ 0 0 0 k) (hk : zTo (μ 2 4 = 0) (k = 46)) (hP : ∀ μ' k', zD s μ0 μ' 0 0 0 k' → P 0 μ') : jj_mRe_tellRow X (d + 2) 0 (ab_la [2]) [] μ P := by
  have hs : s = 16 ∨ s = 26 := h.u.i.hs
  have w27 := wt1 27
  have w28 := wt1 28
  have w30 := wt1 30
  have s173 : ∀ (l : ab_l) (μ1 : ab_m) (k1 : Int), l 0 = 2 → zD s μ0 μ1 0 0 1 k1 → (zTo (μ1 2 4 = 0) (k1 = 32)) → jj_mRe_tellRow X (d + 2) 173 l [] μ1 P := by
    intro l μ1 k1 l0 D1 k32
    refine bk_mRe_tellRow_173 l0 (c_u_go (w := 1) D1.u (fun z => by rw [k32 z]; decide) fun μ2 u2 _ _ => c_u_expect u2 (by decide) fun μ3 k3 u3 _ μ4 e4 => c_u_expect (zU.down (o := 0) u3 (Int.le_refl _) e4) (by decide) fun μ5 k5 u5 _ => hP μ5 k5 (D1.of (u5.weak (by omega) (by omega))))
  -- the name is told, the row not yet
  have s57 : ∀ (l : ab_l) (μ4 : ab_m) (k4 : Int), l 0 = 2 → zU s (∀ x, x ≤ 100 → zGd (zVr μ4 s (μ4 s 8) x) s) μ4 μ4 (0 - 1) (0 - 1) 0 k4 → (zTo (μ4 2 4 = 0) (k4 = 33)) → zFd s μ0 μ4 → ((μ4 2 10 = -1 ∧ μ4 2 11 = 0 ∧ μ4 7 4 = 0) ∧ zCh μ4 s) → (zTo (μ4 s 8 = 8) (μ4 2 5 ≠ 0)) → jj_mRe_tellRow X (d + 2) 57 l [] μ4 P := by
    intro l μ4 k4 l0 u4 k33 f4 c4 h8
    have bad : ∀ (μ' : ab_m) (t τ o k : Int), zU s (∀ x, x ≤ 100 → zGd (zVr μ4 s (μ4 s 8) x) s) μ4 μ' t τ o k → μ' 2 5 ≠ 0 → zD s μ0 μ' t τ o k := fun μ' t τ o k u z => ⟨u.base fun q => absurd q z, f4.trans u.fd, by rw [u.f 2 10 (by decide), u.f 2 11 (by decide), u.f 7 4 (by decide)]; exact ⟨c4.1, c4.2.same (u.f s 4 (by omega)) (fun c y q => u.f c y (by omega)) (u.f 2 12 (by decide)) (u.f 2 13 (by decide))⟩⟩
    have s131 : ∀ (l : ab_l) (μ7 : ab_m) (c : Int), l 0 = 2 → l 1 = c → zU s (∀ x, x ≤ 100 → zGd (zVr μ4 s (μ4 s 8) x) s) μ4 μ7 0 0 1 32 → (zTo (μ7 2 5 = 0) (1 ≤ c ∧ c ≤ 100)) → jj_mRe_tellRow X (d + 2) 131 l [] μ7 P := by
      intro l μ7 c l0 l1 u7 hc
      refine bk_mRe_tellRow_131 l0 ?_
      have s8 := u7.f s 8 (by omega)
      have nu := u7.i.nu
      rw [u7.i.sc, l1]
      refine ⟨u7.i.hs, fun q => s173 l μ7 32 l0 (bad _ _ _ _ _ u7 (u7.ft (h8 (by omega)))) (fun _ => rfl), fun q => ⟨by omega, fun μ8 e8 => ?_⟩⟩
      have g8 : ∀ c j, c ≠ s + 5 → μ8 c j = μ7 c j := fun c j q => by rw [e8, mu_ne q]
      rw [g8 2 2 (by omega), u7.i.sc, g8 s 8 (by omega), show ab_w (μ7 s 8 + 1) = μ7 s 8 + 1 from ab_wi (by omega) (by omega)]
      refine ⟨u7.i.hs, fun μ9 e9 => ?_⟩
      have g9 : ∀ c j, c ≠ s + 5 → ¬ (c = s ∧ j = 8) → μ9 c j = μ7 c j := fun c j p q => by rw [e9, ab_mud, if_neg q, g8 c j p]
      have v9 : μ9 s 8 = μ7 s 8 + 1 := by rw [e9, ab_mud, if_pos ⟨rfl, rfl⟩]
      have e2 : ∀ j, μ9 2 j = μ7 2 j := fun j => g9 2 j (by omega) (by omega)
      have es : ∀ j, j ≠ 8 → μ9 s j = μ7 s j := fun j q => g9 s j (by omega) (by omega)
      refine s173 l μ9 32 l0 ⟨⟨u7.i.chg (fun c j q => g9 c j (by omega) (by omega)) (g9 3 3 (by omega) (by omega)) (fun j _ _ => e2 j) (es 4 (by decide)) (es 7 (by decide)) (by rw [es 6 (by decide), es 10 (by decide), v9]; omega) (by rw [g9 7 3 (by omega) (by omega), g9 7 4 (by omega) (by omega)]; exact ⟨⟨u7.i.nc.1.1, Int.le_refl _⟩, u7.i.nc.2⟩) (by rw [e2]; exact u7.i.bo) (by rw [e2]; exact u7.i.dw), fun _ _ _ => rfl, id, id, fun y => ?_, by rw [e2, e2]; exact u7.op, by rw [e2, e2, g9 4 _ (by omega) (by omega)]; exact u7.kw⟩, (f4.trans u7.fd).trans ⟨fun c j x y z => g9 c j (by omega) (by omega), fun j _ _ => e2 j⟩, ?_⟩ fun _ => rfl
      · rw [e2] at y
        have hc := hc y
        refine zGd.same hs (u7.g y c hc.2) fun c' j p q => ?_
        unfold zVr
        rw [e9, e8, ab_mud, ab_mud, ab_mud, ab_mud, ← s8, show ab_w c = c from ab_wi (by omega) (by omega), u7.f c' j (by omega)]
      · rw [e2, e2, g9 7 4 (by omega) (by omega), u7.f 2 10 (by decide), u7.f 2 11 (by decide), u7.f 7 4 (by decide)]; exact ⟨c4.1, c4.2.same (by rw [es 4 (by decide), u7.f s 4 (by omega)]) (fun c y q => by rw [g9 c y (by omega) (by omega), u7.f c y (by omega)]) (by rw [e2, u7.f 2 12 (by decide)]) (by rw [e2, u7.f 2 13 (by decide)])⟩
    have s74 : ∀ (l : ab_l) (μ5 : ab_m) (o5 k5 : Int), l 0 = 2 → zU s (∀ x, x ≤ 100 → zGd (zVr μ4 s (μ4 s 8) x) s) μ4 μ5 0 0 o5 k5 → (zTo (μ5 2 4 = 0) (zTo (k5 = 27) (o5 = 1))) → jj_mRe_tellRow X (d + 2) 74 l [] μ5 P := by
      intro l μ5 o5 k5 l0 u5 h5
      refine bk_mRe_tellRow_74 l0 (c_u_expect u5 (by decide) fun μ6 k6 u6 a6 => ?_)
      have u6' : zU s (∀ x, x ≤ 100 → zGd (zVr μ4 s (μ4 s 8) x) s) μ4 μ6 0 0 1 k6 := by
        by_cases z : μ6 2 4 = 0
        · have a := a6 z
          have := h5 a.1 a.2
          subst this
          exact u6.weak (by omega) (by omega)
        · exact u6.stop z _ _ _ _
      refine c_u_kind u6' fun r hr => ⟨fun q => ?_, fun q => c_u_misfit u6' fun μ7 z7 u7 => hP μ7 0 (bad _ _ _ _ _ (u7 _ _ _ _) ((u7 0 0 0 0).i.sf (Or.inl z7)))⟩
      have k32 : zU s (∀ x, x ≤ 100 → zGd (zVr μ4 s (μ4 s 8) x) s) μ4 μ6 0 0 1 32 := by
        rcases hr with hr | hr
        · exact u6'.stop hr.1 _ _ _ _
        · have : k6 = 32 := hr.2.1.symm.trans q
          rw [this] at u6'; exact u6'
      refine ⟨u6.at3, fun _ => c_u_soften k32 (by decide) u6.at3 fun μ7 z7 _ u7 => s131 _ μ7 _ l0 rfl u7 fun y => absurd y z7, fun p => ⟨fun p2 => s131 _ μ6 _ l0 rfl k32 fun _ => ⟨p, p2⟩, fun _ => c_u_soften k32 (by decide) u6.at3 fun μ7 z7 _ u7 => s131 _ μ7 _ l0 rfl u7 fun y => absurd y z7⟩⟩
    refine bk_mRe_tellRow_57 l0 (c_u_go (w := 1) u4 (fun z => by rw [k33 z]; decide) fun μ5 u5 _ _ => c_u_kind u5 fun r hr => ⟨fun q => s74 l μ5 0 _ l0 (u5.weak (by omega) (by omega)) fun z y => ?_, fun q => c_u_openOne u5 fun μ6 u6 => s74 l μ6 1 _ l0 (u6.weak (by omega) (by omega)) fun _ _ => rfl⟩)
    rcases hr with hr | hr
    · exact absurd z hr.1
    · exact absurd (hr.2.1.trans y) q
  refine bk_mRe_tellRow_0 rfl (c_u_go (w := 1) h.u (fun z => by rw [hk z]; decide) fun μ1 u1 _ _ => c_u_kind u1 fun r hr => ⟨fun q => ?_, fun q => c_u_misfit u1 fun μ2 z2 u2 => hP μ2 0 (h.of (u2 _ _ _ _))⟩)
  have D1 := h.of u1
  have k33 : μ1 2 4 = 0 → μ 4 (μ 2 3 + 1) = 33 := fun z => by
    rcases hr with hr | hr
    · exact absurd z hr.1
    · exact hr.2.1.symm.trans q
  rw [u1.i.sc]
  have nu := u1.i.nu
  refine ⟨u1.i.hs, c_u_tellName (kd := 1) D1.u fun μ2 μ3 u2 e3 => ?_⟩
  have g3 : ∀ c j, ¬ (c = 2 ∧ 3 ≤ j ∧ j ≤ 8) → ¬ (7 ≤ c ∧ c ≤ 10) → μ3 c j = μ1 c j := fun c j p q => by rw [e3.f c j (by omega) (by omega), u2.f c j p]
  have s83 : μ3 s 8 = μ1 s 8 := g3 s 8 (by omega) (by omega)
  have sc3 : μ3 2 2 = s := by rw [g3 2 2 (by omega) (by omega)]; exact u1.i.sc
  have i3 := u2.i.tell e3 fun q => absurd q (by decide)
  have e2 : ∀ j, μ3 2 j = μ2 2 j := fun j => e3.f 2 j (by omega) (by omega)
  have st : μ3 2 4 = 0 → μ1 2 4 = 0 := fun z => u2.run (by rw [← e2]; exact z)
  have f3 : zFd s μ0 μ3 := (D1.f.trans u2.fd).trans ⟨fun c j x y z => e3.f c j (by omega) (by omega), fun j _ _ => e2 j⟩
  have c3 : (μ3 2 10 = -1 ∧ μ3 2 11 = 0 ∧ μ3 7 4 = 0) ∧ zCh μ3 s := by
    rw [g3 2 10 (by omega) (by omega), g3 2 11 (by omega) (by omega), e3.f 7 4 (by omega) (by omega), u2.f 7 4 (by omega)]; exact ⟨D1.c.1, D1.c.2.same (g3 s 4 (by omega) (by omega)) (fun c y q => g3 c y (by omega) (by omega)) (g3 2 12 (by omega) (by omega)) (g3 2 13 (by omega) (by omega))⟩
  have u3 : ∀ G : Prop, (μ3 2 5 = 0 → G) → zU s G μ3 μ3 (0 - 1) (0 - 1) 0 _ := fun G g => ⟨i3, fun _ _ _ => rfl, id, id, g, by rw [e2, e2]; exact u2.op, by rw [e2, e2, e3.f 4 _ (by omega) (by omega)]; exact u2.kw⟩
  rw [sc3]
  refine ⟨u1.i.hs, fun q8 => s57 _ μ3 _ rfl (u3 _ fun y x hx => ?_) (fun z => k33 (st z)) f3 c3 (fun y => absurd y q8), fun q8 => c_u_soften (u3 True fun _ => trivial) (by decide) (u3 True fun _ => trivial).at3 fun μ4 z4 g4 u4 => s57 _ μ4 _ rfl (u4.base fun y => absurd y z4) (fun z => k33 (st (by rw [← g4 2 4 (by decide)]; exact z))) (f3.trans u4.fd) (by rw [g4 2 10 (by decide), g4 2 11 (by decide), g4 7 4 (by decide)]; exact ⟨c3.1, c3.2.same (g4 s 4 (by omega)) (fun c y q => g4 c y (by omega)) (g4 2 12 (by decide)) (g4 2 13 (by decide))⟩) fun _ => z4⟩
  rw [e2] at y
  have R : (if 7 < μ1 s 8 then 7 else μ1 s 8) = μ1 s 8 := if_neg (by omega)
  rw [R] at e3
  rw [s83]
  have g2 : zGd μ2 s := zGd.same hs (u2.g y) fun c j p _ => u2.f c j (by omega)
  have s82 : μ2 s 8 = μ1 s 8 := u2.f s 8 (by omega)
  refine zGd.tell hs (g2.row hs s82 hx) (e3.vr hs) ⟨fun q => absurd q (by decide), fun _ => ?_, fun q => absurd q (by decide)⟩
  rw [zVr_8]; omega
end K39

