/-! THE REFERENCE, part 78: what each act of lower does to what it keeps -/
section M78
variable {μ μ' μ1 μ2 : ab_m} {w w' w1 w2 : Int → Int} {O O' r : List Int} {dp dp' m m' x x' k o y j a q v : Int} {U U' : Int → Prop}
theorem lT.trans (h : lT μ μ1 w w1 o) (h2 : lT μ1 μ2 w1 w2 o) : lT μ μ2 w w2 o := by
  refine ⟨Int.le_trans h.n h2.n, Int.le_trans h.r h2.r, fun o' a b c i => ?_⟩
  have s1 := h.s o' a b c i
  have s2 := h2.s o' a b c i
  exact ⟨s2.1.trans s1.1, fun z => (s2.2 (s1.1.mpr z)).trans (s1.2 z)⟩
theorem lQ.chg (h : lQ μ w O dp m x U) (J : lJ μ' w' O'.length dp' x') (t : lT μ μ' w w' o) (hb : ((O'.length : Int) ≤ 3010) ∧ 0 ≤ dp' ∧ dp' ≤ 20) (he : ∀ j a, lAt O' j a → (lAt O j a ∧ o ≠ 2 * j + 1 ∧ o ≠ 2 * j + 2 ∧ ∀ c, 154 ≤ c → c ≤ 157 → μ' c j = μ c j) ∨ lE μ' w' j a) (hf : ∀ i, 0 ≤ i → i < dp' → (i < dp ∧ o ≠ -1 - i ∧ μ' 158 i = μ 158 i ∧ μ' 160 i = μ 160 i) ∨ lF μ' w' i) (f5 : ∀ c j, 151 ≤ c → c ≤ 153 → μ' c j = μ c j) : lQ μ' w' O' dp' m x' U := by
  refine ⟨J, hb, fun j a b => (h.o j a b).le t.r (f5 152 j (by decide) (by decide)) (f5 153 j (by decide) (by decide)), fun j a z => ?_, fun i a b => ?_, fun y z => ?_⟩
  · rcases he j a z with ⟨z1, z2, z3, z4⟩ | z1
    · have l := z1.lt
      have hb := h.b.1
      exact (h.e j a z1).tr t z2 z3 (by omega) z4
    · exact z1
  · rcases hf i a b with ⟨z1, z2, z3, z4⟩ | z1
    · exact (h.f i a z1).tr t z2 (by omega) z3 z4
    · exact z1
  · rw [f5 151 y (by decide) (by decide)]; exact (h.u y z).le t.r
/-- nothing but registers, operands and ints -/
theorem lQ.up (h : lQ μ w O dp m x U) (f : ∀ c i, 145 ≤ c → c ≤ 150 → μ' c i = μ c i) (n : μ' 109 69 = μ 109 69) (r : μ 109 71 ≤ μ' 109 71) (ho : ∀ j, 0 ≤ j → j < m' → lOp μ' j) (he : ∀ c i, (154 ≤ c ∧ c ≤ 158) ∨ c = 160 → μ' c i = μ c i) (hu : ∀ y, U' y → lR μ' (μ' 151 y)) : lQ μ' w O dp m' x U' := by
  have t : lT μ μ' w w 0 := lT.up (by omega) r fun i => f 146 i (by decide) (by decide)
  refine ⟨h.j.up f n r (Int.le_refl _) (Int.le_refl _), h.b, ho, fun j a z => ?_, fun i a b => ?_, hu⟩
  · have l := z.lt
    have hb := h.b.1
    exact (h.e j a z).tr t (by omega) (by omega) (by omega) fun c z1 z2 => he c j (by omega)
  · have := h.b
    exact (h.f i a b).tr t (by omega) (by omega) (he 158 i (by omega)) (he 160 i (by omega))
theorem lQ.fr (h : lQ μ w O dp m x U) (f : ∀ c i, 145 ≤ c → c ≤ 160 → c ≠ 159 → μ' c i = μ c i) (n : μ' 109 69 = μ 109 69) (r : μ 109 71 ≤ μ' 109 71) (hm : m' ≤ m) : lQ μ' w O dp m' x U :=
  h.up (fun c i a b => f c i a (by omega) (by omega)) n r (fun j a b => (h.o j a (by omega)).le r (f 152 j (by decide) (by decide) (by decide)) (f 153 j (by decide) (by decide) (by decide))) (fun c i z => f c i (by omega) (by omega) (by omega)) fun y z => by
    rw [f 151 y (by decide) (by decide) (by decide)]; exact (h.u y z).le r
theorem lQ.push {v c : Int} (h : lQ μ w O dp m x U) (p : mOp μ μ' v c) (hm : μ 109 78 = m) (hc : c % 2 = 0 → lR μ v) : lQ μ' w O dp (m + 1) x U := by
  obtain ⟨p1, p2, p3, p4⟩ := p
  rw [hm] at p1 p3 p4
  have r : μ' 109 71 = μ 109 71 := p1 109 71 (by omega) (by omega)
  refine h.up (fun c i a b => p1 c i (by omega) (by omega)) (p1 109 69 (by omega) (by omega)) (by omega) (fun j a b => ?_) (fun c i z => p1 c i (by omega) (by omega)) fun y z => by
    rw [p1 151 y (by omega) (by omega)]; exact (h.u y z).le (by omega)
  by_cases e : j = m
  · subst e
    unfold lOp
    rw [p4, p3]
    by_cases z : c % 2 = 0
    · exact Or.inl ⟨z, (hc z).le (by omega)⟩
    · exact Or.inr (by omega)
  · exact (h.o j a (by omega)).le (by omega) (p1 152 j (by omega) (by omega)) (p1 153 j (by omega) (by omega))
theorem lQ.reg {T : Int} (h : lQ μ w O dp m x U) (e : μ' = ab_mu μ 151 T v) (hv : lR μ v) (hU : ∀ y, U' y → y = T ∨ U y) : lQ μ' w O dp m x U' := by
  have f : ∀ c i, c ≠ 151 → μ' c i = μ c i := fun c i z => by rw [e, mu_ne z]
  have r : μ' 109 71 = μ 109 71 := f 109 71 (by decide)
  refine h.up (fun c i a b => f c i (by omega)) (f 109 69 (by decide)) (by omega) (fun j a b => (h.o j a b).le (by omega) (f 152 j (by decide)) (f 153 j (by decide))) (fun c i z => f c i (by omega)) fun y z => ?_
  · by_cases q : y = T
    · subst q; rw [e, ab_mud, if_pos ⟨rfl, rfl⟩]; exact hv.le (by rw [mu_ne (by decide)]; exact Int.le_refl _)
    · have : μ' 151 y = μ 151 y := by rw [e, ab_mud, if_neg (fun z => q z.2)]
      rw [this]
      exact (h.u y ((hU y z).resolve_left q)).le (by omega)
theorem lQ.em {kk t a ia b ib : Int} (h : lQ μ w O dp m x U) (e : mEm μ μ' kk t a ia b ib) (c : lI μ' 0 (μ 109 69)) : lQ μ' w O dp m x U := by
  have hb := h.b
  refine h.chg (h.j.em e c) (lT.em h.j e) hb (fun j a z => Or.inl ⟨z, by have := z.lt; omega, by have := z.lt; omega, fun c z1 z2 => e.1 c j (by omega) (by omega)⟩) (fun i a b => Or.inl ⟨b, by omega, e.1 158 i (by omega) (by omega), e.1 160 i (by omega) (by omega)⟩) fun c j z1 z2 => e.1 c j (by omega) (by omega)
theorem lQ.emP {kk t a ia b ib : Int} (h : lQ μ w O dp m (-1) U) (e : mEm μ μ' kk t a ia b ib) (n0 : 0 ≤ μ 109 69) (c : lI μ' 1 (μ 109 69)) (lp : kk = 25 ∨ kk = 26 ∨ kk = 27) : lQ μ' (lUp w (μ 109 69) 100000) O dp m (μ 109 69) U := by
  have hb := h.b
  refine h.chg (h.j.emP e n0 c lp) (lT.emP h.j e) hb (fun j a z => Or.inl ⟨z, by have := z.lt; omega, by have := z.lt; omega, fun c z1 z2 => e.1 c j (by omega) (by omega)⟩) (fun i a b => Or.inl ⟨b, by omega, e.1 158 i (by omega) (by omega), e.1 160 i (by omega) (by omega)⟩) fun c j z1 z2 => e.1 c j (by omega) (by omega)
theorem lJ.no (h : lJ μ w k dp x) (a : 2 * k < o) (b : o ≠ 100000) (d0 : 0 ≤ k) : lNo w o := fun i z => by
  have := (h.ow i (by omega)).2.2
  omega
theorem lAt_cons {b : Int} (h : lAt (a :: r) j b) : (j = r.length ∧ b = a) ∨ (lAt r j b ∧ 0 ≤ j ∧ j < r.length) := h.imp (fun z => z) fun z => ⟨z, z.lt⟩
theorem lcs : ((a :: r : List Int).length : Int) = r.length + 1 := by simp
/-- one more lies open, nothing waits yet -/
theorem lQ.opnn {kk xa yb : Int} (h : lQ μ w O dp m x U) (p : mOu μ μ' kk xa yb) (hk : μ 109 83 = O.length) (hl : (O.length : Int) < 3010) (c : (a = 1 ∧ kk = 6 ∧ lR μ xa) ∨ (a = 3 ∧ kk = 19 ∧ 0 ≤ xa ∧ xa ≤ μ 109 69) ∨ (a = 5 ∧ kk = 21 ∧ (0 ≤ xa ∧ xa ≤ μ 109 69) ∧ yb = -1)) : lQ μ' w (a :: O) dp m x U := by
  obtain ⟨p1, p2, p3, p4, p5, p6⟩ := p
  rw [hk] at p1 p3 p4 p5 p6
  have l := lcs (a := a) (r := O)
  have hb := h.b
  have f : ∀ c i, (145 ≤ c ∧ c ≤ 153) ∨ c = 158 ∨ c = 160 → μ' c i = μ c i := fun c i z => p1 c i (by omega) (by omega)
  have n : μ' 109 69 = μ 109 69 := p1 109 69 (by omega) (by omega)
  have rr : μ' 109 71 = μ 109 71 := p1 109 71 (by omega) (by omega)
  have n1 : lNo w (2 * (O.length : Int) + 1) := h.j.no (by omega) (by omega) (by omega)
  have n2 : lNo w (2 * (O.length : Int) + 2) := h.j.no (by omega) (by omega) (by omega)
  refine h.chg (h.j.up (fun c i a b => f c i (by omega)) n (by omega) (by omega) (Int.le_refl _)) (lT.up (by omega) (by omega) fun i => f 146 i (by omega)) ⟨by omega, hb.2⟩ (fun j b z => ?_) (fun i a b => Or.inl ⟨b, by omega, f 158 i (by omega), f 160 i (by omega)⟩) fun c j z1 z2 => f c j (by omega)
  rcases lAt_cons z with ⟨z1, z2⟩ | ⟨z1, z2, z3⟩
  · subst z1 z2
    refine Or.inr ⟨by rw [p6]; exact lC.em n2, ?_⟩
    rw [p3, p4, p5, p6, n]
    rcases c with ⟨c1, c2, c3⟩ | ⟨c1, c2, c3⟩ | ⟨c1, c2, c3, c4⟩
    · exact Or.inl ⟨c1, c2, c3.le (by omega), n1, rfl⟩
    · exact Or.inr (Or.inr (Or.inl ⟨c1, c2, c3, n1⟩))
    · exact Or.inr (Or.inr (Or.inr (Or.inr (Or.inl ⟨c1, c2, c3, by rw [c4]; exact lC.em n1⟩))))
  · exact Or.inl ⟨z1, by omega, by omega, fun c z4 z5 => p1 c j (by omega) (by omega)⟩
/-- IF: it waits for the leap that was laid last -/
theorem lQ.openL {yb : Int} (h : lQ μ w O dp m x U) (p : mOu μ μ' 15 x yb) (hk : μ 109 83 = O.length) (hl : (O.length : Int) < 3010) (x0 : 0 ≤ x) : ∃ w', lQ μ' w' (7 :: O) dp m (-1) U := by
  obtain ⟨p1, p2, p3, p4, p5, p6⟩ := p
  rw [hk] at p1 p3 p4 p5 p6
  have l := lcs (a := 7) (r := O)
  have hb := h.b
  have f : ∀ c i, (145 ≤ c ∧ c ≤ 153) ∨ c = 158 ∨ c = 160 → μ' c i = μ c i := fun c i z => p1 c i (by omega) (by omega)
  have n : μ' 109 69 = μ 109 69 := p1 109 69 (by omega) (by omega)
  have rr : μ' 109 71 = μ 109 71 := p1 109 71 (by omega) (by omega)
  have n1 : lNo w (2 * (O.length : Int) + 1) := h.j.no (by omega) (by omega) (by omega)
  have n2 : lNo w (2 * (O.length : Int) + 2) := h.j.no (by omega) (by omega) (by omega)
  have t : lT μ μ' w (lUp w x (2 * (O.length : Int) + 1)) (2 * (O.length : Int) + 1) := lT.link h.j (fun i => f 146 i (by omega)) n rr x0
  refine ⟨_, h.chg (h.j.link (fun c i a b => f c i (by omega)) n rr x0 (by omega) (by omega) (Or.inl (by omega))) t ⟨by omega, hb.2⟩ (fun j b z => ?_) (fun i a b => Or.inl ⟨b, by omega, f 158 i (by omega), f 160 i (by omega)⟩) fun c j z1 z2 => f c j (by omega)⟩
  rcases lAt_cons z with ⟨z1, z2⟩ | ⟨z1, z2, z3⟩
  · subst z1 z2
    refine Or.inr ⟨by rw [p6]; exact lC.em (n2.tr t (by omega) (by omega) (by omega)), ?_⟩
    rw [p3, p4, p6]
    exact Or.inr (Or.inr (Or.inr (Or.inr (Or.inr (Or.inr ⟨rfl, rfl, lSg.link n1, rfl⟩)))))
  · exact Or.inl ⟨z1, by omega, by omega, fun c z4 z5 => p1 c j (by omega) (by omega)⟩
theorem lAt_top : lAt (a :: r) r.length a := Or.inl ⟨rfl, rfl⟩
/-- MID, WHILE: it waits for the leap that was laid last -/
theorem lQ.mid (h : lQ μ w (a :: r) dp m x U) (x0 : 0 ≤ x) (ha : a = 1 ∨ a = 3) (e : μ' = ab_mu μ 156 r.length x) : ∃ w', lQ μ' w' ((a + 1) :: r) dp m (-1) U := by
  have f : ∀ c i : Int, ¬ (c = 156 ∧ i = (r.length : Int)) → μ' c i = μ c i := fun c i z => by rw [e, ab_mud, if_neg z]
  have eB : μ' 156 r.length = x := by rw [e, ab_mud, if_pos ⟨rfl, rfl⟩]
  have l := lcs (a := a) (r := r)
  have l' := lcs (a := a + 1) (r := r)
  have hb := h.b
  have n : μ' 109 69 = μ 109 69 := f 109 69 (by omega)
  have rr : μ' 109 71 = μ 109 71 := f 109 71 (by omega)
  have ent := h.e _ _ (lAt_top (a := a) (r := r))
  have t : lT μ μ' w (lUp w x (2 * (r.length : Int) + 1)) (2 * (r.length : Int) + 1) := lT.link h.j (fun i => f 146 i (by omega)) n rr x0
  have no : lNo w (2 * (r.length : Int) + 1) := by
    rcases ha with z | z <;> subst z
    · exact ent.g1.2.2.1
    · exact ent.g3.2.2
  have sg : lSg (lUp w x (2 * (r.length : Int) + 1)) (2 * (r.length : Int) + 1) x := lSg.link no
  refine ⟨_, h.chg (h.j.link (fun c i a b => f c i (by omega)) n rr x0 (by omega) (by omega) (Or.inl (by omega))) t ⟨by omega, hb.2⟩ (fun j b z => ?_) (fun i a b => Or.inl ⟨b, by omega, f 158 i (by omega), f 160 i (by omega)⟩) fun c j z1 z2 => f c j (by omega)⟩
  rcases lAt_cons z with ⟨z1, z2⟩ | ⟨z1, z2, z3⟩
  · subst z1 z2
    refine Or.inr ⟨by rw [f 157 _ (by omega)]; exact ent.1.tr t (by omega) (by omega) (by omega), ?_⟩
    rw [f 154 _ (by omega), f 155 _ (by omega), f 157 _ (by omega), eB, n]
    rcases ha with z | z <;> subst z
    · obtain ⟨q1, q2, q3, q4⟩ := ent.g1
      exact Or.inr (Or.inl ⟨rfl, q1, q2.le (by omega), sg, q4⟩)
    · obtain ⟨q1, q2, q3⟩ := ent.g3
      exact Or.inr (Or.inr (Or.inr (Or.inl ⟨rfl, q1, q2, sg⟩)))
  · exact Or.inl ⟨Or.inr z1, by omega, by omega, fun c z4 z5 => f c j (by omega)⟩
/-- a single leap is told that it goes here, and what waited for it is closed -/
theorem lQ.shut {s : Int} (h : lQ μ w (a :: r) dp m x U) (ha : (a = 2 ∧ s = μ 156 r.length) ∨ (a = 7 ∧ s = μ 155 r.length)) (e : μ' = ab_mu μ 146 s (μ 109 69)) : ∃ w', lQ μ' w' r dp m x U := by
  have f : ∀ c i, ¬ (c = 146 ∧ i = s) → μ' c i = μ c i := fun c i z => by rw [e, ab_mud, if_neg z]
  have l := lcs (a := a) (r := r)
  have hb := h.b
  have n : μ' 109 69 = μ 109 69 := f 109 69 (by omega)
  have rr : μ' 109 71 = μ 109 71 := f 109 71 (by omega)
  have ent := h.e _ _ (lAt_top (a := a) (r := r))
  have c := ent.1
  have sg : lSg w (2 * (r.length : Int) + 1) s ∧ μ 157 r.length = -1 := by
    rcases ha with ⟨z, zs⟩ | ⟨z, zs⟩ <;> subst z
    · rw [zs]; exact ⟨ent.g2.2.2.1, ent.g2.2.2.2⟩
    · rw [zs]; exact ⟨ent.g7.2.1, ent.g7.2.2⟩
  obtain ⟨sg, cm⟩ := sg
  rw [cm] at c
  have t : lT μ μ' w (lLd w (2 * (r.length : Int) + 1)) (2 * (r.length : Int) + 1) := lT.land (fun i z => f 146 i (fun y => z ((sg i).mpr y.2))) n rr
  have J := h.j.land (μ' := μ') (o := 2 * (r.length : Int) + 1) (fun c i _ _ z => f c i (fun y => z ⟨y.1, (sg i).mpr y.2⟩)) n rr (fun i z => by rw [(sg i).mp z, e, ab_mud, if_pos ⟨rfl, rfl⟩]) (by omega) (by omega)
  rw [l] at J
  refine ⟨_, h.chg (J.popE (lLd_no (by omega)) (c.no.tr t (by omega) (by omega) (by omega))) t ⟨by omega, hb.2⟩ (fun j b z => ?_) (fun i a b => Or.inl ⟨b, by omega, f 158 i (by omega), f 160 i (by omega)⟩) fun c j z1 z2 => f c j (by omega)⟩
  have := z.lt
  exact Or.inl ⟨Or.inr z, by omega, by omega, fun c z4 z5 => f c j (by omega)⟩
/-- ELSE: the leap of IF goes here, it waits for the one that was laid last -/
theorem lQ.els (h : lQ μ w (7 :: r) dp m x U) (x0 : 0 ≤ x) (e1 : μ1 = ab_mu μ 146 (μ 155 r.length) (μ 109 69)) (e : μ' = ab_mu μ1 155 r.length x) : ∃ w', lQ μ' w' (7 :: r) dp m (-1) U := by
  have f1 : ∀ c i, ¬ (c = 146 ∧ i = μ 155 r.length) → μ1 c i = μ c i := fun c i z => by rw [e1, ab_mud, if_neg z]
  have f2 : ∀ c i : Int, ¬ (c = 155 ∧ i = (r.length : Int)) → μ' c i = μ1 c i := fun c i z => by rw [e, ab_mud, if_neg z]
  have eA : μ' 155 r.length = x := by rw [e, ab_mud, if_pos ⟨rfl, rfl⟩]
  have l := lcs (a := 7) (r := r)
  have hb := h.b
  have ent := h.e _ _ (lAt_top (a := 7) (r := r))
  have c := ent.1
  obtain ⟨k15, sg, cm⟩ := ent.g7
  have t1 : lT μ μ1 w (lLd w (2 * (r.length : Int) + 1)) (2 * (r.length : Int) + 1) := lT.land (fun i z => f1 146 i (fun y => z ((sg i).mpr y.2))) (f1 109 69 (by omega)) (f1 109 71 (by omega))
  have J1 := h.j.land (μ' := μ1) (o := 2 * (r.length : Int) + 1) (fun c i _ _ z => f1 c i (fun y => z ⟨y.1, (sg i).mpr y.2⟩)) (f1 109 69 (by omega)) (f1 109 71 (by omega)) (fun i z => by rw [(sg i).mp z, e1, ab_mud, if_pos ⟨rfl, rfl⟩]) (by omega) (by omega)
  have t2 : lT μ1 μ' (lLd w (2 * (r.length : Int) + 1)) (lUp (lLd w (2 * (r.length : Int) + 1)) x (2 * (r.length : Int) + 1)) (2 * (r.length : Int) + 1) := lT.link J1 (fun i => f2 146 i (by omega)) (f2 109 69 (by omega)) (f2 109 71 (by omega)) x0
  have t := t1.trans t2
  refine ⟨_, h.chg (J1.link (fun c i a b => f2 c i (by omega)) (f2 109 69 (by omega)) (f2 109 71 (by omega)) x0 (Int.le_refl _) (by omega) (Or.inl (by omega))) t ⟨by omega, hb.2⟩ (fun j b z => ?_) (fun i a b => Or.inl ⟨b, by omega, by rw [f2 158 i (by omega), f1 158 i (by omega)], by rw [f2 160 i (by omega), f1 160 i (by omega)]⟩) fun c j z1 z2 => by rw [f2 c j (by omega), f1 c j (by omega)]⟩
  rcases lAt_cons z with ⟨z1, z2⟩ | ⟨z1, z2, z3⟩
  · subst z1 z2
    have e4 : μ' 154 r.length = μ 154 r.length := by rw [f2 154 _ (by omega), f1 154 _ (by omega)]
    have e7 : μ' 157 r.length = μ 157 r.length := by rw [f2 157 _ (by omega), f1 157 _ (by omega)]
    refine Or.inr ⟨by rw [e7]; exact c.tr t (by omega) (by omega) (by omega), ?_⟩
    rw [eA, e4, e7]
    exact Or.inr (Or.inr (Or.inr (Or.inr (Or.inr (Or.inr ⟨rfl, k15, lSg.link (lLd_no (by omega)), cm⟩)))))
  · exact Or.inl ⟨Or.inr z1, by omega, by omega, fun c z4 z5 => by rw [f2 c j (by omega), f1 c j (by omega)]⟩
end M78

