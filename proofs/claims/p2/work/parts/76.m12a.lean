/-! THE REFERENCE, part 79: chains of leaps that wait -/
section M79
variable {μ μ' μ1 μ2 : ab_m} {w w' w1 w2 : Int → Int} {O O' r L : List Int} {dp dp' m m' x x' k o y j a q v : Int} {U U' : Int → Prop}
/-- a chain was told that it goes here -/
def lLc (μ μ' : ab_m) (L : List Int) : Prop := (∀ c j, ¬ (c = 146 ∧ j ∈ L) → μ' c j = μ c j) ∧ ∀ y ∈ L, μ' 146 y = μ 109 69
theorem lT.lc (h : lLc μ μ' L) (hL : ∀ i, w i = o ↔ i ∈ L) : lT μ μ' w (lLd w o) o := lT.land (fun i z => h.1 146 i fun y => z ((hL i).mpr y.2)) (h.1 109 69 (by omega)) (h.1 109 71 (by omega))
theorem lJ.lc (J : lJ μ w k dp x) (h : lLc μ μ' L) (hL : ∀ i, w i = o ↔ i ∈ L) (o0 : o ≠ 0) (o1 : o ≠ 100000) : lJ μ' (lLd w o) k dp x := J.land (fun c i _ _ z => h.1 c i fun y => z ⟨y.1, (hL i).mpr y.2⟩) (h.1 109 69 (by omega)) (h.1 109 71 (by omega)) (fun i z => h.2 i ((hL i).mp z)) o0 o1
/-- UNTIL: the breaks go here, and the DO is closed -/
theorem lQ.until (h : lQ μ w (6 :: r) dp m x U) (hL : ∀ i, w i = 2 * (r.length : Int) + 2 ↔ i ∈ L) (l : lLc μ μ' L) : ∃ w', lQ μ' w' r dp m x U := by
  have ll := lcs (a := 6) (r := r)
  have hb := h.b
  have ent := h.e _ _ (lAt_top (a := 6) (r := r))
  have t := lT.lc (o := 2 * (r.length : Int) + 2) l hL
  have J := h.j.lc l hL (by omega) (by omega)
  rw [ll] at J
  refine ⟨_, h.chg (J.popE (ent.g6.2.2.tr t (by omega) (by omega) (by omega)) (lLd_no (by omega))) t ⟨by omega, hb.2⟩ (fun j b z => ?_) (fun i a b => Or.inl ⟨b, by omega, l.1 158 i (by omega), l.1 160 i (by omega)⟩) fun c j z1 z2 => l.1 c j (by omega)⟩
  have := z.lt
  exact Or.inl ⟨Or.inr z, by omega, by omega, fun c z4 z5 => l.1 c j (by omega)⟩
/-- DO_TEST: the nexts go here -/
theorem lQ.test (h : lQ μ w (5 :: r) dp m x U) (hL : ∀ i, w i = 2 * (r.length : Int) + 1 ↔ i ∈ L) (l : lLc μ μ' L) : ∃ w', lQ μ' w' (6 :: r) dp m x U := by
  have ll := lcs (a := 5) (r := r)
  have l6 := lcs (a := 6) (r := r)
  have hb := h.b
  have ent := h.e _ _ (lAt_top (a := 5) (r := r))
  have t := lT.lc (o := 2 * (r.length : Int) + 1) l hL
  have J := h.j.lc l hL (by omega) (by omega)
  rw [ll, ← l6] at J
  refine ⟨_, h.chg J t ⟨by omega, hb.2⟩ (fun j b z => ?_) (fun i a b => Or.inl ⟨b, by omega, l.1 158 i (by omega), l.1 160 i (by omega)⟩) fun c j z1 z2 => l.1 c j (by omega)⟩
  rcases lAt_cons z with ⟨z1, z2⟩ | ⟨z1, z2, z3⟩
  · subst z1 z2
    obtain ⟨q1, q2, q3⟩ := ent.g5
    refine Or.inr ⟨by rw [l.1 157 _ (by omega)]; exact ent.1.tr t (by omega) (by omega) (by omega), ?_⟩
    rw [l.1 154 _ (by omega), l.1 155 _ (by omega), l.1 109 69 (by omega)]
    exact Or.inr (Or.inr (Or.inr (Or.inr (Or.inr (Or.inl ⟨rfl, q1, q2, lLd_no (by omega)⟩)))))
  · exact Or.inl ⟨Or.inr z1, by omega, by omega, fun c z4 z5 => l.1 c j (by omega)⟩
/-- WHILE_END: its leap and the breaks go here, and it is closed -/
theorem lQ.wend (h : lQ μ w (4 :: r) dp m x U) (e : μ1 = ab_mu μ 146 (μ 156 r.length) (μ 109 69)) (hL : ∀ i, w i = 2 * (r.length : Int) + 2 ↔ i ∈ L) (l : lLc μ1 μ' L) : ∃ w', lQ μ' w' r dp m x U := by
  have f : ∀ c i : Int, ¬ (c = 146 ∧ i = μ 156 r.length) → μ1 c i = μ c i := fun c i z => by rw [e, ab_mud, if_neg z]
  have ll := lcs (a := 4) (r := r)
  have hb := h.b
  have n : μ1 109 69 = μ 109 69 := f 109 69 (by omega)
  have rr : μ1 109 71 = μ 109 71 := f 109 71 (by omega)
  have ent := h.e _ _ (lAt_top (a := 4) (r := r))
  have sg := ent.g4.2.2
  have t1 : lT μ μ1 w (lLd w (2 * (r.length : Int) + 1)) (2 * (r.length : Int) + 1) := lT.land (fun i z => f 146 i (fun y => z ((sg i).mpr y.2))) n rr
  have J1 := h.j.land (μ' := μ1) (o := 2 * (r.length : Int) + 1) (fun c i _ _ z => f c i (fun y => z ⟨y.1, (sg i).mpr y.2⟩)) n rr (fun i z => by rw [(sg i).mp z, e, ab_mud, if_pos ⟨rfl, rfl⟩]) (by omega) (by omega)
  have hL' : ∀ i, lLd w (2 * (r.length : Int) + 1) i = 2 * (r.length : Int) + 2 ↔ i ∈ L := fun i => ((t1.s (2 * (r.length : Int) + 2) (by omega) (by omega) (by omega) i).1).trans (hL i)
  have t2 := lT.lc (o := 2 * (r.length : Int) + 2) l hL'
  have J2 := J1.lc l hL' (by omega) (by omega)
  have n1 : lNo (lLd (lLd w (2 * (r.length : Int) + 1)) (2 * (r.length : Int) + 2)) (2 * (r.length : Int) + 1) := (lLd_no (w := w) (o := 2 * (r.length : Int) + 1) (by omega)).tr t2 (by omega) (by omega) (by omega)
  rw [ll] at J2
  have J := J2.popE n1 (lLd_no (by omega))
  refine ⟨_, ⟨J, ⟨by omega, hb.2⟩, fun j a b => ((h.o j a b).le t1.r (f 152 j (by omega)) (f 153 j (by omega))).le t2.r (l.1 152 j (by omega)) (l.1 153 j (by omega)), fun j a z => ?_, fun i a b => ?_, fun y z => ?_⟩⟩
  · have := z.lt
    exact ((h.e j a (Or.inr z)).tr t1 (by omega) (by omega) (by omega) fun c z4 z5 => f c j (by omega)).tr t2 (by omega) (by omega) (by omega) fun c z4 z5 => l.1 c j (by omega)
  · exact ((h.f i a b).tr t1 (by omega) (by omega) (f 158 i (by omega)) (f 160 i (by omega))).tr t2 (by omega) (by omega) (l.1 158 i (by omega)) (l.1 160 i (by omega))
  · rw [l.1 151 y (by omega), f 151 y (by omega)]
    exact ((h.u y z).le t1.r).le t2.r
/-- a break: entry q's breaks wait for the leap that was laid last -/
theorem lQ.brk (h : lQ μ w O dp m x U) (x0 : 0 ≤ x ∧ x < 400) (hx : x = μ 109 69 - 1) (ha : lAt O q a) (a37 : 3 ≤ a ∧ a ≤ 6) (hd : μ 146 x = μ 157 q) (e : μ' = ab_mu μ 157 q x) : ∃ w', lQ μ' w' O dp m (-1) U := by
  have f : ∀ c i : Int, ¬ (c = 157 ∧ i = q) → μ' c i = μ c i := fun c i z => by rw [e, ab_mud, if_neg z]
  have eC : μ' 157 q = x := by rw [e, ab_mud, if_pos ⟨rfl, rfl⟩]
  have hb := h.b
  have ql := ha.lt
  have n : μ' 109 69 = μ 109 69 := f 109 69 (by omega)
  have rr : μ' 109 71 = μ 109 71 := f 109 71 (by omega)
  have ent := h.e _ _ ha
  have t : lT μ μ' w (lUp w x (2 * q + 2)) (2 * q + 2) := lT.link h.j (fun i => f 146 i (by omega)) n rr x0.1
  refine ⟨_, h.chg (h.j.link (fun c i a b => f c i (by omega)) n rr x0.1 (Int.le_refl _) (by omega) (Or.inl (by omega))) t hb (fun j b z => ?_) (fun i a b => Or.inl ⟨b, by omega, f 158 i (by omega), f 160 i (by omega)⟩) fun c j z1 z2 => f c j (by omega)⟩
  by_cases z1 : j = q
  · subst z1
    have := z.uq ha
    subst this
    refine Or.inr ⟨by rw [eC]; exact lC.link h.j ent.1 (by omega) (fun i => f 146 i (by omega)) x0 hx hd, ?_⟩
    rw [f 154 _ (by omega), f 155 _ (by omega), f 156 _ (by omega), n]
    have a3 : b = 3 ∨ b = 4 ∨ b = 5 ∨ b = 6 := by omega
    rcases a3 with z3 | z3 | z3 | z3 <;> subst z3
    · obtain ⟨q1, q2, q3⟩ := ent.g3
      exact Or.inr (Or.inr (Or.inl ⟨rfl, q1, q2, q3.tr t (by omega) (by omega) (by omega)⟩))
    · obtain ⟨q1, q2, q3⟩ := ent.g4
      exact Or.inr (Or.inr (Or.inr (Or.inl ⟨rfl, q1, q2, q3.tr t (by omega) (by omega) (by omega)⟩)))
    · obtain ⟨q1, q2, q3⟩ := ent.g5
      exact Or.inr (Or.inr (Or.inr (Or.inr (Or.inl ⟨rfl, q1, q2, q3.tr t (by omega) (by omega) (by omega)⟩))))
    · obtain ⟨q1, q2, q3⟩ := ent.g6
      exact Or.inr (Or.inr (Or.inr (Or.inr (Or.inr (Or.inl ⟨rfl, q1, q2, q3.tr t (by omega) (by omega) (by omega)⟩)))))
  · exact Or.inl ⟨z, by omega, by omega, fun c z4 z5 => f c j (by omega)⟩
/-- next in a DO -/
theorem lQ.nxt (h : lQ μ w O dp m x U) (x0 : 0 ≤ x ∧ x < 400) (hx : x = μ 109 69 - 1) (ha : lAt O q 5) (hd : μ 146 x = μ 156 q) (e : μ' = ab_mu μ 156 q x) : ∃ w', lQ μ' w' O dp m (-1) U := by
  have f : ∀ c i : Int, ¬ (c = 156 ∧ i = q) → μ' c i = μ c i := fun c i z => by rw [e, ab_mud, if_neg z]
  have eC : μ' 156 q = x := by rw [e, ab_mud, if_pos ⟨rfl, rfl⟩]
  have hb := h.b
  have ql := ha.lt
  have n : μ' 109 69 = μ 109 69 := f 109 69 (by omega)
  have rr : μ' 109 71 = μ 109 71 := f 109 71 (by omega)
  have ent := h.e _ _ ha
  have t : lT μ μ' w (lUp w x (2 * q + 1)) (2 * q + 1) := lT.link h.j (fun i => f 146 i (by omega)) n rr x0.1
  refine ⟨_, h.chg (h.j.link (fun c i a b => f c i (by omega)) n rr x0.1 (Int.le_refl _) (by omega) (Or.inl (by omega))) t hb (fun j b z => ?_) (fun i a b => Or.inl ⟨b, by omega, f 158 i (by omega), f 160 i (by omega)⟩) fun c j z1 z2 => f c j (by omega)⟩
  by_cases z1 : j = q
  · subst z1
    have := z.uq ha
    subst this
    obtain ⟨q1, q2, q3⟩ := ent.g5
    refine Or.inr ⟨by rw [f 157 _ (by omega)]; exact ent.1.tr t (by omega) (by omega) (by omega), ?_⟩
    rw [f 154 _ (by omega), f 155 _ (by omega), eC, n]
    exact Or.inr (Or.inr (Or.inr (Or.inr (Or.inl ⟨rfl, q1, q2, lC.link h.j q3 (by omega) (fun i => f 146 i (by omega)) x0 hx hd⟩))))
  · exact Or.inl ⟨z, by omega, by omega, fun c z4 z5 => f c j (by omega)⟩
/-- RETURN: frame q waits for the leap that was laid last -/
theorem lQ.ret (h : lQ μ w O dp m x U) (x0 : 0 ≤ x ∧ x < 400) (hx : x = μ 109 69 - 1) (hq : 0 ≤ q ∧ q < dp) (hd : μ 146 x = μ 160 q) (e : μ' = ab_mu μ 160 q x) : ∃ w', lQ μ' w' O dp m (-1) U := by
  have f : ∀ c i : Int, ¬ (c = 160 ∧ i = q) → μ' c i = μ c i := fun c i z => by rw [e, ab_mud, if_neg z]
  have eC : μ' 160 q = x := by rw [e, ab_mud, if_pos ⟨rfl, rfl⟩]
  have hb := h.b
  have n : μ' 109 69 = μ 109 69 := f 109 69 (by omega)
  have rr : μ' 109 71 = μ 109 71 := f 109 71 (by omega)
  have t : lT μ μ' w (lUp w x (-1 - q)) (-1 - q) := lT.link h.j (fun i => f 146 i (by omega)) n rr x0.1
  refine ⟨_, h.chg (h.j.link (fun c i a b => f c i (by omega)) n rr x0.1 (Int.le_refl _) (by omega) (Or.inr (by omega))) t hb (fun j b z => ?_) (fun i a b => ?_) fun c j z1 z2 => f c j (by omega)⟩
  · have := z.lt
    exact Or.inl ⟨z, by omega, by omega, fun c z4 z5 => f c j (by omega)⟩
  · by_cases z1 : i = q
    · subst z1
      obtain ⟨q1, q2⟩ := h.f i a b
      refine Or.inr ⟨by rw [f 158 i (by omega)]; exact q1.le (by omega), ?_⟩
      rw [eC]
      exact lC.link h.j q2 (by omega) (fun i => f 146 i (by omega)) x0 hx hd
    · exact Or.inl ⟨b, by omega, f 158 i (by omega), f 160 i (by omega)⟩
/-- DEF_END: the returns go here, and the frame is gone -/
theorem lQ.back (h : lQ μ w O dp m x U) (d1 : 1 ≤ dp) (hL : ∀ i, w i = -dp ↔ i ∈ L) (l : lLc μ μ' L) : ∃ w', lQ μ' w' O (dp - 1) m x U := by
  have hb := h.b
  have t := lT.lc (o := -dp) l hL
  have J := h.j.lc l hL (by omega) (by omega)
  refine ⟨_, h.chg (J.popF (lLd_no (by omega))) t ⟨hb.1, by omega⟩ (fun j b z => ?_) (fun i a b => Or.inl ⟨by omega, by omega, l.1 158 i (by omega), l.1 160 i (by omega)⟩) fun c j z1 z2 => l.1 c j (by omega)⟩
  have := z.lt
  exact Or.inl ⟨z, by omega, by omega, fun c z4 z5 => l.1 c j (by omega)⟩
/-- CALL: a frame more -/
theorem lQ.call (h : lQ μ w O dp m x U) (d1 : dp < 20) (f : ∀ c i, ¬ ((c = 158 ∨ c = 160) ∧ i = dp) → μ' c i = μ c i) (h1 : lR μ (μ' 158 dp)) (h2 : μ' 160 dp = -1) : lQ μ' w O (dp + 1) m x U := by
  have hb := h.b
  have t : lT μ μ' w w 0 := lT.up (by rw [f 109 69 (by omega)]; exact Int.le_refl _) (by rw [f 109 71 (by omega)]; exact Int.le_refl _) fun i => f 146 i (by omega)
  refine h.chg (h.j.up (fun c i a b => f c i (by omega)) (f 109 69 (by omega)) t.r (Int.le_refl _) (by omega)) t ⟨hb.1, by omega⟩ (fun j b z => ?_) (fun i a b => ?_) fun c j z1 z2 => f c j (by omega)
  · have := z.lt
    exact Or.inl ⟨z, by omega, by omega, fun c z4 z5 => f c j (by omega)⟩
  · by_cases z1 : i = dp
    · subst z1
      refine Or.inr ⟨h1.le t.r, ?_⟩
      rw [h2]
      exact lC.em fun i z => by have := (h.j.ow i (by omega)).2.2; omega
    · exact Or.inl ⟨by omega, by omega, f 158 i (by omega), f 160 i (by omega)⟩
end M79

