/-! THE REFERENCE, part 79: chains of leaps that wait -/
section M79
variable {μ μ' μ1 μ2 : ab_m} {w w' w1 w2 : Int → Int} {O O' r L : List Int} {dp dp' m m' x x' k o y j a q v : Int} {U U' : Int → Prop}
/-- a chain was told that it goes here -/
def lLc (μ μ' : ab_m) (L : List Int) : Prop := (∀ c j, ¬ (c = 146 ∧ j ∈ L) → μ' c j = μ c j) ∧ ∀ y ∈ L, μ' 146 y = μ 109 69
theorem lT.lc (h : lLc μ μ' L) (hL : ∀ i, w i = o ↔ i ∈ L) : lT μ μ' w (lLd w o) o := lT.land (fun i z => h.1 146 i fun y => z ((hL i).mpr y.2)) (h.1 109 69 (by omega)) (h.1 109 71 (by omega))
theorem lJ.lc (J : lJ μ w k dp x) (h : lLc μ μ' L) (hL : ∀ i, w i = o ↔ i ∈ L) (o0 : o ≠ 0) (o1 : o ≠ 100000) : lJ μ' (lLd w o) k dp x := J.land (fun c i _ _ z => h.1 c i fun y => z ⟨y.1, (hL i).mpr y.2⟩) (h.1 109 69 (by omega)) (h.1 109 71 (by omega)) (fun i z => h.2 i ((hL i).mp z)) o0 o1
/-- UNTIL: the breaks go here, and the DO is closed -/
theorem lQ.until (h : lQ μ w (6 :: r) dp m x U) (hL : ∀ i, w i = 2 * (r.length : Int) + 2 ↔ i ∈ L) (l : lLc μ μ' L) : ∃ w', lQ μ' w' r dp m x U := by
  have ll := lcs (a := 6) (r := r)
  have hb := h.b
  have ent := h.e _ _ (lAt_top (a := 6) (r := r))
  have t := lT.lc (o := 2 * (r.length : Int) + 2) l hL
  have J := h.j.lc l hL (by omega) (by omega)
  rw [ll] at J
  refine ⟨_, h.chg (J.popE (ent.g6.2.2.tr t (by omega) (by omega) (by omega)) (lLd_no (by omega))) t ⟨by omega, hb.2⟩ (fun j b z => ?_) (fun i a b => Or.inl ⟨b, by omega, l.1 158 i (by omega), l.1 160 i (by omega)⟩) fun c j z1 z2 => l.1 c j (by omega)⟩
  have := z.lt
  exact Or.inl ⟨Or.inr z, by omega, by omega, fun c z4 z5 => l.1 c j (by omega)⟩
/-- DO_TEST: the nexts go here -/
theorem lQ.test (h : lQ μ w (5 :: r) dp m x U) (hL : ∀ i, w i = 2 * (r.length : Int) + 1 ↔ i ∈ L) (l : lLc μ μ' L) : ∃ w', lQ μ' w' (6 :: r) dp m x U := by
  have ll := lcs (a := 5) (r := r)
  have l6 := lcs (a := 6) (r := r)
  have hb := h.b
  have ent := h.e _ _ (lAt_top (a := 5) (r := r))
  have t := lT.lc (o := 2 * (r.length : Int) + 1) l hL
  have J := h.j.lc l hL (by omega) (by omega)
  rw [ll, ← l6] at J
  refine ⟨_, h.chg J t ⟨by omega, hb.2⟩ (fun j b z => ?_) (fun i a b => Or.inl ⟨b, by omega, l.1 158 i (by omega), l.1 160 i (by omega)⟩) fun c j z1 z2 => l.1 c j (by omega)⟩
  rcases lAt_cons z with ⟨z1, z2⟩ | ⟨z1, z2, z3⟩
  · subst z1 z2
    obtain ⟨q1, q2, q3⟩ := ent.g5
    refine Or.inr ⟨by rw [l.1 157 _ (by omega)]; exact ent.1.tr t (by omega) (by omega) (by omega), ?_⟩
    rw [l.1 154 _ (by omega), l.1 155 _ (by omega), l.1 109 69 (by omega)]
    exact Or.inr (Or.inr (Or.inr (Or.inr (Or.inr (Or.inl ⟨rfl, q1, q2, lLd_no (by omega)⟩)))))
  · exact Or.inl ⟨Or.inr z1, by omega, by omega, fun c z4 z5 => l.1 c j (by omega)⟩
/-- WHILE_END: its leap and the breaks go here, and it is closed -/
theorem lQ.wend (h : lQ μ w (4 :: r) dp m x U) (e : μ1 = ab_mu μ 146 (μ 156 r.length) (μ 109 69)) (hL : ∀ i, w i = 2 * (r.length : Int) + 2 ↔ i ∈ L) (l : lLc μ1 μ' L) : ∃ w', lQ μ' w' r dp m x U := by
  have f : ∀ c i : Int, ¬ (c = 146 ∧ i = μ 156 r.length) → μ1 c i = μ c i := fun c i z => by rw [e, ab_mud, if_neg z]
  have ll := lcs (a := 4) (r := r)
  have hb := h.b
  have n : μ1 109 69 = μ 109 69 := f 109 69 (by omega)
  have rr : μ1 109 71 = μ 109 71 := f 109 71 (by omega)
  have ent := h.e _ _ (lAt_top (a := 4) (r := r))
  have sg := ent.g4.2.2
  have t1 : lT μ μ1 w (lLd w (2 * (r.length : Int) + 1)) (2 * (r.length : Int) + 1) := lT.land (fun i z => f 146 i (fun y => z ((sg i).mpr y.2))) n rr
  have J1 := h.j.land (μ' := μ1) (o := 2 * (r.length : Int) + 1) (fun c i _ _ z => f c i (fun y => z ⟨y.1, (sg i).mpr y.2⟩)) n rr (fun i z => by rw [(sg i).mp z, e, ab_mud, if_pos ⟨rfl, rfl⟩]) (by omega) (by omega)
  have hL' : ∀ i, lLd w (2 * (r.length : Int) + 1) i = 2 * (r.length : Int) + 2 ↔ i ∈ L := fun i => ((t1.s (2 * (r.length : Int) + 2) (by omega) (by omega) (by omega) i).1).trans (hL i)
  have t2 := lT.lc (o := 2 * (r.length : Int) + 2) l hL'
  have J2 := J1.lc l hL' (by omega) (by omega)
  have n1 : lNo (lLd (lLd w (2 * (r.length : Int) + 1)) (2 * (r.length : Int) + 2)) (2 * (r.length : Int) + 1) := (lLd_no (w := w) (o := 2 * (r.length : Int) + 1) (by omega)).tr t2 (by omega) (by omega) (by omega)
  rw [ll] at J2
  have J := J2.popE n1 (lLd_no (by omega))
  refine ⟨_, ⟨J, ⟨by omega, hb.2⟩, fun j a b => ((h.o j a b).le t1.r (f 152 j (by omega)) (f 153 j (by omega))).le t2.r (l.1 152 j (by omega)) (l.1 153 j (by omega)), fun j a z => ?_, fun i a b => ?_, fun y z => ?_⟩⟩
  · have := z.lt
    exact ((h.e j a (Or.inr z)).tr t1 (by omega) (by omega) (by omega) fun c z4 z5 => f c j (by omega)).tr t2 (by omega) (by omega) (by omega) fun c z4 z5 => l.1 c j (by omega)
  · exact ((h.f i a b).tr t1 (by omega) (by omega) (f 158 i (by omega)) (f 160 i (by omega))).tr t2 (by omega) (by omega) (l.1 158 i (by omega)) (l.1 160 i (by omega))
  · rw [l.1 151 y (by omega), f 151 y (by omega)]
    exact ((h.u y z).le t1.r).le t2.r
/-- a break: entry q's breaks wait for the leap that was laid last -/
theorem lQ.brk (h : lQ μ w O dp m x U) (x0 : 0 ≤ x ∧ x < 400) (hx : x = μ 109 69 - 1) (ha : lAt O q a) (a37 : 3 ≤ a ∧ a ≤ 6) (hd : μ 146 x = μ 157 q) (e : μ' = ab_mu μ 157 q x) : ∃ w', lQ μ' w' O dp m (-1) U := by
  have f : ∀ c i : Int, ¬ (c = 157 ∧ i = q) → μ' c i = μ c i := fun c i z => by rw [e, ab_mud, if_neg z]
  have eC : μ' 157 q = x := by rw [e, ab_mud, if_pos ⟨rfl, rfl⟩]
  have hb := h.b
  have ql := ha.lt
  have n : μ' 109 69 = μ 109 69 := f 109 69 (by omega)
  have rr : μ' 109 71 = μ 109 71 := f 109 71 (by omega)
  have ent := h.e _ _ ha
  have t : lT μ μ' w (lUp w x (2 * q + 2)) (2 * q + 2) := lT.link h.j (fun i => f 146 i (by omega)) n rr x0.1
  refine ⟨_, h.chg (h.j.link (fun c i a b => f c i (by omega)) n rr x0.1 (Int.le_refl _) (by omega) (Or.inl (by omega))) t hb (fun j b z => ?_) (fun i a b => Or.inl ⟨b, by omega, f 158 i (by omega), f 160 i (by omega)⟩) fun c j z1 z2 => f c j (by omega)⟩
  by_cases z1 : j = q
  · subst z1
    have := z.uq ha
    subst this
    refine Or.inr ⟨by rw [eC]; exact lC.link h.j ent.1 (by omega) (fun i => f 146 i (by omega)) x0 hx hd, ?_⟩
    rw [f 154 _ (by omega), f 155 _ (by omega), f 156 _ (by omega), n]
    have a3 : b = 3 ∨ b = 4 ∨ b = 5 ∨ b = 6 := by omega
    rcases a3 with z3 | z3 | z3 | z3 <;> subst z3
    · obtain ⟨q1, q2, q3⟩ := ent.g3
      exact Or.inr (Or.inr (Or.inl ⟨rfl, q1, q2, q3.tr t (by omega) (by omega) (by omega)⟩))
    · obtain ⟨q1, q2, q3⟩ := ent.g4
      exact Or.inr (Or.inr (Or.inr (Or.inl ⟨rfl, q1, q2, q3.tr t (by omega) (by omega) (by omega)⟩)))
    · obtain ⟨q1, q2, q3⟩ := ent.g5
      exact Or.inr (Or.inr (Or.inr (Or.inr (Or.inl ⟨rfl, q1, q2, q3.tr t (by omega) (by omega) (by omega)⟩))))
    · obtain ⟨q1, q2, q3⟩ := ent.g6
      exact Or.inr (Or.inr (Or.inr (Or.inr (Or.inr (Or.inl ⟨rfl, q1, q2, q3.tr t (by omega) (by omega) (by omega)⟩)))))
  · exact Or.inl ⟨z, by omega, by omega, fun c z4 z5 => f c j (by omega)⟩
/-- next in a DO -/
theorem lQ.nxt (h : lQ μ w O dp m x U) (x0 : 0 ≤ x ∧ x < 400) (hx : x = μ 109 69 - 1) (ha : lAt O q 5) (hd : μ 146 x = μ 156 q) (e : μ' = ab_mu μ 156 q x) : ∃ w', lQ μ' w' O dp m (-1) U := by
  have f : ∀ c i : Int, ¬ (c = 156 ∧ i = q) → μ' c i = μ c i := fun c i z => by rw [e, ab_mud, if_neg z]
  have eC : μ' 156 q = x := by rw [e, ab_mud, if_pos ⟨rfl, rfl⟩]
  have hb := h.b
  have ql := ha.lt
  have n : μ' 109 69 = μ 109 69 := f 109 69 (by omega)
  have rr : μ' 109 71 = μ 109 71 := f 109 71 (by omega)
  have ent := h.e _ _ ha
  have t : lT μ μ' w (lUp w x (2 * q + 1)) (2 * q + 1) := lT.link h.j (fun i => f 146 i (by omega)) n rr x0.1
  refine ⟨_, h.chg (h.j.link (fun c i a b => f c i (by omega)) n rr x0.1 (Int.le_refl _) (by omega) (Or.inl (by omega))) t hb (fun j b z => ?_) (fun i a b => Or.inl ⟨b, by omega, f 158 i (by omega), f 160 i (by omega)⟩) fun c j z1 z2 => f c j (by omega)⟩
  by_cases z1 : j = q
  · subst z1
    have := z.uq ha
    subst this
    obtain ⟨q1, q2, q3⟩ := ent.g5
    refine Or.inr ⟨by rw [f 157 _ (by omega)]; exact ent.1.tr t (by omega) (by omega) (by omega), ?_⟩
    rw [f 154 _ (by omega), f 155 _ (by omega), eC, n]
    exact Or.inr (Or.inr (Or.inr (Or.inr (Or.inl ⟨rfl, q1, q2, lC.link h.j q3 (by omega) (fun i => f 146 i (by omega)) x0 hx hd⟩))))
  · exact Or.inl ⟨z, by omega, by omega, fun c z4 z5 => f c j (by omega)⟩
/-- RETURN: frame q waits for the leap that was laid last -/
theorem lQ.ret (h : lQ μ w O dp m x U) (x0 : 0 ≤ x ∧ x < 400) (hx : x = μ 109 69 - 1) (hq : 0 ≤ q ∧ q < dp) (hd : μ 146 x = μ 160 q) (e : μ' = ab_mu μ 160 q x) : ∃ w', lQ μ' w' O dp m (-1) U := by
  have f : ∀ c i : Int, ¬ (c = 160 ∧ i = q) → μ' c i = μ c i := fun c i z => by rw [e, ab_mud, if_neg z]
  have eC : μ' 160 q = x := by rw [e, ab_mud, if_pos ⟨rfl, rfl⟩]
  have hb := h.b
  have n : μ' 109 69 = μ 109 69 := f 109 69 (by omega)
  have rr : μ' 109 71 = μ 109 71 := f 109 71 (by omega)
  have t : lT μ μ' w (lUp w x (-1 - q)) (-1 - q) := lT.link h.j (fun i => f 146 i (by omega)) n rr x0.1
  refine ⟨_, h.chg (h.j.link (fun c i a b => f c i (by omega)) n rr x0.1 (Int.le_refl _) (by omega) (Or.inr (by omega))) t hb (fun j b z => ?_) (fun i a b => ?_) fun c j z1 z2 => f c j (by omega)⟩
  · have := z.lt
    exact Or.inl ⟨z, by omega, by omega, fun c z4 z5 => f c j (by omega)⟩
  · by_cases z1 : i = q
    · subst z1
      obtain ⟨q1, q2⟩ := h.f i a b
      refine Or.inr ⟨by rw [f 158 i (by omega)]; exact q1.le (by omega), ?_⟩
      rw [eC]
      exact lC.link h.j q2 (by omega) (fun i => f 146 i (by omega)) x0 hx hd
    · exact Or.inl ⟨b, by omega, f 158 i (by omega), f 160 i (by omega)⟩
/-- DEF_END: the returns go here, and the frame is gone -/
theorem lQ.back (h : lQ μ w O dp m x U) (d1 : 1 ≤ dp) (hL : ∀ i, w i = -dp ↔ i ∈ L) (l : lLc μ μ' L) : ∃ w', lQ μ' w' O (dp - 1) m x U := by
  have hb := h.b
  have t := lT.lc (o := -dp) l hL
  have J := h.j.lc l hL (by omega) (by omega)
  refine ⟨_, h.chg (J.popF (lLd_no (by omega))) t ⟨hb.1, by omega⟩ (fun j b z => ?_) (fun i a b => Or.inl ⟨by omega, by omega, l.1 158 i (by omega), l.1 160 i (by omega)⟩) fun c j z1 z2 => l.1 c j (by omega)⟩
  have := z.lt
  exact Or.inl ⟨z, by omega, by omega, fun c z4 z5 => l.1 c j (by omega)⟩
/-- CALL: a frame more -/
theorem lQ.call (h : lQ μ w O dp m x U) (d1 : dp < 20) (f : ∀ c i, ¬ ((c = 158 ∨ c = 160) ∧ i = dp) → μ' c i = μ c i) (h1 : lR μ (μ' 158 dp)) (h2 : μ' 160 dp = -1) : lQ μ' w O (dp + 1) m x U := by
  have hb := h.b
  have t : lT μ μ' w w 0 := lT.up (by rw [f 109 69 (by omega)]; exact Int.le_refl _) (by rw [f 109 71 (by omega)]; exact Int.le_refl _) fun i => f 146 i (by omega)
  refine h.chg (h.j.up (fun c i a b => f c i (by omega)) (f 109 69 (by omega)) t.r (Int.le_refl _) (by omega)) t ⟨hb.1, by omega⟩ (fun j b z => ?_) (fun i a b => ?_) fun c j z1 z2 => f c j (by omega)
  · have := z.lt
    exact Or.inl ⟨z, by omega, by omega, fun c z4 z5 => f c j (by omega)⟩
  · by_cases z1 : i = dp
    · subst z1
      refine Or.inr ⟨h1.le t.r, ?_⟩
      rw [h2]
      exact lC.em fun i z => by have := (h.j.ow i (by omega)).2.2; omega
    · exact Or.inl ⟨by omega, by omega, f 158 i (by omega), f 160 i (by omega)⟩
end M79

/-! THE REFERENCE, part 80: lowerValue -/
section M80
variable {X : jm_X} {d : Nat} {P : Int → ab_m → Prop} {μ0 μ μ' : ab_m} {O : List Int} {dp m : Int} {U : Int → Prop}
/-- what lower may write -/
def fLw (μ μ' : ab_m) : Prop := ∀ c j, ¬ (145 ≤ c ∧ c ≤ 160 ∧ c ≠ 159) → ¬ (c = 109 ∧ (j = 69 ∨ j = 71 ∨ j = 74 ∨ j = 78 ∨ j = 83)) → μ' c j = μ c j
end M80
def lB (μ0 μ : ab_m) : Prop := (fLw μ0 μ) ∧ (0 ≤ μ 109 69 ∧ μ 109 69 ≤ 400) ∧ (0 ≤ μ 109 71 ∧ μ 109 71 ≤ 300)
theorem lB.fr {μ0 μ : ab_m} (h'' : lB μ0 μ) : fLw μ0 μ := h''.1
theorem lB.n {μ0 μ : ab_m} (h'' : lB μ0 μ) : 0 ≤ μ 109 69 ∧ μ 109 69 ≤ 400 := h''.2.1
theorem lB.r {μ0 μ : ab_m} (h'' : lB μ0 μ) : 0 ≤ μ 109 71 ∧ μ 109 71 ≤ 300 := h''.2.2
section M80
variable {X : jm_X} {d : Nat} {P : Int → ab_m → Prop} {μ0 μ μ' : ab_m} {O : List Int} {dp m : Int} {U : Int → Prop}
theorem lB.self (h : lB μ0 μ) : lB μ μ := ⟨fun _ _ _ _ => rfl, h.n, h.r⟩
end M80
def lS (μ0 μ : ab_m) (O : List Int) (dp m : Int) (U : Int → Prop) : Prop := (lB μ0 μ) ∧ (μ 109 78 = m) ∧ (μ 109 83 = O.length) ∧ (μ 109 74 = 0 → ∃ w, lQ μ w O dp m (-1) U)
theorem lS.b {μ0 μ : ab_m} {O : List Int} {dp m : Int} {U : Int → Prop} (h'' : lS μ0 μ O dp m U) : lB μ0 μ := h''.1
theorem lS.n8 {μ0 μ : ab_m} {O : List Int} {dp m : Int} {U : Int → Prop} (h'' : lS μ0 μ O dp m U) : μ 109 78 = m := h''.2.1
theorem lS.k {μ0 μ : ab_m} {O : List Int} {dp m : Int} {U : Int → Prop} (h'' : lS μ0 μ O dp m U) : μ 109 83 = O.length := h''.2.2.1
theorem lS.q {μ0 μ : ab_m} {O : List Int} {dp m : Int} {U : Int → Prop} (h'' : lS μ0 μ O dp m U) : μ 109 74 = 0 → ∃ w, lQ μ w O dp m (-1) U := h''.2.2.2
section M80
variable {X : jm_X} {d : Nat} {P : Int → ab_m → Prop} {μ0 μ μ' : ab_m} {O : List Int} {dp m : Int} {U : Int → Prop}
theorem lS.self (h : lS μ0 μ O dp m U) : lS μ μ O dp m U := ⟨h.b.self, h.n8, h.k, h.q⟩
/-- what lower may write, the frames' own row too -/
def fLm (μ μ' : ab_m) : Prop := ∀ c j, ¬ (145 ≤ c ∧ c ≤ 160) → ¬ (c = 109 ∧ (j = 69 ∨ j = 71 ∨ j = 74 ∨ j = 78 ∨ j = 83)) → μ' c j = μ c j
theorem fLm.tr {μ1 μ2 : ab_m} (h : fLm μ μ1) (h2 : fLw μ1 μ2) : fLm μ μ2 := fun c j a b => by rw [h2 c j (by omega) b]; exact h c j a b
theorem lB.mu {c j v : Int} (h : lB μ0 μ) (e : μ' = ab_mu μ c j v) (hc : (145 ≤ c ∧ c ≤ 160 ∧ c ≠ 159) ∨ (c = 109 ∧ (j = 74 ∨ j = 78 ∨ j = 83))) : lB μ0 μ' := by
  have f : ∀ b i, ¬ (b = c ∧ i = j) → μ' b i = μ b i := fun b i z => by rw [e, ab_mud, if_neg z]
  refine ⟨fun b i z1 z2 => by rw [f b i (by omega)]; exact h.fr b i z1 z2, by rw [f 109 69 (by omega)]; exact h.n, by rw [f 109 71 (by omega)]; exact h.r⟩
theorem lB.op {v c : Int} (h : lB μ0 μ) (p : mOp μ μ' v c) : lB μ0 μ' := ⟨fun b i z1 z2 => by rw [p.1 b i (by omega) (by omega)]; exact h.fr b i z1 z2, by rw [p.1 109 69 (by omega) (by omega)]; exact h.n, by rw [p.1 109 71 (by omega) (by omega)]; exact h.r⟩
theorem lB.ou {k x y : Int} (h : lB μ0 μ) (p : mOu μ μ' k x y) : lB μ0 μ' := ⟨fun b i z1 z2 => by rw [p.1 b i (by omega) (by omega)]; exact h.fr b i z1 z2, by rw [p.1 109 69 (by omega) (by omega)]; exact h.n, by rw [p.1 109 71 (by omega) (by omega)]; exact h.r⟩
theorem c_lw_reg (hb : lB μ0 μ) (hP : ∀ r μ', lB μ0 μ' → (∀ c j, ¬ (c = 109 ∧ (j = 71 ∨ j = 74)) → μ' c j = μ c j) → μ 109 71 ≤ μ' 109 71 → (μ' 109 74 = 0 → μ 109 74 = 0 ∧ lR μ' r) → P r μ') : jj_mM_newRegister X d 0 (ab_la [109]) [] μ P := by
  have n := hb.n
  have r := hb.r
  refine c_mM_newRegister r (fun lt μ1 f e => ?_) fun μ1 e => ?_
  · refine hP _ μ1 ⟨fun b i z1 z2 => by rw [f b i (by omega)]; exact hb.fr b i z1 z2, by rw [f 109 69 (by omega)]; exact n, by omega⟩ (fun c j z => f c j (by omega)) (by omega) fun z => ⟨by rw [← f 109 74 (by omega)]; exact z, by omega, by omega⟩
  · obtain ⟨f, e⟩ := e
    exact hP _ μ1 ⟨fun b i z1 z2 => by rw [f b i (by omega)]; exact hb.fr b i z1 z2, by rw [f 109 69 (by omega)]; exact n, by rw [f 109 71 (by omega)]; exact r⟩ (fun c j z => f c j (by omega)) (by rw [f 109 71 (by omega)]; exact Int.le_refl _) fun z => by omega
theorem c_lw_emit {k t x ix y iy : Int} (hb : lB μ0 μ) (hP : ∀ r μ', lB μ0 μ' → (∀ c j, ¬ (145 ≤ c ∧ c ≤ 150) → ¬ (c = 109 ∧ (j = 69 ∨ j = 74)) → μ' c j = μ c j) → (0 ≤ r ∧ r < 400) → (μ' 109 74 = 0 → μ 109 74 = 0 ∧ r = μ 109 69 ∧ mEm μ μ' k t x ix y iy) → P r μ') : jj_mM_emit X d 0 (ab_la [109, k, t, x, ix, y, iy]) [] μ P := by
  have n := hb.n
  have r := hb.r
  refine c_mM_emit n (fun lt μ1 e => ?_) fun μ1 e => ?_
  · have f := e.1
    refine hP _ μ1 ⟨fun b i z1 z2 => by rw [f b i (by omega) (by omega)]; exact hb.fr b i z1 z2, by rw [e.2.1]; omega, by rw [f 109 71 (by omega) (by omega)]; exact r⟩ (fun c j z1 z2 => f c j (by omega) (by omega)) (by omega) fun z => ⟨by rw [← f 109 74 (by omega) (by omega)]; exact z, rfl, e⟩
  · obtain ⟨f, e⟩ := e
    exact hP _ μ1 ⟨fun b i z1 z2 => by rw [f b i (by omega)]; exact hb.fr b i z1 z2, by rw [f 109 69 (by omega)]; exact n, by rw [f 109 71 (by omega)]; exact r⟩ (fun c j z1 z2 => f c j (by omega)) (by omega) fun z => by omega
theorem c_lw_lay {r k : Int} (hb : lB μ0 μ) (hk : 0 ≤ k ∧ k < 9000) (hP : ∀ μ', lB μ0 μ' → (∀ c j, ¬ (145 ≤ c ∧ c ≤ 150) → ¬ (c = 109 ∧ (j = 69 ∨ j = 74)) → μ' c j = μ c j) → (μ' 109 74 = 0 → μ 109 74 = 0 ∧ mEm μ μ' (if μ 152 k = 0 then 1 else 0) r (μ 153 k) (μ 152 k) 0 0) → P 0 μ') : jj_mM_lay X (d + 1) 0 (ab_la [109, r, k]) [] μ P := by
  have n := hb.n
  have r := hb.r
  refine c_mM_lay hk n (fun lt μ1 e => ?_) fun μ1 e => ?_
  · have f := e.1
    refine hP μ1 ⟨fun b i z1 z2 => by rw [f b i (by omega) (by omega)]; exact hb.fr b i z1 z2, by rw [e.2.1]; omega, by rw [f 109 71 (by omega) (by omega)]; exact r⟩ (fun c j z1 z2 => f c j (by omega) (by omega)) fun z => ⟨by rw [← f 109 74 (by omega) (by omega)]; exact z, e⟩
  · obtain ⟨f, e⟩ := e
    exact hP μ1 ⟨fun b i z1 z2 => by rw [f b i (by omega)]; exact hb.fr b i z1 z2, by rw [f 109 69 (by omega)]; exact n, by rw [f 109 71 (by omega)]; exact r⟩ (fun c j z1 z2 => f c j (by omega)) fun z => by omega
theorem lI.of {o k t x ix y iy : Int} (e : mEm μ μ' k t x ix y iy) (hk : 0 ≤ k ∧ k ≤ 28) (ha : ix % 2 = 0 → (1 ≤ k ∧ k ≤ 22) ∨ k = 24 ∨ k = 26 ∨ k = 27 → lR μ x) (hb : iy % 2 = 0 → (2 ≤ k ∧ k ≤ 17) ∨ k = 22 → lR μ y) (hd : k ≤ 21 ∨ k = 23 → lR μ t) (hl : k = 25 ∨ k = 26 ∨ k = 27 → o ≠ 0 ∨ (0 ≤ t ∧ t ≤ μ 109 69)) (h1 : k = 21 → 0 ≤ y ∧ y < 8) (h2 : k = 22 → 0 ≤ t ∧ t < 8) (hc : (k = 1 → ix % 2 = 0) ∧ (k = 0 → ix % 2 ≠ 0)) : lI μ' o (μ 109 69) := by
  obtain ⟨f, e1, e2, e3, e4, e5, e6, e7⟩ := e
  have r : μ 109 71 ≤ μ' 109 71 := by rw [f 109 71 (by omega) (by omega)]; exact Int.le_refl _
  refine ⟨by rw [e2]; exact hk, fun q => ?_, fun q => ?_, fun q => ?_, fun q => ?_, fun q => ?_, fun q => ?_, ?_⟩
  · unfold mUA at q; rw [e2, e6] at q; rw [e4]; exact (ha q.1 q.2).le r
  · unfold mUB at q; rw [e2, e7] at q; rw [e5]; exact (hb q.1 q.2).le r
  · rw [e2] at q; rw [e3]; exact (hd q).le r
  · rw [e2] at q; rw [e3, e1]
    rcases hl q with z | z
    · exact Or.inl z
    · exact Or.inr ⟨z.1, Int.le_trans z.2 (by omega)⟩
  · rw [e2] at q; rw [e5]; exact h1 q
  · rw [e2] at q; rw [e3]; exact h2 q
  · rw [e2, e6]; exact hc
theorem tMv_v {k m h h' : Int} {s s' : List Int} (e : tMv k m h s = some (h', s')) : tHu k m h h' := tMv_u _ e
theorem hd_of {a : Int} {s : List Int} (h : s.head? = some a) : s = a :: s.tail := by
  cases s with
  | nil => cases h
  | cons x r => injection h with h; rw [h]; rfl
/-- what a step makes of what is open -/
theorem tMv_s {k m h h' : Int} {s s' : List Int} (e : tMv k m h s = some (h', s')) : (k = 6 → s' = 1 :: s) ∧ (k = 7 → ∃ r, s = 1 :: r ∧ s' = 2 :: r) ∧ (k = 8 → ∃ r, s = 2 :: r ∧ s' = r) ∧ (k = 15 → s' = 7 :: s) ∧ (k = 16 → ∃ r, s = 7 :: r ∧ s' = s) ∧ (k = 17 → ∃ r, s = 7 :: r ∧ s' = r) ∧ (k = 18 → s' = 3 :: s) ∧ (k = 19 → ∃ r, s = 3 :: r ∧ s' = 4 :: r) ∧ (k = 20 → ∃ r, s = 4 :: r ∧ s' = r) ∧ (k = 21 → s' = 5 :: s) ∧ (k = 22 → ∃ r, s = 5 :: r ∧ s' = 6 :: r) ∧ (k = 23 → ∃ r, s = 6 :: r ∧ s' = r) ∧ (k = 24 ∨ k = 25 → (4 ∈ s ∨ 5 ∈ s) ∧ ¬ 6 ∈ s ∧ s' = s) ∧ (k ≤ 5 ∨ (9 ≤ k ∧ k ≤ 14) ∨ 26 ≤ k → s' = s) := by
  have O1 : ∀ {a : Int} {l : List Int}, some (a, l) = some (h', s') → s' = l := fun z => by injection z with z; injection z with z1 z2; exact z2.symm
  have O2 : ∀ {C : Prop} [Decidable C] {a : Int} {l : List Int}, (if C then some (a, l) else none) = some (h', s') → C ∧ s' = l := fun {C} _ {a} {l} z => by
    by_cases q : C
    · rw [if_pos q] at z; exact ⟨q, O1 z⟩
    · rw [if_neg q] at z; cases z
  refine ⟨fun q => ?_, fun q => ?_, fun q => ?_, fun q => ?_, fun q => ?_, fun q => ?_, fun q => ?_, fun q => ?_, fun q => ?_, fun q => ?_, fun q => ?_, fun q => ?_, fun q => ?_, fun q => ?_⟩
  · subst q; exact O1 (show some (h, 1 :: s) = _ from e)
  · subst q
    obtain ⟨⟨-, q1⟩, q2⟩ := O2 (show (if 1 ≤ h ∧ s.head? = some 1 then some (h - 1, 2 :: s.tail) else none) = _ from e)
    exact ⟨_, hd_of q1, q2⟩
  · subst q
    obtain ⟨⟨-, q1⟩, q2⟩ := O2 (show (if 1 ≤ h ∧ s.head? = some 2 then some (h, s.tail) else none) = _ from e)
    exact ⟨_, hd_of q1, q2⟩
  · subst q; exact (O2 (show (if 1 ≤ h then some (h - 1, 7 :: s) else none) = _ from e)).2
  · subst q
    obtain ⟨q1, q2⟩ := O2 (show (if s.head? = some 7 then some (h, s) else none) = _ from e)
    exact ⟨_, hd_of q1, q2⟩
  · subst q
    obtain ⟨q1, q2⟩ := O2 (show (if s.head? = some 7 then some (h, s.tail) else none) = _ from e)
    exact ⟨_, hd_of q1, q2⟩
  · subst q; exact O1 (show some (h, 3 :: s) = _ from e)
  · subst q
    obtain ⟨⟨-, q1⟩, q2⟩ := O2 (show (if 1 ≤ h ∧ s.head? = some 3 then some (h - 1, 4 :: s.tail) else none) = _ from e)
    exact ⟨_, hd_of q1, q2⟩
  · subst q
    obtain ⟨q1, q2⟩ := O2 (show (if s.head? = some 4 then some (h, s.tail) else none) = _ from e)
    exact ⟨_, hd_of q1, q2⟩
  · subst q; exact O1 (show some (h, 5 :: s) = _ from e)
  · subst q
    obtain ⟨q1, q2⟩ := O2 (show (if s.head? = some 5 then some (h, 6 :: s.tail) else none) = _ from e)
    exact ⟨_, hd_of q1, q2⟩
  · subst q
    obtain ⟨⟨-, q1⟩, q2⟩ := O2 (show (if 1 ≤ h ∧ s.head? = some 6 then some (h - 1, s.tail) else none) = _ from e)
    exact ⟨_, hd_of q1, q2⟩
  · have : (if (4 ∈ s ∨ 5 ∈ s) ∧ ¬ 6 ∈ s then some (h, s) else none) = some (h', s') := by
      rcases q with q | q <;> subst q <;> exact e
    obtain ⟨⟨q1, q2⟩, q3⟩ := O2 this
    exact ⟨q1, q2, q3⟩
  · have u := (tMv_u _ e).1
    have c : k = 1 ∨ k = 2 ∨ k = 3 ∨ k = 4 ∨ k = 5 ∨ k = 9 ∨ k = 10 ∨ k = 11 ∨ k = 12 ∨ k = 13 ∨ k = 14 ∨ k = 26 ∨ k = 27 ∨ k = 28 := by omega
    rcases c with c | c | c | c | c | c | c | c | c | c | c | c | c | c <;> subst c
    · exact O1 (show some (h + 1, s) = _ from e)
    · exact O1 (show some (h + 1, s) = _ from e)
    · exact (O2 (show (if 1 ≤ h then some (h, s) else none) = _ from e)).2
    · exact (O2 (show (if 1 ≤ h then some (h, s) else none) = _ from e)).2
    · exact (O2 (show (if 2 ≤ h then some (h - 1, s) else none) = _ from e)).2
    · exact (O2 (show (if 0 ≤ m ∧ m ≤ h then some (h - m + 1, s) else none) = _ from e)).2
    · exact (O2 (show (if 1 ≤ h then some (h - 1, s) else none) = _ from e)).2
    · exact O1 (show some (h, s) = _ from e)
    · exact (O2 (show (if 1 ≤ h then some (h - 1, s) else none) = _ from e)).2
    · exact (O2 (show (if 2 ≤ h then some (h - 2, s) else none) = _ from e)).2
    · exact O1 (show some (h, s) = _ from e)
    · exact (O2 (show (if 1 ≤ h then some (h - 1, s) else none) = _ from e)).2
    · exact (O2 (show (if 1 ≤ h then some (h - 1, s) else none) = _ from e)).2
    · exact O1 (show some (h, s) = _ from e)
end M80

/-! THE REFERENCE, part 81: lowerValue -/
section M81
variable {X : jm_X} {d : Nat} {P : Int → ab_m → Prop} {μ0 μ : ab_m} {dp : Int} {U : Int → Prop}
set_option maxHeartbeats 1000000 in
theorem c_lw_value {k t or h h' v : Int} {s s' R : List Int} (hS : lS μ0 μ (s ++ R) dp (v + h) U) (z : μ 109 74 = 0) (k8 : 1 ≤ k ∧ k ≤ 8) (mv : tMv k 0 h s = some (h', s')) (v0 : 0 ≤ v) (h0 : 0 ≤ h) (top : v + h < 9000) (opn : ((s ++ R).length : Int) < 3010) (t2 : k = 2 → (0 ≤ t ∧ t < 3002) ∧ U t) (t3 : k = 3 → 0 ≤ t ∧ t < 8) (t4 : k = 4 → 18 ≤ t ∧ t ≤ 20) (t5 : k = 5 → 2 ≤ t ∧ t ≤ 17) (hP : ∀ μ', lS μ0 μ' (s' ++ R) dp (v + h') U → P 0 μ') : jj_mM_lowerValue X (d + 1) 0 (ab_la [109, k, t, or]) [] μ P := by
  have hb := hS.b
  have hm := hS.n8
  have hk := hS.k
  obtain ⟨w, Q⟩ := hS.q z
  have u := tMv_v mv
  obtain ⟨s6, s7, s8, -, -, -, -, -, -, -, -, -, -, ss⟩ := tMv_s mv
  have L1 : (ab_la [109, k, t, or]) 1 = k := rfl
  have L2 : (ab_la [109, k, t, or]) 2 = t := rfl
  have L3 : (ab_la [109, k, t, or]) 3 = or := rfl
  have n0 := hb.n
  -- an operation on the operand or the two operands on top
  have opr : ∀ (kk a ia b ib : Int) (μ1 : ab_m) (mm : Int), 2 ≤ kk → kk ≤ 21 → s' = s → v + h' = mm + 1 → 0 ≤ mm → mm < 9000 → mm ≤ v + h → μ1 = ab_mu μ 109 78 mm → (ia % 2 = 0 → lR μ a) → (ib % 2 = 0 → kk ≤ 17 → lR μ b) → (kk = 21 → 0 ≤ b ∧ b < 8) → ∀ (r : Int) (μ2 : ab_m), lB μ0 μ2 → (∀ c j, ¬ (c = 109 ∧ (j = 71 ∨ j = 74)) → μ2 c j = μ1 c j) → μ1 109 71 ≤ μ2 109 71 → (μ2 109 74 = 0 → μ1 109 74 = 0 ∧ lR μ2 r) → jj_mM_emit X d 0 (ab_la [109, kk, r, a, ia, b, ib]) [] μ2 (fun _ μ3 => jj_mM_giveOperand X d 0 (ab_la [109, r, 0]) [] μ3 (fun _ μ4 => P 0 μ4)) := by
    intro kk a ia b ib μ1 mm kk2 kk21 es eh m0 m9 mle e1 ha hbb h21 r μ2 b2 f2 r2 g2
    have f1 : ∀ c j, ¬ (c = 109 ∧ j = 78) → μ1 c j = μ c j := fun c j y => by rw [e1, ab_mud, if_neg y]
    have m1 : μ1 109 78 = mm := by rw [e1, ab_mud, if_pos ⟨rfl, rfl⟩]
    have m2 : μ2 109 78 = mm := by rw [f2 109 78 (by omega)]; exact m1
    refine c_lw_emit b2 fun r3 μ3 b3 f3 _ g3 => ?_
    have m3 : μ3 109 78 = mm := by rw [f3 109 78 (by omega) (by omega)]; exact m2
    refine c_mM_giveOperand (by omega) fun μ4 p4 => hP μ4 ⟨b3.op p4, by rw [p4.2.1, m3]; exact eh.symm, ?_, fun z4 => ?_⟩
    · rw [p4.1 109 83 (by omega) (by omega), f3 109 83 (by omega) (by omega), f2 109 83 (by omega), f1 109 83 (by omega), hk, es]
    · rw [p4.1 109 74 (by omega) (by omega)] at z4
      obtain ⟨z2, -, e3⟩ := g3 z4
      obtain ⟨-, lr⟩ := g2 z2
      have r1 : μ1 109 71 = μ 109 71 := f1 109 71 (by omega)
      have Q2 : lQ μ2 w (s ++ R) dp mm (-1) U := Q.fr (fun c i y1 y2 y3 => by rw [f2 c i (by omega), f1 c i (by omega)]) (by rw [f2 109 69 (by omega), f1 109 69 (by omega)]) (by omega) mle
      have Q3 := Q2.em e3 (lI.of e3 (by omega) (fun y _ => (ha y).le (by omega)) (fun y y2 => (hbb y (by omega)).le (by omega)) (fun _ => lr) (fun y => by omega) h21 (fun y => by omega) ⟨fun y => by omega, fun y => by omega⟩)
      have Q4 := Q3.push p4 m3 (fun _ => lr.le (by rw [f3 109 71 (by omega) (by omega)]; exact Int.le_refl _))
      rw [es, eh]
      exact ⟨w, Q4⟩
  have Wd : ab_w (v + h - 1) = v + h - 1 := ab_wi (by omega) (by omega)
  have Wd2 : ab_w (v + h - 2) = v + h - 2 := ab_wi (by omega) (by omega)
  refine bk_mM_lowerValue_0 rfl ?_
  rw [L1, L2, L3, hm, Wd, Wd2]
  refine ⟨⟨fun e => ?_, fun e => ?_, fun e => ?_, fun e => ?_, fun e => ?_, fun e => ?_, fun e => ?_, trivial⟩, fun e => ?_⟩
  · -- NUMBER
    have es := ss (by omega)
    have eh := u.2.1 (Or.inl e)
    refine c_mM_giveOperand (by omega) fun μ1 p1 => hP μ1 ⟨hb.op p1, by rw [p1.2.1, hm, eh]; omega, by rw [p1.1 109 83 (by omega) (by omega), hk, es], fun _ => ⟨w, ?_⟩⟩
    have Q1 := Q.push p1 hm (fun y => absurd y (by decide))
    rw [es, eh, show v + (h + 1) = v + h + 1 by omega]
    exact Q1
  · -- INT
    have es := ss (by omega)
    have eh := u.2.1 (Or.inr e)
    obtain ⟨t2a, t2b⟩ := t2 e
    refine c_lw_reg hb fun r μ1 b1 f1 r1 g1 => ⟨t2a, c_lw_emit b1 fun r2 μ2 b2 f2 _ g2 => ?_⟩
    have m1 : μ1 109 78 = v + h := by rw [f1 109 78 (by omega)]; exact hm
    have m2 : μ2 109 78 = v + h := by rw [f2 109 78 (by omega) (by omega)]; exact m1
    refine c_mM_giveOperand (by omega) fun μ3 p3 => hP μ3 ⟨b2.op p3, by rw [p3.2.1, m2, eh]; omega, by rw [p3.1 109 83 (by omega) (by omega), f2 109 83 (by omega) (by omega), f1 109 83 (by omega), hk, es], fun z3 => ?_⟩
    rw [p3.1 109 74 (by omega) (by omega)] at z3
    obtain ⟨z1, -, e2⟩ := g2 z3
    obtain ⟨-, lr⟩ := g1 z1
    have Q1 : lQ μ1 w (s ++ R) dp (v + h) (-1) U := Q.fr (fun c i y1 y2 y3 => f1 c i (by omega)) (f1 109 69 (by omega)) r1 (Int.le_refl _)
    have Q2 := Q1.em e2 (lI.of e2 (by omega) (fun _ _ => Q1.u t t2b) (fun _ y => by omega) (fun _ => lr) (fun y => by omega) (fun y => by omega) (fun y => by omega) ⟨fun _ => rfl, fun y => by omega⟩)
    have Q3 := Q2.push p3 m2 (fun _ => lr.le (by rw [f2 109 71 (by omega) (by omega)]; exact Int.le_refl _))
    rw [es, eh, show v + (h + 1) = v + h + 1 by omega]
    exact ⟨w, Q3⟩
  · -- CELL
    have uh := u.2.2.1 (by omega)
    intro μ1 e1
    refine c_lw_reg (hb.mu e1 (by omega)) fun r μ2 b2 f2 r2 g2 => ?_
    have f1 : ∀ c j, ¬ (c = 109 ∧ j = 78) → μ1 c j = μ c j := fun c j y => by rw [e1, ab_mud, if_neg y]
    have m2 : μ2 109 78 = v + h - 1 := by rw [f2 109 78 (by omega), e1, ab_mud, if_pos ⟨rfl, rfl⟩]
    rw [m2, f2 153 _ (by omega), f2 152 _ (by omega), f1 153 _ (by omega), f1 152 _ (by omega)]
    exact ⟨by omega, by omega, opr 21 _ _ _ _ μ1 (v + h - 1) (by omega) (by omega) (ss (by omega)) (by omega) (by omega) (by omega) (by omega) e1 (fun y => (Q.o (v + h - 1) (by omega) (by omega)).r y) (fun _ y => by omega) (fun _ => t3 e) r μ2 b2 f2 r2 g2⟩
  · -- ONE
    have uh := u.2.2.1 (by omega)
    have tt := t4 e
    intro μ1 e1
    refine c_lw_reg (hb.mu e1 (by omega)) fun r μ2 b2 f2 r2 g2 => ?_
    have f1 : ∀ c j, ¬ (c = 109 ∧ j = 78) → μ1 c j = μ c j := fun c j y => by rw [e1, ab_mud, if_neg y]
    have m2 : μ2 109 78 = v + h - 1 := by rw [f2 109 78 (by omega), e1, ab_mud, if_pos ⟨rfl, rfl⟩]
    rw [m2, f2 153 _ (by omega), f2 152 _ (by omega), f1 153 _ (by omega), f1 152 _ (by omega)]
    exact ⟨by omega, by omega, opr t _ _ _ _ μ1 (v + h - 1) (by omega) (by omega) (ss (by omega)) (by omega) (by omega) (by omega) (by omega) e1 (fun y => (Q.o (v + h - 1) (by omega) (by omega)).r y) (fun _ y => by omega) (fun y => by omega) r μ2 b2 f2 r2 g2⟩
  · -- TWO
    have uh := u.2.2.2.1 (by omega)
    have uh2 := u.2.2.2.2.1 (by omega)
    have tt := t5 e
    intro μ1 e1
    refine c_lw_reg (hb.mu e1 (by omega)) fun r μ2 b2 f2 r2 g2 => ?_
    have f1 : ∀ c j, ¬ (c = 109 ∧ j = 78) → μ1 c j = μ c j := fun c j y => by rw [e1, ab_mud, if_neg y]
    have m2 : μ2 109 78 = v + h - 2 := by rw [f2 109 78 (by omega), e1, ab_mud, if_pos ⟨rfl, rfl⟩]
    rw [m2, show ab_w (v + h - 2 + 1) = v + h - 2 + 1 from ab_wi (by omega) (by omega)]
    rw [f2 153 _ (by omega), f2 152 _ (by omega), f1 153 _ (by omega), f1 152 _ (by omega), f2 153 _ (by omega), f2 152 _ (by omega), f1 153 _ (by omega), f1 152 _ (by omega)]
    exact ⟨by omega, by omega, by omega, by omega, opr t _ _ _ _ μ1 (v + h - 2) (by omega) (by omega) (ss (by omega)) (by omega) (by omega) (by omega) (by omega) e1 (fun y => (Q.o (v + h - 2) (by omega) (by omega)).r y) (fun y _ => (Q.o (v + h - 2 + 1) (by omega) (by omega)).r y) (fun y => by omega) r μ2 b2 f2 r2 g2⟩
  · -- BEGIN
    have es := s6 e
    have eh := u.2.2.2.2.2.1 (by omega)
    refine c_lw_reg hb fun r μ1 b1 f1 r1 g1 => ?_
    have go : ∀ (c : Int) (l : ab_l), l 0 = 109 → l 4 = r → jj_mM_lowerValue X (d + 1) 292 l [(0, c), (0, r), (0, 0), (2, 109)] μ1 P := by
      intro c l l0 l4
      refine bk_mM_lowerValue_292 l0 ?_
      rw [l4]
      refine c_lw_emit b1 fun r2 μ2 b2 f2 _ g2 => ?_
      have k2 : μ2 109 83 = ((s ++ R).length : Int) := by rw [f2 109 83 (by omega) (by omega), f1 109 83 (by omega)]; exact hk
      refine c_mM_openUp (by omega) fun μ3 p3 => hP μ3 ⟨b2.ou p3, by rw [p3.1 109 78 (by omega) (by omega), f2 109 78 (by omega) (by omega), f1 109 78 (by omega), hm, eh], by rw [p3.2.1, k2, es]; simp, fun z3 => ?_⟩
      rw [p3.1 109 74 (by omega) (by omega)] at z3
      obtain ⟨z1, -, e2⟩ := g2 z3
      obtain ⟨-, lr⟩ := g1 z1
      have Q1 : lQ μ1 w (s ++ R) dp (v + h) (-1) U := Q.fr (fun c i y1 y2 y3 => f1 c i (by omega)) (f1 109 69 (by omega)) r1 (Int.le_refl _)
      have Q2 := Q1.em e2 (lI.of e2 (by omega) (fun y => absurd y (by decide)) (fun _ y => by omega) (fun _ => lr) (fun y => by omega) (fun y => by omega) (fun y => by omega) ⟨fun y => by omega, fun _ => by decide⟩)
      have Q3 := Q2.opnn (a := 1) p3 k2 opn (Or.inl ⟨rfl, rfl, lr.le (by rw [f2 109 71 (by omega) (by omega)]; exact Int.le_refl _)⟩)
      rw [es, eh]
      exact ⟨w, Q3⟩
    exact ⟨fun y => by rw [y] at *; exact go 0 _ rfl rfl, fun y => go 1 _ rfl rfl⟩
  · -- MID
    obtain ⟨r, er, es⟩ := s7 e
    have uh := u.2.2.2.1 (by omega)
    intro μ1 e1
    have f1 : ∀ c j, ¬ (c = 109 ∧ j = 78) → μ1 c j = μ c j := fun c j y => by rw [e1, ab_mud, if_neg y]
    have m1 : μ1 109 78 = v + h - 1 := by rw [e1, ab_mud, if_pos ⟨rfl, rfl⟩]
    have lr : ((s ++ R).length : Int) = (r ++ R).length + 1 := by rw [er]; simp
    have kk : ab_w (μ1 109 83 - 1) = (r ++ R).length := by rw [f1 109 83 (by omega), hk, lr, ab_wi (by omega) (by omega)]; omega
    rw [kk]
    have go : ∀ (c : Int) (l : ab_l), l 0 = 109 → (c = 26 ∨ c = 27) → jj_mM_lowerValue X (d + 1) 344 l [(0, c), (2, 109), (0, ((r ++ R).length : Int)), (2, 156)] μ1 P := by
      intro c l l0 c67
      refine bk_mM_lowerValue_344 l0 ?_
      rw [m1, f1 153 _ (by omega), f1 152 _ (by omega)]
      refine ⟨by omega, by omega, c_lw_emit (hb.mu e1 (by omega)) fun r2 μ2 b2 f2 rb g2 => ⟨by omega, fun μ3 e3 => ?_⟩⟩
      have f3 : ∀ c j, c ≠ 156 → μ3 c j = μ2 c j := fun c j y => by rw [e3, mu_ne y]
      refine hP μ3 ⟨b2.mu e3 (by omega), by rw [f3 109 78 (by decide), f2 109 78 (by omega) (by omega), m1]; omega, by rw [f3 109 83 (by decide), f2 109 83 (by omega) (by omega), f1 109 83 (by omega), hk, lr, es]; simp, fun z3 => ?_⟩
      rw [f3 109 74 (by decide)] at z3
      obtain ⟨z1, er2, e2⟩ := g2 z3
      have Q1 : lQ μ1 w (s ++ R) dp (v + h - 1) (-1) U := Q.fr (fun c i y1 y2 y3 => f1 c i (by omega)) (f1 109 69 (by omega)) (by rw [f1 109 71 (by omega)]; exact Int.le_refl _) (by omega)
      have n1 : μ1 109 69 = μ 109 69 := f1 109 69 (by omega)
      have Q2 := Q1.emP e2 (by omega) (lI.of e2 (by omega) (fun y _ => ((Q.o (v + h - 1) (by omega) (by omega)).r y).le (by rw [f1 109 71 (by omega)]; exact Int.le_refl _)) (fun _ y => by omega) (fun y => by omega) (fun _ => Or.inl (by decide)) (fun y => by omega) (fun y => by omega) ⟨fun y => by omega, fun y => by omega⟩) (by omega)
      rw [er, List.cons_append] at Q2
      rw [← er2] at Q2
      obtain ⟨w3, Q3⟩ := Q2.mid rb.1 (Or.inl rfl) e3
      rw [es, show v + h' = v + h - 1 by omega]
      exact ⟨w3, Q3⟩
    exact ⟨fun _ => go 26 _ rfl (Or.inl rfl), fun _ => go 27 _ rfl (Or.inr rfl)⟩
  · -- END
    have e : k = 8 := by omega
    obtain ⟨r, er, es⟩ := s8 e
    have uh := u.2.2.1 (by omega)
    intro μ1 e1 μ2 e2
    have f1 : ∀ c j, ¬ (c = 109 ∧ j = 78) → μ1 c j = μ c j := fun c j y => by rw [e1, ab_mud, if_neg y]
    have m1 : μ1 109 78 = v + h - 1 := by rw [e1, ab_mud, if_pos ⟨rfl, rfl⟩]
    have lr : ((s ++ R).length : Int) = (r ++ R).length + 1 := by rw [er]; simp
    have kk : ab_w (μ1 109 83 - 1) = (r ++ R).length := by rw [f1 109 83 (by omega), hk, lr, ab_wi (by omega) (by omega)]; omega
    rw [kk] at e2
    have f2 : ∀ c j, ¬ (c = 109 ∧ j = 83) → μ2 c j = μ1 c j := fun c j y => by rw [e2, ab_mud, if_neg y]
    have k2 : μ2 109 83 = (r ++ R).length := by rw [e2, ab_mud, if_pos ⟨rfl, rfl⟩]
    have m2 : μ2 109 78 = v + h - 1 := by rw [f2 109 78 (by omega)]; exact m1
    have g2 : ∀ c j, c ≠ 109 → μ2 c j = μ c j := fun c j y => by rw [f2 c j (by omega), f1 c j (by omega)]
    have Q' := Q
    rw [er, List.cons_append] at Q'
    have ent := Q'.e _ _ lAt_top
    obtain ⟨q1, q2, q3, q4⟩ := ent.g2
    have bB := (Q'.j.ow (μ 156 (r ++ R).length) (by have := (q3 (μ 156 (r ++ R).length)).mpr rfl; omega)).1
    rw [k2, m2, g2 153 _ (by decide), g2 152 _ (by decide), g2 155 _ (by decide)]
    refine ⟨by omega, by omega, by omega, c_lw_emit ((hb.mu e1 (by omega)).mu e2 (by omega)) fun r3 μ3 b3 f3 _ g3 => ?_⟩
    have k3 : μ3 109 83 = (r ++ R).length := by rw [f3 109 83 (by omega) (by omega)]; exact k2
    have g3' : ∀ c j, 151 ≤ c → μ3 c j = μ c j := fun c j y => by rw [f3 c j (by omega) (by omega), g2 c j (by omega)]
    rw [k3, g3' 156 _ (by decide)]
    refine ⟨by omega, by omega, fun μ4 e4 => ?_⟩
    have f4 : ∀ c j, c ≠ 146 → μ4 c j = μ3 c j := fun c j y => by rw [e4, mu_ne y]
    rw [f4 109 83 (by decide), k3, f4 155 _ (by decide), g3' 155 _ (by decide)]
    have m4 : μ4 109 78 = v + h - 1 := by rw [f4 109 78 (by decide), f3 109 78 (by omega) (by omega)]; exact m2
    refine ⟨by omega, c_mM_giveOperand (by omega) fun μ5 p5 => hP μ5 ⟨(b3.mu e4 (by omega)).op p5, by rw [p5.2.1, m4]; omega, by rw [p5.1 109 83 (by omega) (by omega), f4 109 83 (by decide), k3, es], fun z5 => ?_⟩⟩
    rw [p5.1 109 74 (by omega) (by omega), f4 109 74 (by decide)] at z5
    obtain ⟨z2, -, e3⟩ := g3 z5
    have r2 : μ2 109 71 = μ 109 71 := by rw [f2 109 71 (by omega), f1 109 71 (by omega)]
    have r3 : μ3 109 71 = μ2 109 71 := f3 109 71 (by omega) (by omega)
    have Q2 : lQ μ2 w (2 :: (r ++ R)) dp (v + h - 1) (-1) U := Q'.fr (fun c i y1 y2 y3 => g2 c i (by omega)) (by rw [f2 109 69 (by omega), f1 109 69 (by omega)]) (by omega) (by omega)
    have Q3 := Q2.em e3 (lI.of e3 (by omega) (fun y _ => ((Q.o (v + h - 1) (by omega) (by omega)).r y).le (by omega)) (fun y => absurd y (by decide)) (fun _ => q2.le (by omega)) (fun y => by omega) (fun y => by omega) (fun y => by omega) ⟨fun y => by omega, fun y => by omega⟩)
    obtain ⟨w4, Q4⟩ := Q3.shut (μ' := μ4) (Or.inl ⟨rfl, rfl⟩) (by rw [g3' 156 _ (by decide)]; exact e4)
    have Q5 := Q4.push p5 m4 (fun _ => q2.le (by rw [f4 109 71 (by decide)]; omega))
    rw [es, show v + h' = v + h - 1 + 1 by omega]
    exact ⟨w4, Q5⟩
end M81

/-! THE REFERENCE, part 82: lowerStep -/
section M82
variable {X : jm_X} {d : Nat} {P : Int → ab_m → Prop} {μ0 μ μ' : ab_m} {dp m x o y : Int} {U U' : Int → Prop} {w : Int → Int} {O : List Int}
theorem lQ.sub (h : lQ μ w O dp m x U) (e : ∀ y, U' y → U y) : lQ μ w O dp m x U' := ⟨h.j, h.b, h.o, h.e, h.f, fun y z => h.u y (e y z)⟩
theorem lB.c146 (h : lB μ0 μ) (f : ∀ c j, c ≠ 146 → μ' c j = μ c j) : lB μ0 μ' := ⟨fun b i z1 z2 => by rw [f b i (by omega)]; exact h.fr b i z1 z2, by rw [f 109 69 (by omega)]; exact h.n, by rw [f 109 71 (by omega)]; exact h.r⟩
theorem c_lw_land (hC : μ 109 74 = 0 → lC μ w o y) (hP : ∀ μ', (∀ c j, c ≠ 146 → μ' c j = μ c j) → (μ 109 74 = 0 → ∃ L, (∀ i, w i = o ↔ i ∈ L) ∧ lLc μ μ' L) → P 0 μ') : jj_mM_landChain X d 0 (ab_la [109, y]) [] μ P := by
  by_cases z : μ 109 74 = 0
  · obtain ⟨L, l1, l2⟩ := hC z
    exact c_mM_landChain (L := L) (fun _ => l1) (fun q => absurd z q) fun _ μ' f g => hP μ' (fun c j q => f c j (fun p => q p.1)) fun _ => ⟨L, l2, f, g⟩
  · exact c_mM_landChain (L := []) (fun q => absurd q z) (fun _ => hP μ (fun _ _ _ => rfl) fun q => absurd q z) fun q => absurd q z
theorem lAt.ex : ∀ {O : List Int} {j : Int}, 0 ≤ j → j < (O.length : Int) → ∃ b, lAt O j b
  | [], j, a, b => by simp at b; omega
  | e :: r, j, a, b => by
    have l := lcs (a := e) (r := r)
    by_cases z : j = r.length
    · exact ⟨e, Or.inl ⟨z, rfl⟩⟩
    · obtain ⟨b', h⟩ := lAt.ex (O := r) (j := j) a (by omega)
      exact ⟨b', Or.inr h⟩
theorem lE.v {j a : Int} (h : lE μ w j a) : (1 ≤ a ∧ a ≤ 7) ∧ (a = 1 ∨ a = 2 ∨ a = 7 → μ 154 j ≠ 19 ∧ μ 154 j ≠ 21) ∧ (a = 3 ∨ a = 4 → μ 154 j = 19) ∧ (a = 5 ∨ a = 6 → μ 154 j = 21) := by
  rcases h.2 with q | q | q | q | q | q | q <;> (have q1 := q.1; have q2 := q.2.1; clear q h; omega)
/-- the innermost loop -/
theorem lLoop {R : List Int} : ∀ {s : List Int}, 4 ∈ s ∨ 5 ∈ s → ¬ 6 ∈ s → (∀ j b, lAt (s ++ R) j b → 1 ≤ b ∧ b ≤ 7) → ∃ q a, lAt (s ++ R) q a ∧ (a = 3 ∨ a = 4 ∨ a = 5) ∧ ∀ j b, q < j → lAt (s ++ R) j b → b = 1 ∨ b = 2 ∨ b = 7
  | [], h, _, _ => by rcases h with h | h <;> exact absurd h List.not_mem_nil
  | e :: r, h, n, v => by
    have ve := v _ _ (show lAt ((e :: r) ++ R) (r ++ R).length e from Or.inl ⟨rfl, rfl⟩)
    by_cases c : e = 3 ∨ e = 4 ∨ e = 5
    · refine ⟨((r ++ R).length : Int), e, Or.inl ⟨rfl, rfl⟩, c, fun j b z1 z2 => ?_⟩
      have := z2.lt
      have l := lcs (a := e) (r := r ++ R)
      have : (((e :: r) ++ R).length : Int) = (r ++ R).length + 1 := l
      omega
    · have n6 : e ≠ 6 := fun z => n (by rw [z]; exact List.mem_cons_self ..)
      have h' : 4 ∈ r ∨ 5 ∈ r := by
        rcases h with h | h
        · rcases List.mem_cons.mp h with z | z
          · omega
          · exact Or.inl z
        · rcases List.mem_cons.mp h with z | z
          · omega
          · exact Or.inr z
      obtain ⟨q, a, q1, q2, q3⟩ := lLoop h' (fun z => n (List.mem_cons_of_mem _ z)) fun j b z => v j b (Or.inr z)
      refine ⟨q, a, Or.inr q1, q2, fun j b z1 z2 => ?_⟩
      rcases z2 with ⟨z2, z3⟩ | z2
      · omega
      · exact q3 j b z1 z2
set_option maxHeartbeats 2000000 in
theorem c_lw_step {k t h h' v : Int} {s s' R : List Int} (hS : lS μ0 μ (s ++ R) dp (v + h) U) (z : μ 109 74 = 0) (k28 : 10 ≤ k ∧ k ≤ 28 ∧ k ≠ 26) (mv : tMv k 0 h s = some (h', s')) (v0 : 0 ≤ v) (h0 : 0 ≤ h) (top : v + h < 9000) (opn : ((s ++ R).length : Int) < 3010) (t11 : k = 11 ∨ k = 12 ∨ k = 28 → 0 ≤ t ∧ t < 3002) (tU : k = 12 ∨ k = 28 → U t) (t13 : k = 13 → 0 ≤ t ∧ t < 8) (hP : ∀ μ', lS μ0 μ' (s' ++ R) dp (v + h') (fun y => U y ∨ (k = 11 ∧ y = t)) → P 0 μ') : jj_mM_lowerStep X (d + 2) 0 (ab_la [109, k, t]) [] μ P := by
  have hb := hS.b
  have hm := hS.n8
  have hk := hS.k
  obtain ⟨w, Q⟩ := hS.q z
  have u := tMv_v mv
  obtain ⟨-, -, -, s15, s16, s17, s18, s19, s20, s21, s22, s23, s24, ss⟩ := tMv_s mv
  have L1 : (ab_la [109, k, t]) 1 = k := rfl
  have L2 : (ab_la [109, k, t]) 2 = t := rfl
  have n0 := hb.n
  have len0 : 0 ≤ ((s ++ R).length : Int) := by omega
  have fin : k ≠ 11 → ∀ (l : ab_l) (μ' : ab_m), l 0 = 109 → lB μ0 μ' → μ' 109 78 = v + h' → μ' 109 83 = ((s' ++ R).length : Int) → (μ' 109 74 = 0 → ∃ w, lQ μ' w (s' ++ R) dp (v + h') (-1) U) → jj_mM_lowerStep X (d + 2) 738 l [] μ' P := fun n11 l μ' l0 b1 m1 k1 q1 => bk_mM_lowerStep_738 l0 (hP μ' ⟨b1, m1, k1, fun y => by
    obtain ⟨w', Q'⟩ := q1 y
    exact ⟨w', Q'.sub fun y z => z.resolve_right fun q => n11 q.1⟩⟩)
  have Wd : ab_w (v + h - 1) = v + h - 1 := ab_wi (by omega) (by omega)
  have Wd2 : ab_w (v + h - 2) = v + h - 2 := ab_wi (by omega) (by omega)
  have Wk : ab_w (((s ++ R).length : Int) - 1) = (s ++ R).length - 1 := ab_wi (by omega) (by omega)
  have pop : ∀ {μ1 : ab_m} {mm : Int}, μ1 = ab_mu μ 109 78 mm → mm ≤ v + h → (∀ c j, ¬ (c = 109 ∧ j = 78) → μ1 c j = μ c j) ∧ μ1 109 78 = mm ∧ lQ μ1 w (s ++ R) dp mm (-1) U ∧ μ1 109 71 = μ 109 71 ∧ μ1 109 69 = μ 109 69 ∧ μ1 109 83 = (s ++ R).length := fun {μ1 mm} e1 le => by
    have f1 : ∀ c j, ¬ (c = 109 ∧ j = 78) → μ1 c j = μ c j := fun c j y => by rw [e1, ab_mud, if_neg y]
    have r1 := f1 109 71 (by omega)
    exact ⟨f1, by rw [e1, ab_mud, if_pos ⟨rfl, rfl⟩], Q.fr (fun c i y1 y2 y3 => f1 c i (by omega)) (f1 109 69 (by omega)) (by omega) le, r1, f1 109 69 (by omega), by rw [f1 109 83 (by omega)]; exact hk⟩
  have tl : ∀ {a : Int} {r : List Int}, s = a :: r → ((s ++ R).length : Int) - 1 = (r ++ R).length ∧ s ++ R = a :: (r ++ R) := fun {a r} e => by rw [e]; exact ⟨by simp, rfl⟩
  refine bk_mM_lowerStep_0 rfl ?_
  rw [L1, L2, hm, hk, Wd, Wd2, Wk]
  refine ⟨⟨fun e => ?_, fun e => ?_, fun e => ?_, fun e => ?_, fun e => ?_, fun e => ?_, fun e => ?_, fun e => ?_, fun e => ?_, fun e => ?_, fun e => ?_, fun e => ?_, fun e => ?_, fun e => ?_, fun e => ?_, fun e => ?_, fun e => ?_, fun e => ?_, fun e => ?_, trivial⟩, fun e => ?_⟩
  · -- 10 DROP
    intro μ1 e1
    have uh := u.2.2.2.1 (by omega)
    obtain ⟨f1, m1, Q1, -, -, k1⟩ := pop e1 (by omega)
    exact fin (by omega) _ μ1 rfl (hb.mu e1 (by omega)) (by omega) (by rw [k1, ss (by omega)]) fun _ => ⟨w, by rw [ss (by omega), show v + h' = v + h - 1 by omega]; exact Q1⟩
  · -- 11 NEW
    have uh := u.2.2.2.2.2.1 (by omega)
    have tt := t11 (by omega)
    refine c_lw_reg hb fun r μ1 b1 f1 r1 g1 => ⟨tt, fun μ2 e2 => ?_⟩
    have e2t : μ2 151 t = r := by rw [e2, ab_mud, if_pos ⟨rfl, rfl⟩]
    have f2 : ∀ c j, c ≠ 151 → μ2 c j = μ1 c j := fun c j y => by rw [e2, mu_ne y]
    rw [e2t]
    refine ⟨tt, c_lw_emit (b1.mu e2 (by omega)) fun r3 μ3 b3 f3 _ g3 => ?_⟩
    refine bk_mM_lowerStep_738 rfl (hP μ3 ⟨b3, by rw [f3 109 78 (by omega) (by omega), f2 109 78 (by decide), f1 109 78 (by omega), hm]; omega, by rw [f3 109 83 (by omega) (by omega), f2 109 83 (by decide), f1 109 83 (by omega), hk, ss (by omega)], fun z3 => ?_⟩)
    obtain ⟨z2, -, e3⟩ := g3 z3
    rw [f2 109 74 (by decide)] at z2
    obtain ⟨-, lr⟩ := g1 z2
    have Q1 : lQ μ1 w (s ++ R) dp (v + h) (-1) U := Q.fr (fun c i y1 y2 y3 => f1 c i (by omega)) (f1 109 69 (by omega)) r1 (Int.le_refl _)
    have Q2 := Q1.reg (U' := fun y => U y ∨ (k = 11 ∧ y = t)) e2 lr fun y q => q.elim Or.inr fun q => Or.inl q.2
    have Q3 := Q2.em e3 (lI.of e3 (by omega) (fun y => absurd y (by decide)) (fun _ y => by omega) (fun _ => lr.le (by rw [f2 109 71 (by decide)]; exact Int.le_refl _)) (fun y => by omega) (fun y => by omega) (fun y => by omega) ⟨fun y => by omega, fun _ => by decide⟩)
    rw [ss (by omega), show v + h' = v + h by omega]
    exact ⟨w, Q3⟩
  · -- 12 LET
    intro μ1 e1
    have uh := u.2.2.2.1 (by omega)
    obtain ⟨f1, m1, Q1, r1, n1, k1⟩ := pop e1 (by omega)
    rw [m1]
    refine ⟨t11 (by omega), c_lw_lay (hb.mu e1 (by omega)) (by omega) fun μ2 b2 f2 g2 => fin (by omega) _ μ2 rfl b2 (by rw [f2 109 78 (by omega) (by omega), m1]; omega) (by rw [f2 109 83 (by omega) (by omega), k1, ss (by omega)]) fun z2 => ?_⟩
    obtain ⟨-, e2⟩ := g2 z2
    have o1 : lOp μ1 (v + h - 1) := (Q.o (v + h - 1) (by omega) (by omega)).le (by omega) (f1 152 _ (by omega)) (f1 153 _ (by omega))
    have lt := Q1.u t (tU (by omega))
    rw [ss (by omega), show v + h' = v + h - 1 by omega]
    refine ⟨w, Q1.em e2 ?_⟩
    by_cases q : μ1 152 (v + h - 1) = 0
    · rw [if_pos q] at e2
      exact lI.of e2 (by omega) (fun y _ => o1.r y) (fun _ y => by omega) (fun _ => lt) (fun y => by omega) (fun y => by omega) (fun y => by omega) ⟨fun _ => by rw [q]; rfl, fun y => by omega⟩
    · rw [if_neg q] at e2
      exact lI.of e2 (by omega) (fun y _ => o1.r y) (fun _ y => by omega) (fun _ => lt) (fun y => by omega) (fun y => by omega) (fun y => by omega) ⟨fun y => by omega, fun _ y => q (o1.elim (fun p => p.1) fun p => by rw [p] at y; exact absurd y (by decide))⟩
  · -- 13 STORE
    intro μ1 e1
    have uh := u.2.2.2.2.1 (by omega)
    have uh2 := u.2.2.2.2.2.2.2 (by omega)
    have tt := t13 e
    obtain ⟨f1, m1, Q1, r1, n1, k1⟩ := pop e1 (by omega)
    rw [m1, show ab_w (v + h - 2 + 1) = v + h - 2 + 1 from ab_wi (by omega) (by omega)]
    refine ⟨by omega, by omega, by omega, by omega, c_lw_emit (hb.mu e1 (by omega)) fun r2 μ2 b2 f2 _ g2 => fin (by omega) _ μ2 rfl b2 (by rw [f2 109 78 (by omega) (by omega), m1]; omega) (by rw [f2 109 83 (by omega) (by omega), k1, ss (by omega)]) fun z2 => ?_⟩
    obtain ⟨-, -, e2⟩ := g2 z2
    have o1 : ∀ j, 0 ≤ j → j < v + h → lOp μ1 j := fun j a b => (Q.o j a b).le (by omega) (f1 152 _ (by omega)) (f1 153 _ (by omega))
    rw [ss (by omega), show v + h' = v + h - 2 by omega]
    exact ⟨w, Q1.em e2 (lI.of e2 (by omega) (fun y _ => (o1 _ (by omega) (by omega)).r y) (fun y _ => (o1 _ (by omega) (by omega)).r y) (fun y => by omega) (fun y => by omega) (fun y => by omega) (fun _ => tt) ⟨fun y => by omega, fun y => by omega⟩)⟩
  · -- 14 FUEL
    have uh := u.2.2.2.2.2.1 (by omega)
    exact fin (by omega) _ μ rfl hb (by rw [hm]; omega) (by rw [hk, ss (by omega)]) fun _ => ⟨w, by rw [ss (by omega), show v + h' = v + h by omega]; exact Q⟩
  · -- 15 IF
    intro μ1 e1
    have uh := u.2.2.2.1 (by omega)
    have es := s15 e
    obtain ⟨f1, m1, Q1, r1, n1, k1⟩ := pop e1 (by omega)
    rw [m1]
    refine ⟨by omega, by omega, c_lw_emit (hb.mu e1 (by omega)) fun r2 μ2 b2 f2 rb g2 => ?_⟩
    have k2 : μ2 109 83 = ((s ++ R).length : Int) := by rw [f2 109 83 (by omega) (by omega)]; exact k1
    refine c_mM_openUp (by omega) fun μ3 p3 => fin (by omega) _ μ3 rfl (b2.ou p3) (by rw [p3.1 109 78 (by omega) (by omega), f2 109 78 (by omega) (by omega), m1]; omega) (by rw [p3.2.1, k2, es]; simp) fun z3 => ?_
    rw [p3.1 109 74 (by omega) (by omega)] at z3
    obtain ⟨-, er, e2⟩ := g2 z3
    have o1 : lOp μ1 (v + h - 1) := (Q.o (v + h - 1) (by omega) (by omega)).le (by omega) (f1 152 _ (by omega)) (f1 153 _ (by omega))
    have Q2 := Q1.emP e2 (by omega) (lI.of e2 (by omega) (fun y _ => o1.r y) (fun _ y => by omega) (fun y => by omega) (fun _ => Or.inl (by decide)) (fun y => by omega) (fun y => by omega) ⟨fun y => by omega, fun y => by omega⟩) (by omega)
    rw [← er] at Q2
    rw [es, show v + h' = v + h - 1 by omega]
    exact Q2.openL p3 k2 opn rb.1
  · -- 16 ELSE
    obtain ⟨r, er, es⟩ := s16 e
    obtain ⟨tl1, tl2⟩ := tl er
    have uh := u.2.2.2.2.2.1 (by omega)
    rw [tl1]
    have Q' := Q
    rw [tl2] at Q'
    obtain ⟨q1, q2, q3⟩ := (Q'.e _ _ lAt_top).g7
    have bA := (Q'.j.ow (μ 155 (r ++ R).length) (by have := (q2 (μ 155 (r ++ R).length)).mpr rfl; omega)).1
    refine c_lw_emit hb fun r2 μ2 b2 f2 rb g2 => ?_
    have eA : μ2 155 (r ++ R).length = μ 155 (r ++ R).length := f2 155 _ (by omega) (by omega)
    rw [eA]
    refine ⟨by omega, by omega, fun μ3 e3 => ⟨by omega, fun μ4 e4 => ?_⟩⟩
    have f3 : ∀ c j, c ≠ 146 → μ3 c j = μ2 c j := fun c j y => by rw [e3, mu_ne y]
    have f4 : ∀ c j, c ≠ 155 → μ4 c j = μ3 c j := fun c j y => by rw [e4, mu_ne y]
    refine fin (by omega) _ μ4 rfl ((b2.mu e3 (by omega)).mu e4 (by omega)) (by rw [f4 109 78 (by decide), f3 109 78 (by decide), f2 109 78 (by omega) (by omega), hm]; omega) (by rw [f4 109 83 (by decide), f3 109 83 (by decide), f2 109 83 (by omega) (by omega), hk, es]) fun z4 => ?_
    rw [f4 109 74 (by decide), f3 109 74 (by decide)] at z4
    obtain ⟨-, er2, e2⟩ := g2 z4
    have Q2 := Q'.emP e2 n0.1 (lI.of e2 (by omega) (fun _ y => by omega) (fun _ y => by omega) (fun y => by omega) (fun _ => Or.inl (by decide)) (fun y => by omega) (fun y => by omega) ⟨fun y => by omega, fun y => by omega⟩) (by omega)
    rw [← er2] at Q2
    rw [es, tl2, show v + h' = v + h by omega]
    exact Q2.els (μ1 := μ3) rb.1 (by rw [eA]; exact e3) e4
  · -- 17 IF_END
    obtain ⟨r, er, es⟩ := s17 e
    obtain ⟨tl1, tl2⟩ := tl er
    have uh := u.2.2.2.2.2.1 (by omega)
    rw [tl1]
    have Q' := Q
    rw [tl2] at Q'
    obtain ⟨q1, q2, q3⟩ := (Q'.e _ _ lAt_top).g7
    have bA := (Q'.j.ow (μ 155 (r ++ R).length) (by have := (q2 (μ 155 (r ++ R).length)).mpr rfl; omega)).1
    refine ⟨by omega, by omega, fun μ2 e2 μ3 e3 => ?_⟩
    have f2 : ∀ c j, c ≠ 146 → μ2 c j = μ c j := fun c j y => by rw [e2, mu_ne y]
    have x83 : ab_w (μ2 109 83 - 1) = (r ++ R).length := by rw [f2 109 83 (by decide), hk, tl1]; exact ab_wi (by omega) (by omega)
    rw [x83] at e3
    have f3 : ∀ c j, ¬ (c = 109 ∧ j = 83) → μ3 c j = μ2 c j := fun c j y => by rw [e3, ab_mud, if_neg y]
    refine fin (by omega) _ μ3 rfl ((hb.mu e2 (by omega)).mu e3 (by omega)) (by rw [f3 109 78 (by omega), f2 109 78 (by decide), hm]; omega) (by rw [e3, ab_mud, if_pos ⟨rfl, rfl⟩, es]) fun z3 => ?_
    obtain ⟨w2, Q2⟩ := Q'.shut (Or.inr ⟨rfl, rfl⟩) e2
    rw [es, show v + h' = v + h by omega]
    exact ⟨w2, Q2.fr (fun c i y1 y2 y3 => f3 c i (by omega)) (f3 109 69 (by omega)) (by rw [f3 109 71 (by omega)]; exact Int.le_refl _) (Int.le_refl _)⟩
  · -- 18 TEST
    have es := s18 e
    have uh := u.2.2.2.2.2.1 (by omega)
    refine c_mM_openUp (by omega) fun μ1 p1 => fin (by omega) _ μ1 rfl (hb.ou p1) (by rw [p1.1 109 78 (by omega) (by omega), hm]; omega) (by rw [p1.2.1, hk, es]; simp) fun _ => ⟨w, ?_⟩
    rw [es, show v + h' = v + h by omega]
    exact Q.opnn (a := 3) p1 hk opn (Or.inr (Or.inl ⟨rfl, rfl, n0.1, Int.le_refl _⟩))
  · -- 19 WHILE
    obtain ⟨r, er, es⟩ := s19 e
    obtain ⟨tl1, tl2⟩ := tl er
    have uh := u.2.2.2.1 (by omega)
    intro μ1 e1
    obtain ⟨f1, m1, Q1, r1, n1, k1⟩ := pop e1 (by omega)
    rw [m1, tl1]
    refine ⟨by omega, by omega, c_lw_emit (hb.mu e1 (by omega)) fun r2 μ2 b2 f2 rb g2 => ⟨by omega, fun μ3 e3 => ?_⟩⟩
    have f3 : ∀ c j, c ≠ 156 → μ3 c j = μ2 c j := fun c j y => by rw [e3, mu_ne y]
    refine fin (by omega) _ μ3 rfl (b2.mu e3 (by omega)) (by rw [f3 109 78 (by decide), f2 109 78 (by omega) (by omega), m1]; omega) (by rw [f3 109 83 (by decide), f2 109 83 (by omega) (by omega), k1, tl2, es]; simp) fun z3 => ?_
    rw [f3 109 74 (by decide)] at z3
    obtain ⟨-, er2, e2⟩ := g2 z3
    have o1 : lOp μ1 (v + h - 1) := (Q.o (v + h - 1) (by omega) (by omega)).le (by omega) (f1 152 _ (by omega)) (f1 153 _ (by omega))
    have Q2 := Q1.emP e2 (by omega) (lI.of e2 (by omega) (fun y _ => o1.r y) (fun _ y => by omega) (fun y => by omega) (fun _ => Or.inl (by decide)) (fun y => by omega) (fun y => by omega) ⟨fun y => by omega, fun y => by omega⟩) (by omega)
    rw [← er2, tl2] at Q2
    rw [es, show v + h' = v + h - 1 by omega]
    exact Q2.mid rb.1 (Or.inr rfl) e3
  · -- 20 WHILE_END
    obtain ⟨r, er, es⟩ := s20 e
    obtain ⟨tl1, tl2⟩ := tl er
    have uh := u.2.2.2.2.2.1 (by omega)
    rw [tl1]
    have Q' := Q
    rw [tl2] at Q'
    obtain ⟨q1, q2, q3⟩ := (Q'.e _ _ lAt_top).g4
    have bB := (Q'.j.ow (μ 156 (r ++ R).length) (by have := (q3 (μ 156 (r ++ R).length)).mpr rfl; omega)).1
    refine ⟨by omega, c_lw_emit hb fun r2 μ2 b2 f2 rb g2 => ?_⟩
    have eB : μ2 156 (r ++ R).length = μ 156 (r ++ R).length := f2 156 _ (by omega) (by omega)
    rw [eB]
    refine ⟨by omega, by omega, fun μ3 e3 => ⟨by omega, ?_⟩⟩
    have f3 : ∀ c j, c ≠ 146 → μ3 c j = μ2 c j := fun c j y => by rw [e3, mu_ne y]
    have QQ : μ3 109 74 = 0 → lQ μ2 w (4 :: (r ++ R)) dp (v + h) (-1) U := fun y => by
      rw [f3 109 74 (by decide)] at y
      obtain ⟨-, -, e2⟩ := g2 y
      exact Q'.em e2 (lI.of e2 (by omega) (fun _ y => by omega) (fun _ y => by omega) (fun y => by omega) (fun _ => Or.inr q2) (fun y => by omega) (fun y => by omega) ⟨fun y => by omega, fun y => by omega⟩)
    refine c_lw_land (w := w) (o := 2 * ((r ++ R).length : Int) + 2) (fun y => ?_) fun μ4 f4 g4 μ5 e5 => ?_
    · have Q2 := QQ y
      have ent := Q2.e _ _ lAt_top
      have sg := ent.g4.2.2
      rw [f3 157 _ (by decide)]
      obtain ⟨L, l1, l2⟩ := ent.1
      refine ⟨L, l1.same fun i hi => ?_, l2⟩
      rw [e3, ab_mud, if_neg fun q => ?_]
      have a1 := (sg i).mpr (by rw [eB]; exact q.2)
      have a2 := (l2 i).mpr hi
      omega
    · have x83 : ab_w (μ4 109 83 - 1) = (r ++ R).length := by rw [f4 109 83 (by decide), f3 109 83 (by decide), f2 109 83 (by omega) (by omega), hk, tl1]; exact ab_wi (by omega) (by omega)
      rw [x83] at e5
      have f5 : ∀ c j, ¬ (c = 109 ∧ j = 83) → μ5 c j = μ4 c j := fun c j y => by rw [e5, ab_mud, if_neg y]
      refine fin (by omega) _ μ5 rfl (((b2.mu e3 (by omega)).c146 f4).mu e5 (by omega)) (by rw [f5 109 78 (by omega), f4 109 78 (by decide), f3 109 78 (by decide), f2 109 78 (by omega) (by omega), hm]; omega) (by rw [e5, ab_mud, if_pos ⟨rfl, rfl⟩, es]) fun z5 => ?_
      rw [f5 109 74 (by omega), f4 109 74 (by decide)] at z5
      obtain ⟨L, l2, lc⟩ := g4 z5
      obtain ⟨w4, Q4⟩ := (QQ z5).wend (μ1 := μ3) (by rw [eB]; exact e3) l2 lc
      rw [es, show v + h' = v + h by omega]
      exact ⟨w4, Q4.fr (fun c i y1 y2 y3 => f5 c i (by omega)) (f5 109 69 (by omega)) (by rw [f5 109 71 (by omega)]; exact Int.le_refl _) (Int.le_refl _)⟩
  · -- 21 DO
    have es := s21 e
    have uh := u.2.2.2.2.2.1 (by omega)
    refine c_mM_openUp (by omega) fun μ1 p1 => fin (by omega) _ μ1 rfl (hb.ou p1) (by rw [p1.1 109 78 (by omega) (by omega), hm]; omega) (by rw [p1.2.1, hk, es]; simp) fun _ => ⟨w, ?_⟩
    rw [es, show v + h' = v + h by omega]
    exact Q.opnn (a := 5) p1 hk opn (Or.inr (Or.inr ⟨rfl, rfl, ⟨n0.1, Int.le_refl _⟩, rfl⟩))
  · -- 22 DO_TEST
    obtain ⟨r, er, es⟩ := s22 e
    obtain ⟨tl1, tl2⟩ := tl er
    have uh := u.2.2.2.2.2.1 (by omega)
    rw [tl1]
    have Q' := Q
    rw [tl2] at Q'
    refine ⟨by omega, c_lw_land (w := w) (o := 2 * ((r ++ R).length : Int) + 1) (fun _ => (Q'.e _ _ lAt_top).g5.2.2) fun μ2 f2 g2 => fin (by omega) _ μ2 rfl (hb.c146 f2) (by rw [f2 109 78 (by decide), hm]; omega) (by rw [f2 109 83 (by decide), hk, tl2, es]; simp) fun z2 => ?_⟩
    obtain ⟨L, l2, lc⟩ := g2 z
    rw [es, show v + h' = v + h by omega]
    exact Q'.test l2 lc
  · -- 23 UNTIL
    obtain ⟨r, er, es⟩ := s23 e
    obtain ⟨tl1, tl2⟩ := tl er
    have uh := u.2.2.2.1 (by omega)
    intro μ1 e1
    obtain ⟨f1, m1, Q1, r1, n1, k1⟩ := pop e1 (by omega)
    rw [m1, tl1]
    rw [tl2] at Q1
    obtain ⟨q1, q2, q3⟩ := (Q1.e _ _ lAt_top).g6
    refine ⟨by omega, by omega, by omega, c_lw_emit (hb.mu e1 (by omega)) fun r2 μ2 b2 f2 rb g2 => ⟨by omega, ?_⟩⟩
    have o1 : lOp μ1 (v + h - 1) := (Q.o (v + h - 1) (by omega) (by omega)).le (by omega) (f1 152 _ (by omega)) (f1 153 _ (by omega))
    have QQ : μ2 109 74 = 0 → lQ μ2 w (6 :: (r ++ R)) dp (v + h - 1) (-1) U := fun y => by
      obtain ⟨-, -, e2⟩ := g2 y
      exact Q1.em e2 (lI.of e2 (by omega) (fun y _ => o1.r y) (fun _ y => by omega) (fun y => by omega) (fun _ => Or.inr q2) (fun y => by omega) (fun y => by omega) ⟨fun y => by omega, fun y => by omega⟩)
    refine c_lw_land (w := w) (o := 2 * ((r ++ R).length : Int) + 2) (fun y => ((QQ y).e _ _ lAt_top).1) fun μ3 f3 g3 μ4 e4 => ?_
    have x83 : ab_w (μ3 109 83 - 1) = (r ++ R).length := by rw [f3 109 83 (by decide), f2 109 83 (by omega) (by omega), k1, tl1]; exact ab_wi (by omega) (by omega)
    rw [x83] at e4
    have f4 : ∀ c j, ¬ (c = 109 ∧ j = 83) → μ4 c j = μ3 c j := fun c j y => by rw [e4, ab_mud, if_neg y]
    refine fin (by omega) _ μ4 rfl ((b2.c146 f3).mu e4 (by omega)) (by rw [f4 109 78 (by omega), f3 109 78 (by decide), f2 109 78 (by omega) (by omega), m1]; omega) (by rw [e4, ab_mud, if_pos ⟨rfl, rfl⟩, es]) fun z4 => ?_
    rw [f4 109 74 (by omega), f3 109 74 (by decide)] at z4
    obtain ⟨L, l2, lc⟩ := g3 z4
    obtain ⟨w4, Q4⟩ := (QQ z4).until l2 lc
    rw [es, show v + h' = v + h - 1 by omega]
    exact ⟨w4, Q4.fr (fun c i y1 y2 y3 => f4 c i (by omega)) (f4 109 69 (by omega)) (by rw [f4 109 71 (by omega)]; exact Int.le_refl _) (Int.le_refl _)⟩
  · -- 24 BREAK
    obtain ⟨l4, l6, es⟩ := s24 (Or.inl e)
    have uh := u.2.2.2.2.2.1 (by omega)
    obtain ⟨q, a, q1, q2, q3⟩ := lLoop l4 l6 fun j b y => (Q.e j b y).v.1
    have ql := q1.lt
    have ent := Q.e _ _ q1
    refine c_mM_loopOpen (q := q) (by omega) ql.1 (by omega) (by have := ent.v; omega) (fun j j1 j2 => ?_) ?_
    · obtain ⟨b, hb'⟩ := lAt.ex (O := s ++ R) (j := j) (by omega) (by omega)
      exact (Q.e _ _ hb').v.2.1 (q3 j b j1 hb')
    refine ⟨by omega, c_lw_emit hb fun r2 μ2 b2 f2 rb g2 => ⟨by omega, fun μ3 e3 => ?_⟩⟩
    have f3 : ∀ c j, c ≠ 157 → μ3 c j = μ2 c j := fun c j y => by rw [e3, mu_ne y]
    refine fin (by omega) _ μ3 rfl (b2.mu e3 (by omega)) (by rw [f3 109 78 (by decide), f2 109 78 (by omega) (by omega), hm]; omega) (by rw [f3 109 83 (by decide), f2 109 83 (by omega) (by omega), hk, es]) fun z3 => ?_
    rw [f3 109 74 (by decide)] at z3
    obtain ⟨-, er2, e2⟩ := g2 z3
    have Q2 := Q.emP e2 n0.1 (lI.of e2 (by omega) (fun _ y => by omega) (fun _ y => by omega) (fun y => by omega) (fun _ => Or.inl (by decide)) (fun y => by omega) (fun y => by omega) ⟨fun y => by omega, fun y => by omega⟩) (by omega)
    have d2 : μ2 146 r2 = μ2 157 q := by rw [er2, e2.2.2.2.1, f2 157 q (by omega) (by omega)]
    have n2 : r2 = μ2 109 69 - 1 := by rw [e2.2.1]; omega
    rw [← er2] at Q2
    rw [es, show v + h' = v + h by omega]
    exact Q2.brk rb n2 q1 (by omega) d2 e3
  · -- 25 NEXT
    obtain ⟨l4, l6, es⟩ := s24 (Or.inr e)
    have uh := u.2.2.2.2.2.1 (by omega)
    obtain ⟨q, a, q1, q2, q3⟩ := lLoop l4 l6 fun j b y => (Q.e j b y).v.1
    have ql := q1.lt
    have ent := Q.e _ _ q1
    have ev := ent.v
    refine c_mM_loopOpen (q := q) (by omega) ql.1 (by omega) (by omega) (fun j j1 j2 => ?_) ?_
    · obtain ⟨b, hb'⟩ := lAt.ex (O := s ++ R) (j := j) (by omega) (by omega)
      exact (Q.e _ _ hb').v.2.1 (q3 j b j1 hb')
    refine ⟨by omega, fun n19 => ⟨by omega, bk_mM_lowerStep_639 rfl (c_lw_emit hb fun r2 μ2 b2 f2 rb g2 => ⟨fun _ => ⟨?_, fun μ3 e3 => ?_⟩, fun y => absurd rfl y⟩)⟩, fun y19 => ⟨by omega, bk_mM_lowerStep_639 rfl (c_lw_emit hb fun r2 μ2 b2 f2 rb g2 => ⟨fun y => absurd (show (1 : Int) = 0 from y) (by decide), fun _ => ⟨?_, ?_, fun μ3 e3 => ?_⟩⟩)⟩⟩
    · show (0 : Int) ≤ q ∧ q < 3010
      omega
    · have a5 : a = 5 := by omega
      subst a5
      have e3 : μ3 = ab_mu μ2 156 q r2 := e3
      have f3 : ∀ c j, c ≠ 156 → μ3 c j = μ2 c j := fun c j y => by rw [e3, mu_ne y]
      refine fin (by omega) _ μ3 rfl (b2.mu e3 (by omega)) (by rw [f3 109 78 (by decide), f2 109 78 (by omega) (by omega), hm]; omega) (by rw [f3 109 83 (by decide), f2 109 83 (by omega) (by omega), hk, es]) fun z3 => ?_
      rw [f3 109 74 (by decide)] at z3
      obtain ⟨-, er2, e2⟩ := g2 z3
      have Q2 := Q.emP e2 n0.1 (lI.of e2 (by omega) (fun _ y => by omega) (fun _ y => by omega) (fun y => by omega) (fun _ => Or.inl (by decide)) (fun y => by omega) (fun y => by omega) ⟨fun y => by omega, fun y => by omega⟩) (by omega)
      have d2 : μ2 146 r2 = μ2 156 q := by rw [er2, e2.2.2.2.1, f2 156 q (by omega) (by omega)]
      have n2 : r2 = μ2 109 69 - 1 := by rw [e2.2.1]; omega
      rw [← er2] at Q2
      rw [es, show v + h' = v + h by omega]
      exact Q2.nxt rb n2 q1 d2 e3
    · show (0 : Int) ≤ q ∧ q < 3010
      omega
    · show (0 : Int) ≤ q ∧ q < 3010
      omega
    · have e3 : μ3 = ab_mu μ2 156 q (μ2 156 q) := e3
      have f3 : ∀ c j, μ3 c j = μ2 c j := fun c j => by
        rw [e3, ab_mud]
        by_cases y : c = 156 ∧ j = q
        · rw [if_pos y, y.1, y.2]
        · rw [if_neg y]
      have e3' : μ3 = μ2 := funext fun c => funext fun j => f3 c j
      subst e3'
      refine fin (by omega) _ μ3 rfl b2 (by rw [f2 109 78 (by omega) (by omega), hm]; omega) (by rw [f2 109 83 (by omega) (by omega), hk, es]) fun z3 => ?_
      obtain ⟨-, er2, e2⟩ := g2 z3
      have bA : 0 ≤ μ 155 q ∧ μ 155 q ≤ μ 109 69 := by
        rcases q2 with y | y | y
        · subst y; exact ent.g3.2.1
        · subst y; exact ent.g4.2.1
        · subst y; exact ent.g5.2.1
      rw [es, show v + h' = v + h by omega]
      exact ⟨w, Q.em e2 (lI.of e2 (by omega) (fun _ y => by omega) (fun _ y => by omega) (fun y => by omega) (fun _ => Or.inr bA) (fun y => by omega) (fun y => by omega) ⟨fun y => by omega, fun y => by omega⟩)⟩
  · omega
  · -- 27 PRINT
    intro μ1 e1
    have uh := u.2.2.2.1 (by omega)
    obtain ⟨f1, m1, Q1, r1, n1, k1⟩ := pop e1 (by omega)
    rw [m1]
    refine ⟨by omega, by omega, c_lw_emit (hb.mu e1 (by omega)) fun r2 μ2 b2 f2 _ g2 => fin (by omega) _ μ2 rfl b2 (by rw [f2 109 78 (by omega) (by omega), m1]; omega) (by rw [f2 109 83 (by omega) (by omega), k1, ss (by omega)]) fun z2 => ?_⟩
    obtain ⟨-, -, e2⟩ := g2 z2
    have o1 : lOp μ1 (v + h - 1) := (Q.o (v + h - 1) (by omega) (by omega)).le (by omega) (f1 152 _ (by omega)) (f1 153 _ (by omega))
    rw [ss (by omega), show v + h' = v + h - 1 by omega]
    exact ⟨w, Q1.em e2 (lI.of e2 (by omega) (fun y _ => o1.r y) (fun _ y => by omega) (fun y => by omega) (fun y => by omega) (fun y => by omega) (fun y => by omega) ⟨fun y => by omega, fun y => by omega⟩)⟩
  · -- 28 READ
    have uh := u.2.2.2.2.2.1 (by omega)
    refine ⟨t11 (by omega), c_lw_emit hb fun r2 μ2 b2 f2 _ g2 => fin (by omega) _ μ2 rfl b2 (by rw [f2 109 78 (by omega) (by omega), hm]; omega) (by rw [f2 109 83 (by omega) (by omega), hk, ss (by omega)]) fun z2 => ?_⟩
    obtain ⟨-, -, e2⟩ := g2 z2
    rw [ss (by omega), show v + h' = v + h by omega]
    exact ⟨w, Q.em e2 (lI.of e2 (by omega) (fun _ y => by omega) (fun _ y => by omega) (fun _ => Q.u t (tU (by omega))) (fun y => by omega) (fun y => by omega) (fun y => by omega) ⟨fun y => by omega, fun y => by omega⟩)⟩
  · omega
end M82

/-! THE REFERENCE, part 83: the frames of lower, lowerCall -/
section M83
variable {X : jm_X} {d : Nat} {P : Int → ab_m → Prop} {μ0 μ : ab_m} {g N dn dp : Int} {Γ : tQ} {U U' : Int → Prop} {O : List Int}
/-- the frames below: where they go on; p: the def at hand, v: the operands below it, R: what is open below it -/
def lFr (Γ : tQ) (N dn : Int) : List Int → Int → Int → List Int → Prop
  | [], p, v, R => p = dn ∧ v = 0 ∧ R = []
  | b :: bs, p, v, R => 0 ≤ b ∧ b < N ∧ p < Γ.2.2.2.1 b ∧ 1 ≤ Γ.1 b ∧ ∃ v' R', v = v' + Γ.1 b - 1 ∧ R = Γ.2.1 b ++ R' ∧ lFr Γ N dn bs (Γ.2.2.2.1 b) v' R'
theorem lFr.le (t : tW μ g Γ N dn) : ∀ {L : List Int} {p v : Int} {R : List Int}, lFr Γ N dn L p v R → 0 ≤ v ∧ (∀ k, 0 ≤ k → k < N → Γ.2.2.2.1 k = p → v + k ≤ N - 1 ∧ (R.length : Int) + Γ.2.2.1 k ≤ 3000) ∧ (L.length : Int) ≤ dn - p
  | [], p, v, R, h => ⟨by rw [h.2.1]; decide, fun k a b _ => by
      have := (t.mono a (show k ≤ N - 1 by omega) (by omega)).2
      have := t.w
      rw [h.2.1, h.2.2]
      exact ⟨by omega, by simp; omega⟩, by rw [h.1]; simp⟩
  | b :: bs, p, v, R, h => by
    obtain ⟨h1, h2, h3, h4, v', R', h5, h7, h6⟩ := h
    obtain ⟨i1, i2, i3⟩ := h6.le t
    have tr := t.tr h1 h2
    have hz := tr.hz
    have sw := tr.sw
    have h0 := tr.h0
    obtain ⟨ib, iw⟩ := i2 b h1 h2 rfl
    refine ⟨by omega, fun k a c e => ?_, by simp; omega⟩
    have kz := t.before a c h1 h2 (by omega)
    have := (t.mono a (show k ≤ Γ.2.2.2.2 b by omega) (by omega)).2
    refine ⟨by omega, ?_⟩
    rw [h7, List.length_append]
    omega
/-- where the frames go on -/
def lBk (μ : ab_m) : List Int → Prop
  | [] => True
  | b :: bs => μ 159 bs.length = b ∧ lBk μ bs
theorem lBk.same {μ μ' : ab_m} : ∀ {L : List Int}, lBk μ L → (∀ j, 0 ≤ j → j < (L.length : Int) → μ' 159 j = μ 159 j) → lBk μ' L
  | [], _, _ => trivial
  | b :: bs, h, f => ⟨by rw [f _ (by omega) (by simp; omega)]; exact h.1, h.2.same fun j a c => f j a (by simp; omega)⟩
/-- how much is left to lower -/
def lwM (Γ : tQ) (N : Int) : List Int → Nat
  | [] => 0
  | b :: bs => (N - b).toNat * (N.toNat + 1) ^ (Γ.2.2.2.1 b).toNat + lwM Γ N bs
theorem lwM_on {L : List Int} {k : Int} (h : k < N) (r : Γ.2.2.2.1 (k + 1) = Γ.2.2.2.1 k) : lwM Γ N ((k + 1) :: L) < lwM Γ N (k :: L) := by
  unfold lwM
  rw [r]
  have p : 0 < (N.toNat + 1) ^ (Γ.2.2.2.1 k).toNat := Nat.pow_pos (by omega)
  have := Nat.mul_lt_mul_of_pos_right (show (N - (k + 1)).toNat < (N - k).toNat by omega) p
  omega
theorem lwM_call {L : List Int} {k b : Int} (h : k < N) (r : Γ.2.2.2.1 (k + 1) = Γ.2.2.2.1 k) (b0 : 0 ≤ b) (rb : 0 ≤ Γ.2.2.2.1 b ∧ Γ.2.2.2.1 b < Γ.2.2.2.1 k) : lwM Γ N (b :: (k + 1) :: L) < lwM Γ N (k :: L) := by
  show (N - b).toNat * (N.toNat + 1) ^ (Γ.2.2.2.1 b).toNat + ((N - (k + 1)).toNat * (N.toNat + 1) ^ (Γ.2.2.2.1 (k + 1)).toNat + lwM Γ N L) < (N - k).toNat * (N.toNat + 1) ^ (Γ.2.2.2.1 k).toNat + lwM Γ N L
  rw [r]
  have l1 : (N - b).toNat ≤ N.toNat := by omega
  have l2 : (N - (k + 1)).toNat + 1 ≤ (N - k).toNat := by omega
  generalize N.toNat = B at *
  have p : 0 < (B + 1) ^ (Γ.2.2.2.1 b).toNat := Nat.pow_pos (by omega)
  have e1 : (N - b).toNat * (B + 1) ^ (Γ.2.2.2.1 b).toNat < (B + 1) ^ ((Γ.2.2.2.1 b).toNat + 1) := by
    rw [Nat.pow_succ, Nat.mul_comm ((B + 1) ^ (Γ.2.2.2.1 b).toNat)]
    exact Nat.mul_lt_mul_of_pos_right (by omega) p
  have e2 : (B + 1) ^ ((Γ.2.2.2.1 b).toNat + 1) ≤ (B + 1) ^ (Γ.2.2.2.1 k).toNat := Nat.pow_le_pow_right (by omega) (by omega)
  have e3 : ((N - (k + 1)).toNat + 1) * (B + 1) ^ (Γ.2.2.2.1 k).toNat ≤ (N - k).toNat * (B + 1) ^ (Γ.2.2.2.1 k).toNat := Nat.mul_le_mul_right _ l2
  rw [Nat.add_mul, Nat.one_mul] at e3
  omega
theorem lwM_back {L : List Int} {k b : Int} (h : k < N) : lwM Γ N (b :: L) < lwM Γ N (k :: b :: L) := by
  show lwM Γ N (b :: L) < (N - k).toNat * (N.toNat + 1) ^ (Γ.2.2.2.1 k).toNat + lwM Γ N (b :: L)
  have p : 0 < (N.toNat + 1) ^ (Γ.2.2.2.1 k).toNat := Nat.pow_pos (by omega)
  have := Nat.mul_pos (show 0 < (N - k).toNat by omega) p
  omega
/-- steps of one def begin at one place -/
theorem tW.zeq (t : tW μ g Γ N dn) {k : Int} (a : 0 ≤ k) : ∀ n : Nat, k + n < N → Γ.2.2.2.1 (k + n) = Γ.2.2.2.1 k → Γ.2.2.2.2 (k + n) = Γ.2.2.2.2 k := by
  intro n
  induction n with
  | zero => intro _ _; simp
  | succ n ih =>
    intro b e
    have e0 : k + ((n + 1 : Nat) : Int) = k + n + 1 := by omega
    rw [e0] at e b ⊢
    have m1 := (t.mono a (show k ≤ k + n by omega) (by omega)).1
    have m2 := (t.mono (show 0 ≤ k + n by omega) (show k + n ≤ k + n + 1 by omega) b).1
    have ih := ih (by omega) (by omega)
    rcases (t.k (k + n) (by omega) (by omega)).1.1 with h | h | h
    · have := h.2.2.2.2.2.2.1; omega
    · exact absurd h.1 (t.ns _ (by omega) (by omega))
    · rw [h.2.2.2, ih]
theorem tW.first (t : tW μ g Γ N dn) {j b : Int} (a : 0 ≤ j) (c : j < b) (e : b < N) (r : Γ.2.2.2.1 j = Γ.2.2.2.1 b) (z : Γ.2.2.2.2 b = b) : False := by
  have := t.zeq a (b - j).toNat (by rw [show j + ((b - j).toNat : Int) = b by omega]; exact e) (by rw [show j + ((b - j).toNat : Int) = b by omega]; exact r.symm)
  rw [show j + ((b - j).toNat : Int) = b by omega, z] at this
  have tr := t.tr a (show j < N by omega)
  have := tr.hz
  have := tr.h0
  omega
/-- the ints that have registers -/
def lU (μ : ab_m) (g dn : Int) (Γ : tQ) (pc : Int) (L : List Int) (y : Int) : Prop := tOk (tEv μ g dn) Γ pc y ∨ ∃ b ∈ L, tOk (tEv μ g dn) Γ b y
theorem lU.on {L : List Int} {pc y : Int} (r : Γ.2.2.2.1 (pc + 1) = Γ.2.2.2.1 pc) (h : lU μ g dn Γ (pc + 1) L y) : lU μ g dn Γ pc L y ∨ (μ 115 (9000 * g + pc) = 11 ∧ y = μ 116 (9000 * g + pc)) := by
  rcases h with h | h
  · rcases h with h | h | ⟨j, j0, j1, j2, j3, j4⟩
    · exact Or.inl (Or.inl (Or.inl h))
    · exact Or.inl (Or.inl (Or.inr (Or.inl (by rw [r] at h; exact h))))
    · by_cases e : j = pc
      · subst e; exact Or.inr ⟨j2, j4.symm⟩
      · exact Or.inl (Or.inl (Or.inr (Or.inr ⟨j, j0, by omega, j2, by rw [j3, r], j4⟩)))
  · exact Or.inl (Or.inr h)
theorem lU.into (t : tW μ g Γ N dn) {L : List Int} {pc b y T : Int} (r : Γ.2.2.2.1 (pc + 1) = Γ.2.2.2.1 pc) (s : μ 115 (9000 * g + pc) ≠ 11) (b0 : 0 ≤ b) (bN : b < N) (rb : Γ.2.2.2.1 b = T) (zb : Γ.2.2.2.2 b = b) (h : lU μ g dn Γ b ((pc + 1) :: L) y) : lU μ g dn Γ pc L y ∨ (μ 119 (16 * g + T) ≤ y ∧ y < μ 119 (16 * g + T) + μ 120 (16 * g + T)) := by
  rcases h with h | ⟨x, hx, h⟩
  · rcases h with h | h | ⟨j, j0, j1, j2, j3, j4⟩
    · exact Or.inl (Or.inl (Or.inl h))
    · rw [rb] at h; exact Or.inr h.2
    · exact (t.first j0 j1 bN j3 zb).elim
  · rcases List.mem_cons.mp hx with e | e
    · subst e
      rcases lU.on (L := L) r (Or.inl h) with z | z
      · exact Or.inl z
      · exact absurd z.1 s
    · exact Or.inl (Or.inr ⟨x, e, h⟩)
set_option maxHeartbeats 1000000 in
theorem c_lw_call {T lm lf mt : Int} (hS : lS μ0 μ O dp mt U) (z : μ 109 74 = 0) (hg : μ0 109 18 = g) (g01 : g = 0 ∨ g = 1) (T0 : 0 ≤ T ∧ T < 16) (e1 : μ0 120 (16 * g + T) = lm) (e2 : μ0 119 (16 * g + T) = lf) (lm0 : 0 ≤ lm ∧ lm ≤ 6) (lf0 : 0 ≤ lf ∧ lf + lm ≤ 3002) (hm : lm ≤ mt ∧ mt ≤ 9000) (dp0 : 0 ≤ dp ∧ dp < 20) (hU : ∀ y, U' y → U y ∨ (lf ≤ y ∧ y < lf + lm)) (hP : ∀ μ', (∀ j, μ' 159 j = μ 159 j) → lS μ0 μ' O (dp + 1) (mt - lm) U' → P 0 μ') : jj_mM_lowerCall X (d + 2) 0 (ab_la [109, T, dp]) [] μ P := by
  have hb := hS.b
  obtain ⟨w, Q⟩ := hS.q z
  have L1 : (ab_la [109, T, dp]) 1 = T := rfl
  have wt : ab_w (ab_w (16 * g) + T) = 16 * g + T := by rw [show ab_w (16 * g) = 16 * g from ab_wi (by omega) (by omega)]; exact ab_wi (by omega) (by omega)
  have o0 := hS.k
  have s90 : ∀ (l : ab_l) (μ1 : ab_m), l 0 = 109 → l 2 = dp → lB μ0 μ1 → μ1 109 78 = mt - lm → μ1 109 83 = O.length → (∀ j, μ1 159 j = μ 159 j) → (μ1 109 74 = 0 → ∃ w, lQ μ1 w O dp mt (-1) U') → jj_mM_lowerCall X (d + 2) 90 l [] μ1 P := by
    intro l μ1 l0 l2 b1 m1 k1 b9 q1
    refine bk_mM_lowerCall_90 l0 ?_
    rw [l2]
    refine c_lw_reg b1 fun r μ2 b2 f2 r2 g2 => ⟨by omega, fun μ3 e3 => ⟨by omega, fun μ4 e4 => ⟨by omega, ?_⟩⟩⟩
    have f3 : ∀ c j, c ≠ 158 → μ3 c j = μ2 c j := fun c j y => by rw [e3, mu_ne y]
    have f4 : ∀ c j, c ≠ 160 → μ4 c j = μ3 c j := fun c j y => by rw [e4, mu_ne y]
    have e158 : μ4 158 dp = r := by rw [f4 158 dp (by decide), e3, ab_mud, if_pos ⟨rfl, rfl⟩]
    rw [e158]
    refine c_lw_emit ((b2.mu e3 (by omega)).mu e4 (by omega)) fun r5 μ5 b5 f5 _ g5 => hP μ5 (fun j => by rw [f5 159 j (by omega) (by omega), f4 159 j (by decide), f3 159 j (by decide), f2 159 j (by omega)]; exact b9 j) ⟨b5, by rw [f5 109 78 (by omega) (by omega), f4 109 78 (by decide), f3 109 78 (by decide), f2 109 78 (by omega)]; exact m1, by rw [f5 109 83 (by omega) (by omega), f4 109 83 (by decide), f3 109 83 (by decide), f2 109 83 (by omega)]; exact k1, fun z5 => ?_⟩
    obtain ⟨z4, -, e5⟩ := g5 z5
    rw [f4 109 74 (by decide), f3 109 74 (by decide)] at z4
    obtain ⟨z1, lr⟩ := g2 z4
    obtain ⟨w1, Q1⟩ := q1 z1
    have Q2 : lQ μ2 w1 O dp (mt - lm) (-1) U' := Q1.fr (fun c i y1 y2 y3 => f2 c i (by omega)) (f2 109 69 (by omega)) r2 (by omega)
    have Q4 : lQ μ4 w1 O (dp + 1) (mt - lm) (-1) U' := Q2.call dp0.2 (fun c i y => by
      rw [e4, ab_mud, if_neg (by omega), e3, ab_mud, if_neg (by omega)]) (by rw [e158]; exact lr) (by rw [e4, ab_mud, if_pos ⟨rfl, rfl⟩])
    exact ⟨w1, Q4.em e5 (lI.of e5 (by omega) (fun y => absurd y (by decide)) (fun _ y => by omega) (fun _ => lr.le (by rw [f4 109 71 (by decide), f3 109 71 (by decide)]; exact Int.le_refl _)) (fun y => by omega) (fun y => by omega) (fun y => by omega) ⟨fun y => by omega, fun _ => by decide⟩)⟩
  have s28 : ∀ (n : Nat) (l : ab_l) (μ1 : ab_m) (i : Int), l 0 = 109 → l 1 = T → l 2 = dp → l 3 = lm → l 4 = i → 0 ≤ i → i ≤ lm → (lm - i).toNat = n → lB μ0 μ1 → μ1 109 78 = mt - lm → μ1 109 83 = O.length → (∀ j, μ1 159 j = μ 159 j) → (μ1 109 74 = 0 → ∃ w, lQ μ1 w O dp mt (-1) (fun y => U y ∨ (lf ≤ y ∧ y < lf + i))) → jj_mM_lowerCall X (d + 2) 28 l [] μ1 P := by
    intro n
    induction n with
    | zero =>
      intro l μ1 i l0 l1 l2 l3 l4 i0 i1 en b1 m1 k1 b9 q1
      have : i = lm := by omega
      subst this
      refine bk_mM_lowerCall_28 l0 ⟨fun _ => s90 l μ1 l0 l2 b1 m1 k1 b9 fun y => ?_, fun y => by rw [l3, l4] at y; omega⟩
      obtain ⟨w1, Q1⟩ := q1 y
      exact ⟨w1, Q1.sub hU⟩
    | succ n ih =>
      intro l μ1 i l0 l1 l2 l3 l4 i0 i1 en b1 m1 k1 b9 q1
      refine bk_mM_lowerCall_28 l0 ⟨fun y => by rw [l3, l4] at y; omega, fun _ => ⟨fun y => s90 l μ1 l0 l2 b1 m1 k1 b9 fun q => absurd q y, fun y => ?_⟩⟩
      rw [l1, l4]
      refine c_lw_reg b1 fun r μ2 b2 f2 r2 g2 => ?_
      have x18 : μ2 109 18 = g := by rw [b2.fr 109 18 (by omega) (by omega)]; exact hg
      rw [x18, wt, b2.fr 119 _ (by omega) (by omega), e2, show ab_w (lf + i) = lf + i from ab_wi (by omega) (by omega)]
      refine ⟨by omega, by omega, fun μ3 e3 => ?_⟩
      have f3 : ∀ c j, c ≠ 151 → μ3 c j = μ2 c j := fun c j y => by rw [e3, mu_ne y]
      have m3 : μ3 109 78 = mt - lm := by rw [f3 109 78 (by decide), f2 109 78 (by omega)]; exact m1
      rw [m3, show ab_w (mt - lm + i) = mt - lm + i from ab_wi (by omega) (by omega), show ab_w (i + 1) = i + 1 from ab_wi (by omega) (by omega)]
      refine c_lw_lay (b2.mu e3 (by omega)) (by omega) fun μ4 b4 f4 g4 => ih _ μ4 (i + 1) l0 l1 l2 l3 rfl (by omega) (by omega) (by omega) b4 (by rw [f4 109 78 (by omega) (by omega)]; exact m3) (by rw [f4 109 83 (by omega) (by omega), f3 109 83 (by decide), f2 109 83 (by omega)]; exact k1) (fun j => by rw [f4 159 j (by omega) (by omega), f3 159 j (by decide), f2 159 j (by omega)]; exact b9 j) fun z4 => ?_
      obtain ⟨z3, e4⟩ := g4 z4
      rw [f3 109 74 (by decide)] at z3
      obtain ⟨z1, lr⟩ := g2 z3
      obtain ⟨w1, Q1⟩ := q1 z1
      have Q2 : lQ μ2 w1 O dp mt (-1) (fun y => U y ∨ (lf ≤ y ∧ y < lf + i)) := Q1.fr (fun c i y1 y2 y3 => f2 c i (by omega)) (f2 109 69 (by omega)) r2 (Int.le_refl _)
      have Q3 := Q2.reg (U' := fun y => U y ∨ (lf ≤ y ∧ y < lf + (i + 1))) e3 lr fun y q => by
        rcases q with q | q
        · exact Or.inr (Or.inl q)
        · by_cases e : y = lf + i
          · exact Or.inl e
          · exact Or.inr (Or.inr (by omega))
      have o1 : lOp μ3 (mt - lm + i) := Q3.o _ (by omega) (by omega)
      have lr3 : lR μ3 r := lr.le (by rw [f3 109 71 (by decide)]; exact Int.le_refl _)
      refine ⟨w1, Q3.em e4 ?_⟩
      by_cases q : μ3 152 (mt - lm + i) = 0
      · rw [if_pos q] at e4
        exact lI.of e4 (by omega) (fun y _ => o1.r y) (fun _ y => by omega) (fun _ => lr3) (fun y => by omega) (fun y => by omega) (fun y => by omega) ⟨fun _ => by rw [q]; rfl, fun y => by omega⟩
      · rw [if_neg q] at e4
        exact lI.of e4 (by omega) (fun y _ => o1.r y) (fun _ y => by omega) (fun _ => lr3) (fun y => by omega) (fun y => by omega) (fun y => by omega) ⟨fun y => by omega, fun _ y => q (o1.elim (fun p => p.1) fun p => by rw [p] at y; exact absurd y (by decide))⟩
  refine bk_mM_lowerCall_0 rfl ?_
  rw [L1, hb.fr 109 18 (by omega) (by omega), hg, wt, hb.fr 120 _ (by omega) (by omega), e1, hS.n8, show ab_w (mt - lm) = mt - lm from ab_wi (by omega) (by omega)]
  refine ⟨by omega, fun μ1 ee => ?_⟩
  have f1 : ∀ c j, ¬ (c = 109 ∧ j = 78) → μ1 c j = μ c j := fun c j y => by rw [ee, ab_mud, if_neg y]
  refine s28 _ _ μ1 0 rfl rfl rfl rfl rfl (by omega) (by omega) rfl (hb.mu ee (by omega)) (by rw [ee, ab_mud, if_pos ⟨rfl, rfl⟩]) (by rw [f1 109 83 (by omega)]; exact o0) (fun j => f1 159 j (by omega)) fun _ => ⟨w, (Q.fr (fun c i y1 y2 y3 => f1 c i (by omega)) (f1 109 69 (by omega)) (by rw [f1 109 71 (by omega)]; exact Int.le_refl _) (Int.le_refl _)).sub fun y q => q.elim id fun q => by omega⟩
end M83

/-! THE REFERENCE, part 84: lower -/
section M84
variable {X : jm_X} {d : Nat} {P : Int → ab_m → Prop} {μ0 μ : ab_m} {g N dn : Int} {Γ : tQ}
/-- code that is whole -/
theorem lQ.wf {μ' : ab_m} {w : Int → Int} {m : Int} {U : Int → Prop} {t x ix y iy : Int} (h : lQ μ w [] 0 m (-1) U) (e : mEm μ μ' 28 t x ix y iy) (n0 : 0 ≤ μ 109 69) (n1 : μ' 109 69 ≤ 400) (r : 0 ≤ μ 109 71 ∧ μ 109 71 ≤ 300) : mWF μ' 0 (μ' 109 69) (μ' 109 71) := by
  obtain ⟨f, e1, e2, e3, e4, e5, e6, e7⟩ := e
  have r1 : μ' 109 71 = μ 109 71 := f 109 71 (by omega) (by omega)
  have w0 : ∀ i, w i = 0 := fun i => by
    by_cases z : w i = 0
    · exact z
    · obtain ⟨w1, w2, w3⟩ := h.j.ow i z
      rcases w3 with z3 | z3 | z3
      · simp at z3; omega
      · omega
      · have := h.j.fx i z3; omega
  refine ⟨by omega, n1, by omega, by omega, fun i i0 i1 => ?_⟩
  rw [show (0 : Int) + i = i by omega]
  by_cases q : i = μ 109 69
  · subst q
    unfold mUA mUB
    rw [e2]
    exact ⟨by decide, by decide, fun z => by omega, fun z => by omega, fun z => by omega, fun z => by omega, fun z => by omega, fun z => by omega, fun _ => Or.inr rfl, fun z => by omega, fun z => by omega⟩
  · have hi := h.j.i i i0 (by omega)
    rw [w0 i] at hi
    have g : ∀ c, 145 ≤ c → c ≤ 150 → μ' c i = μ c i := fun c a b => f c i (by omega) (by omega)
    unfold mUA mUB
    rw [g 145 (by decide) (by decide), g 146 (by decide) (by decide), g 147 (by decide) (by decide), g 148 (by decide) (by decide), g 149 (by decide) (by decide), g 150 (by decide) (by decide), r1]
    obtain ⟨h1, h2, h3, h4, h5, h6, h7, h8⟩ := hi
    refine ⟨h1.1, h1.2, h2, h3, h4, fun z => ?_, h6, h7, fun z => ?_, h8⟩
    · have := (h5 z).resolve_left fun y => y rfl
      clear h2 h3 h4 h5 h6 h7 h8
      omega
    · clear h2 h3 h4 h5 h6 h7 h8
      omega
set_option maxHeartbeats 2000000 in
theorem c_mM_lower126 (t : tW μ0 g Γ N dn) (hg : μ0 109 18 = g) (g01 : g = 0 ∨ g = 1) (hP : ∀ (l : ab_l) (μ' : ab_m), l 0 = 109 → fLm μ0 μ' → (μ' 109 74 = 0 → mWF μ' 0 (μ' 109 69) (μ' 109 71)) → jj_mM_lower X (d + 3) 414 l [] μ' P) : ∀ (m : Nat) (l : ab_l) (μ1 : ab_m) (L : List Int) (v pc : Int) (R : List Int), l 0 = 109 → l 1 = pc → l 2 = (L.length : Int) → l 3 ≠ 0 → 0 ≤ pc → pc < N → lFr Γ N dn L (Γ.2.2.2.1 pc) v R → lBk μ1 L → fLm μ0 μ1 → lS μ1 μ1 (Γ.2.1 pc ++ R) L.length (v + Γ.1 pc) (lU μ0 g dn Γ pc L) → lwM Γ N (pc :: L) = m → jj_mM_lower X (d + 3) 126 l [] μ1 P := by
  intro m
  induction m using Nat.strongRecOn with
  | ind m ih =>
    intro l μ1 L v pc R l0 l1 l2 l3 p0 pN hL hB fr hS hm
    have N9 := t.n0
    have d15 := t.d15
    have hb := hS.b
    obtain ⟨v0, vb, Ll⟩ := hL.le t
    obtain ⟨vk, rk⟩ := vb pc p0 pN rfl
    have tr := t.tr p0 pN
    have hh0 := tr.h0
    have hhz := tr.hz
    have hz0 := tr.z0
    have sw := tr.sw
    have wz := (t.tr hz0 (show Γ.2.2.2.2 pc < N by omega)).w0
    have rp := t.rle p0 pN
    have opn : ((Γ.2.1 pc ++ R).length : Int) < 3010 := by rw [List.length_append]; omega
    refine bk_mM_lower_126 l0 ⟨fun y => absurd y l3, fun _ => ⟨fun y => hP l μ1 l0 fr fun q => absurd q y, fun z => ?_⟩⟩
    obtain ⟨w, Q⟩ := hS.q z
    have w18 : μ1 109 18 = g := by rw [fr 109 18 (by omega) (by omega)]; exact hg
    have wk : ab_w (ab_w (9000 * g) + pc) = 9000 * g + pc := by rw [show ab_w (9000 * g) = 9000 * g from ab_wi (by omega) (by omega)]; exact ab_wi (by omega) (by omega)
    have wp : ab_w (pc + 1) = pc + 1 := ab_wi (by omega) (by omega)
    rw [l1, l2, w18, wk, fr 115 _ (by omega) (by omega), fr 116 _ (by omega) (by omega), wp, hS.n8]
    have nxt : μ0 115 (9000 * g + pc) ≠ 29 → μ0 115 (9000 * g + pc) ≠ 30 → pc + 1 < N ∧ tMv (μ0 115 (9000 * g + pc)) (tAr (tEv μ0 g dn) (μ0 115 (9000 * g + pc)) (μ0 116 (9000 * g + pc))) (Γ.1 pc) (Γ.2.1 pc) = some (Γ.1 (pc + 1), Γ.2.1 (pc + 1)) ∧ Γ.2.2.2.1 (pc + 1) = Γ.2.2.2.1 pc := fun a b => by
      obtain ⟨n1, n2, n3, -⟩ := t.nx p0 pN a b
      exact ⟨n1, n2, n3⟩
    have k29 : μ0 115 (9000 * g + pc) = 29 → Γ.1 pc = 0 ∧ Γ.2.1 pc = [] ∧ Γ.2.2.2.1 (pc + 1) = Γ.2.2.2.1 pc + 1 ∧ pc + 1 < N := fun a => by
      have st := t.st
      have ne : pc ≠ N - 1 := fun z => by rw [z] at a; omega
      rcases (t.k pc p0 pN).1.1 with h | h | h
      · exact ⟨h.2.1, h.2.2.1, h.2.2.2.2.2.2.1, by omega⟩
      · have : μ0 115 (9000 * g + pc) = 30 := h.1
        omega
      · have h := (tMv_u _ h.1).1
        have h : 1 ≤ μ0 115 (9000 * g + pc) ∧ μ0 115 (9000 * g + pc) ≤ 28 := h
        omega
    have k30 : μ0 115 (9000 * g + pc) = 30 → Γ.2.1 pc = [] ∧ pc = N - 1 := fun a => by
      refine ⟨?_, ?_⟩
      · rcases (t.k pc p0 pN).1.1 with h | h | h
        · have : μ0 115 (9000 * g + pc) = 29 := h.1
          omega
        · exact h.2.2
        · have h := (tMv_u _ h.1).1
          have h : 1 ≤ μ0 115 (9000 * g + pc) ∧ μ0 115 (9000 * g + pc) ≤ 28 := h
          omega
      · by_cases e : pc = N - 1
        · exact e
        · exact absurd a (t.ns pc p0 (by omega))
    have vkk : tVk (tEv μ0 g dn) Γ pc (μ0 115 (9000 * g + pc)) (μ0 116 (9000 * g + pc)) := (t.k pc p0 pN).1.2
    have onU : ∀ y, Γ.2.2.2.1 (pc + 1) = Γ.2.2.2.1 pc → lU μ0 g dn Γ (pc + 1) L y → lU μ0 g dn Γ pc L y ∨ (μ0 115 (9000 * g + pc) = 11 ∧ y = μ0 116 (9000 * g + pc)) := fun y r h => lU.on r h
    have inU : ∀ {b y T : Int}, Γ.2.2.2.1 (pc + 1) = Γ.2.2.2.1 pc → μ0 115 (9000 * g + pc) ≠ 11 → 0 ≤ b → b < N → Γ.2.2.2.1 b = T → Γ.2.2.2.2 b = b → lU μ0 g dn Γ b ((pc + 1) :: L) y → lU μ0 g dn Γ pc L y ∨ (μ0 119 (16 * g + T) ≤ y ∧ y < μ0 119 (16 * g + T) + μ0 120 (16 * g + T)) := fun r s b0 bN rb zb h => lU.into t r s b0 bN rb zb h
    generalize hSS : μ0 115 (9000 * g + pc) = S at *
    generalize hTT : μ0 116 (9000 * g + pc) = T at *
    have kb : (0 : Int) ≤ 9000 * g + pc ∧ (9000 * g + pc : Int) < 18000 := by omega
    have okU : S = 2 ∨ S = 12 ∨ S = 28 → lU μ0 g dn Γ pc L T := fun q => Or.inl (vkk.2.2.2.2.2.1 q)
    have T30 := vkk.2.2.2.2.1
    have ar0 : S ≠ 9 → tAr (tEv μ0 g dn) S T = 0 := fun q => by unfold tAr; rw [if_neg q]
    -- on
    have go : ∀ (l' : ab_l) (μ2 : ab_m) (L' : List Int) (v' pc' : Int) (R' : List Int), l' 0 = 109 → l' 1 = pc' → l' 2 = (L'.length : Int) → l' 3 ≠ 0 → 0 ≤ pc' → pc' < N → lFr Γ N dn L' (Γ.2.2.2.1 pc') v' R' → lBk μ2 L' → fLm μ0 μ2 → lB μ2 μ2 → μ2 109 78 = v' + Γ.1 pc' → μ2 109 83 = ((Γ.2.1 pc' ++ R').length : Int) → (μ2 109 74 = 0 → ∃ w, lQ μ2 w (Γ.2.1 pc' ++ R') L'.length (v' + Γ.1 pc') (-1) (lU μ0 g dn Γ pc' L')) → lwM Γ N (pc' :: L') < m → jj_mM_lower X (d + 3) 126 l' [] μ2 P := fun l' μ2 L' v' pc' R' a0 a1 a2 a3 a4 a5 a6 a7 a8 a9 a10 a11 a12 a13 => ih _ a13 l' μ2 L' v' pc' R' a0 a1 a2 a3 a4 a5 a6 a7 a8 ⟨a9, a10, a11, a12⟩ rfl
    have on : S ≠ 29 → S ≠ 30 → S ≠ 9 → ∀ (l' : ab_l) (μ2 : ab_m), l' 0 = 109 → l' 1 = pc + 1 → l' 2 = (L.length : Int) → l' 3 ≠ 0 → lS μ1 μ2 (Γ.2.1 (pc + 1) ++ R) L.length (v + Γ.1 (pc + 1)) (fun y => lU μ0 g dn Γ pc L y ∨ (S = 11 ∧ y = T)) → jj_mM_lower X (d + 3) 126 l' [] μ2 P := fun z1 z2 z3 l' μ2 a0 a1 a2 a3 hS2 => by
      obtain ⟨n1, n2, n3⟩ := nxt z1 z2
      refine go l' μ2 L v (pc + 1) R a0 a1 a2 a3 (by omega) n1 (by rw [n3]; exact hL) (hB.same fun j _ _ => hS2.b.fr 159 j (by omega) (by omega)) (fr.tr hS2.b.fr) hS2.b.self hS2.n8 hS2.k (fun y => ?_) (by rw [← hm]; exact lwM_on pN n3)
      obtain ⟨w2, Q2⟩ := hS2.q y
      exact ⟨w2, Q2.sub fun y q => onU y n3 q⟩
    refine ⟨kb, fun n9 => ⟨kb, fun n29 => ⟨kb, fun n26 => ⟨kb, fun n30 => ⟨kb, fun g8 => ⟨kb, kb, ?_⟩, fun l8 => ⟨kb, kb, kb, ?_⟩⟩, fun e30 => ?_⟩, fun e26 => ?_⟩, fun e29 => ?_⟩, fun e9 => ?_⟩
    · -- a step of kind 10 to 28
      obtain ⟨n1, n2, n3⟩ := nxt n29 n30
      rw [ar0 n9] at n2
      have u := (tMv_v n2).1
      exact c_lw_step hS z (by omega) n2 v0 hh0 (by omega) opn (fun q => T30 (by omega)) (fun q => okU (by omega)) (fun q => vkk.1 (by omega)) fun μ2 hS2 => on n29 n30 n9 _ μ2 l0 rfl l2 l3 hS2
    · -- a step of kind 1 to 8
      obtain ⟨n1, n2, n3⟩ := nxt n29 n30
      rw [ar0 n9] at n2
      have u := (tMv_v n2).1
      refine c_lw_value (U := lU μ0 g dn Γ pc L) hS z (by omega) n2 v0 hh0 (by omega) opn (fun q => ⟨T30 (by omega), okU (by omega)⟩) (fun q => vkk.1 (by omega)) vkk.2.1 vkk.2.2.1 fun μ2 hS2 => on n29 n30 n9 _ μ2 l0 rfl l2 l3 ⟨hS2.b, hS2.n8, hS2.k, fun y => ?_⟩
      obtain ⟨w2, Q2⟩ := hS2.q y
      exact ⟨w2, Q2.sub fun y q => q.resolve_right fun q => by omega⟩
    · -- STOP
      obtain ⟨s0, pe⟩ := k30 e30
      have rd : Γ.2.2.2.1 pc = dn := by rw [pe]; exact t.rN
      cases L with
      | cons b bs => obtain ⟨b0, b1, b2, -⟩ := hL; have := (t.rle b0 b1).2; omega
      | nil =>
        obtain ⟨-, -, eR⟩ := hL
        refine c_lw_emit hb fun r2 μ2 b2 f2 _ g2 => ?_
        refine bk_mM_lower_126 l0 ⟨fun _ => hP _ μ2 l0 (fr.tr b2.fr) fun z2 => ?_, fun y => absurd rfl y⟩
        obtain ⟨-, -, e2⟩ := g2 z2
        rw [s0, eR] at Q
        exact Q.wf e2 hb.n.1 b2.n.2 hb.r
    · -- RETURN
      obtain ⟨n1, n2, n3⟩ := nxt n29 (by omega)
      rw [ar0 n9] at n2
      have u := (tMv_v n2).2.2.2.1 (by omega)
      have es := (tMv_s n2).2.2.2.2.2.2.2.2.2.2.2.2.2 (by omega)
      have rd : Γ.2.2.2.1 pc < dn := vkk.2.2.2.2.2.2 e26
      have Lp : 1 ≤ (L.length : Int) := by
        cases L with
        | nil => have := hL.1; omega
        | cons b bs => simp; omega
      rw [show ab_w (v + Γ.1 pc - 1) = v + Γ.1 pc - 1 from ab_wi (by omega) (by omega), show ab_w ((L.length : Int) - 1) = L.length - 1 from ab_wi (by omega) (by omega)]
      intro μ2 e2
      have f2 : ∀ c j, ¬ (c = 109 ∧ j = 78) → μ2 c j = μ1 c j := fun c j y => by rw [e2, ab_mud, if_neg y]
      have m2 : μ2 109 78 = v + Γ.1 pc - 1 := by rw [e2, ab_mud, if_pos ⟨rfl, rfl⟩]
      rw [m2]
      have r2 : μ2 109 71 = μ1 109 71 := f2 109 71 (by omega)
      have Q2 : lQ μ2 w (Γ.2.1 pc ++ R) L.length (v + Γ.1 pc - 1) (-1) (lU μ0 g dn Γ pc L) := Q.fr (fun c i y1 y2 y3 => f2 c i (by omega)) (f2 109 69 (by omega)) (by omega) (by omega)
      refine ⟨by omega, c_lw_lay (hb.mu e2 (by omega)) (by omega) fun μ3 b3 f3 g3 => ⟨by omega, c_lw_emit b3 fun r4 μ4 b4 f4 rb g4 => ⟨by omega, fun μ5 e5 => ?_⟩⟩⟩
      have f5 : ∀ c j, c ≠ 160 → μ5 c j = μ4 c j := fun c j y => by rw [e5, mu_ne y]
      refine on n29 (by omega) n9 _ μ5 l0 rfl l2 l3 ⟨b4.mu e5 (by omega), by rw [f5 109 78 (by decide), f4 109 78 (by omega) (by omega), f3 109 78 (by omega) (by omega), m2]; omega, by rw [f5 109 83 (by decide), f4 109 83 (by omega) (by omega), f3 109 83 (by omega) (by omega), f2 109 83 (by omega), hS.k, es], fun z5 => ?_⟩
      rw [f5 109 74 (by decide)] at z5
      obtain ⟨z3, er4, e4⟩ := g4 z5
      obtain ⟨z2, e3⟩ := g3 z3
      have o1 : lOp μ2 (v + Γ.1 pc - 1) := (Q.o _ (by omega) (by omega)).le (by omega) (f2 152 _ (by omega)) (f2 153 _ (by omega))
      have lt := (Q2.f ((L.length : Int) - 1) (by omega) (by omega)).1
      have Q3 := Q2.em e3 (by
        by_cases q : μ2 152 (v + Γ.1 pc - 1) = 0
        · rw [if_pos q] at e3
          exact lI.of e3 (by omega) (fun y _ => o1.r y) (fun _ y => by omega) (fun _ => lt) (fun y => by omega) (fun y => by omega) (fun y => by omega) ⟨fun _ => by rw [q]; rfl, fun y => by omega⟩
        · rw [if_neg q] at e3
          exact lI.of e3 (by omega) (fun y _ => o1.r y) (fun _ y => by omega) (fun _ => lt) (fun y => by omega) (fun y => by omega) (fun y => by omega) ⟨fun y => by omega, fun _ y => q (o1.elim (fun p => p.1) fun p => by rw [p] at y; exact absurd y (by decide))⟩)
      have Q4 := Q3.emP e4 b3.n.1 (lI.of e4 (by omega) (fun _ y => by omega) (fun _ y => by omega) (fun y => by omega) (fun _ => Or.inl (by decide)) (fun y => by omega) (fun y => by omega) ⟨fun y => by omega, fun y => by omega⟩) (by omega)
      have d4 : μ4 146 r4 = μ4 160 ((L.length : Int) - 1) := by rw [er4, e4.2.2.2.1, f4 160 _ (by omega) (by omega)]
      have n4 : r4 = μ4 109 69 - 1 := by rw [e4.2.1]; omega
      rw [← er4] at Q4
      obtain ⟨w5, Q5⟩ := Q4.ret rb n4 (by omega) d4 e5
      rw [es, show v + Γ.1 (pc + 1) = v + Γ.1 pc - 1 by omega]
      exact ⟨w5, Q5.sub fun y q => q.resolve_right fun q => by omega⟩
    · -- DEF_END
      obtain ⟨h0', s0, r1, n1⟩ := k29 e29
      have rn := t.rle (k := pc + 1) (by omega) n1
      cases L with
      | nil => have := hL.1; omega
      | cons b bs =>
        have ln : ((b :: bs : List Int).length : Int) = bs.length + 1 := by simp
        obtain ⟨b0, bN, pb, hb1, v', R', ev, eR, hL'⟩ := hL
        obtain ⟨B1, B2⟩ := hB
        rw [ln] at Ll Q
        rw [ln, show ab_w ((bs.length : Int) + 1 + -1) = bs.length from by rw [ab_wi (by omega) (by omega)]; omega]
        rw [s0, h0'] at Q
        have lt := Q.f (bs.length : Int) (by omega) (by omega)
        refine ⟨by omega, c_lw_land (w := w) (o := -((bs.length : Int) + 1)) (fun _ => by have := lt.2; rwa [show (-1 - (bs.length : Int)) = -((bs.length : Int) + 1) by omega] at this) fun μ2 f2 g2 => ⟨by omega, ?_⟩⟩
        rw [f2 158 _ (by decide)]
        have m2 : μ2 109 78 = v := by rw [f2 109 78 (by decide), hS.n8, h0']; omega
        have z2 : μ2 109 74 = 0 := by rw [f2 109 74 (by decide)]; exact z
        obtain ⟨L', l2', lc⟩ := g2 z
        obtain ⟨w2, Q2⟩ := Q.back (by omega) l2' lc
        rw [show (bs.length : Int) + 1 - 1 = bs.length by omega, show ([] : List Int) ++ R = R from rfl, show v + 0 = v by omega] at Q2
        refine c_mM_giveOperand (by omega) fun μ3 p3 => ⟨by omega, ?_⟩
        have x9 : ∀ j, μ3 159 j = μ1 159 j := fun j => by rw [p3.1 159 j (by omega) (by omega), f2 159 j (by decide)]
        have Q3 := Q2.push p3 m2 (fun _ => lt.1.le (by rw [f2 109 71 (by decide)]; exact Int.le_refl _))
        have eb : v' + Γ.1 b = v + 1 := by omega
        refine go _ μ3 bs v' b R' l0 (show μ3 159 bs.length = b by rw [x9, B1]) rfl l3 b0 bN hL' (B2.same fun j _ _ => x9 j) (fr.tr ((hb.c146 f2).op p3).fr) ((hb.c146 f2).op p3).self (by rw [p3.2.1, m2, eb]) (by rw [p3.1 109 83 (by omega) (by omega), f2 109 83 (by decide), hS.k, s0, eR]; rfl) (fun _ => ⟨w2, ?_⟩) (by rw [← hm]; exact lwM_back pN)
        rw [eb, ← eR]
        exact Q3.sub fun y q => Or.inr (q.elim (fun q => ⟨b, List.mem_cons_self .., q⟩) fun ⟨c, c1, c2⟩ => ⟨c, List.mem_cons_of_mem _ c1, c2⟩)
    · -- CALL
      obtain ⟨n1, n2, n3⟩ := nxt (by omega) (by omega)
      have q := vkk.2.2.2.1 e9
      have q3 : T < dn := q.2.2
      obtain ⟨d1, d2, d3, d4, d5, d6, d7, d8, d9, d10⟩ := t.d T q.1 q3
      have u := (tMv_v n2).2.2.2.2.2.2.1 e9
      have es := (tMv_s n2).2.2.2.2.2.2.2.2.2.2.2.2.2 (by omega)
      unfold tAr at u
      rw [if_pos e9] at u
      have u : 0 ≤ μ0 120 (16 * g + T) ∧ μ0 120 (16 * g + T) ≤ Γ.1 pc ∧ Γ.1 (pc + 1) = Γ.1 pc - μ0 120 (16 * g + T) + 1 := u
      have wt : ab_w (ab_w (16 * g) + T) = 16 * g + T := by rw [show ab_w (16 * g) = 16 * g from ab_wi (by omega) (by omega)]; exact ab_wi (by omega) (by omega)
      refine ⟨by omega, fun μ2 e2 => ⟨kb, ?_⟩⟩
      have f2 : ∀ c j, ¬ (c = 159 ∧ j = (L.length : Int)) → μ2 c j = μ1 c j := fun c j y => by rw [e2, ab_mud, if_neg y]
      have fr2 : fLm μ0 μ2 := fun c j y1 y2 => by rw [f2 c j (by omega)]; exact fr c j y1 y2
      rw [f2 116 _ (by omega), fr 116 _ (by omega) (by omega), hTT]
      have Q2 : lQ μ2 w (Γ.2.1 pc ++ R) L.length (v + Γ.1 pc) (-1) (lU μ0 g dn Γ pc L) := Q.fr (fun c i y1 y2 y3 => f2 c i (by omega)) (f2 109 69 (by omega)) (by rw [f2 109 71 (by omega)]; exact Int.le_refl _) (Int.le_refl _)
      have S2 : lS μ2 μ2 (Γ.2.1 pc ++ R) L.length (v + Γ.1 pc) (lU μ0 g dn Γ pc L) := ⟨⟨fun _ _ _ _ => rfl, by rw [f2 109 69 (by omega)]; exact hb.n, by rw [f2 109 71 (by omega)]; exact hb.r⟩, by rw [f2 109 78 (by omega)]; exact hS.n8, by rw [f2 109 83 (by omega)]; exact hS.k, fun _ => ⟨w, Q2⟩⟩
      refine c_lw_call (g := g) (U' := lU μ0 g dn Γ (μ0 118 (16 * g + T)) ((pc + 1) :: L)) (lm := μ0 120 (16 * g + T)) (lf := μ0 119 (16 * g + T)) S2 (by rw [f2 109 74 (by omega)]; exact z) (by rw [fr2 109 18 (by omega) (by omega)]; exact hg) g01 (by omega) (fr2 120 _ (by omega) (by omega)) (fr2 119 _ (by omega) (by omega)) ⟨d7, d8⟩ ⟨d9, d10⟩ (by omega) (by omega) (fun y hy => inU n3 (by omega) d1 d2 d3 d6 hy) fun μ3 b9 S3 => ?_
      have fr3 := fr2.tr S3.b.fr
      rw [fr3 109 18 (by omega) (by omega), hg, fr3 116 _ (by omega) (by omega), hTT, wt, fr3 118 _ (by omega) (by omega), show ab_w ((L.length : Int) + 1) = L.length + 1 from ab_wi (by omega) (by omega)]
      refine ⟨kb, by omega, ?_⟩
      have ln : (((pc + 1) :: L : List Int).length : Int) = L.length + 1 := by simp
      refine go _ μ3 ((pc + 1) :: L) (v + Γ.1 pc - μ0 120 (16 * g + T)) (μ0 118 (16 * g + T)) (Γ.2.1 (pc + 1) ++ R) l0 rfl ln.symm l3 d1 d2 ⟨by omega, n1, by omega, by omega, v, R, by omega, rfl, by rw [n3]; exact hL⟩ ⟨?_, ?_⟩ fr3 S3.b.self (by rw [S3.n8, d4]; omega) (by rw [S3.k, d5, es]; rfl) (fun y => ?_) (by rw [← hm]; exact lwM_call pN n3 d1 (by omega))
      · rw [b9, e2, ab_mud, if_pos ⟨rfl, rfl⟩]
      · exact hB.same fun j j0 j1 => by rw [b9, f2 159 j (by omega)]
      · obtain ⟨w3, Q3⟩ := S3.q y
        rw [d5, d4, ln, es, show v + Γ.1 pc - μ0 120 (16 * g + T) + 0 = v + Γ.1 pc - μ0 120 (16 * g + T) by omega]
        exact ⟨w3, Q3⟩
end M84

