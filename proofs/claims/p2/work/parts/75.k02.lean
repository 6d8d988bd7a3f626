/-! THE CLASS, part k13: what Maker keeps -/
section K13
variable {μ μ' : ab_m} {w w' : Int → Int} {t x i y m m' dp dp' : Int} {U U' V V' : Int → Prop}
def cR (μ : ab_m) (r : Int) : Prop := 0 ≤ r ∧ r < μ 45 6
theorem cR.le {r : Int} (h : cR μ r) (e : μ 45 6 ≤ μ' 45 6) : cR μ' r := ⟨h.1, by have := h.2; omega⟩
end K13
/-- an instruction that is being made, o who waits for it -/
def cI (μ : ab_m) (o i : Int) : Prop := (0 ≤ μ 46 i ∧ μ 46 i ≤ 28) ∧ (0 ≤ μ 50 i ∧ μ 50 i ≤ 3) ∧ (kA μ 45 i → cR μ (μ 48 i)) ∧ (kB μ 45 i → cR μ (μ 49 i)) ∧ (kD μ 45 i → cR μ (μ 47 i)) ∧ (kL μ 45 i → o ≠ 0 ∨ 0 ≤ μ 47 i) ∧ (μ 46 i = 21 → kR μ 45 (μ 49 i)) ∧ (μ 46 i = 22 → kR μ 45 (μ 47 i)) ∧ (μ 46 i = 1 → ab_and (μ 50 i) 1 = 0)
theorem cI.k {μ : ab_m} {o i : Int} (h'' : cI μ o i) : 0 ≤ μ 46 i ∧ μ 46 i ≤ 28 := h''.1
theorem cI.f {μ : ab_m} {o i : Int} (h'' : cI μ o i) : 0 ≤ μ 50 i ∧ μ 50 i ≤ 3 := h''.2.1
theorem cI.a {μ : ab_m} {o i : Int} (h'' : cI μ o i) : kA μ 45 i → cR μ (μ 48 i) := h''.2.2.1
theorem cI.b {μ : ab_m} {o i : Int} (h'' : cI μ o i) : kB μ 45 i → cR μ (μ 49 i) := h''.2.2.2.1
theorem cI.d {μ : ab_m} {o i : Int} (h'' : cI μ o i) : kD μ 45 i → cR μ (μ 47 i) := h''.2.2.2.2.1
theorem cI.l {μ : ab_m} {o i : Int} (h'' : cI μ o i) : kL μ 45 i → o ≠ 0 ∨ 0 ≤ μ 47 i := h''.2.2.2.2.2.1
theorem cI.r1 {μ : ab_m} {o i : Int} (h'' : cI μ o i) : μ 46 i = 21 → kR μ 45 (μ 49 i) := h''.2.2.2.2.2.2.1
theorem cI.r2 {μ : ab_m} {o i : Int} (h'' : cI μ o i) : μ 46 i = 22 → kR μ 45 (μ 47 i) := h''.2.2.2.2.2.2.2.1
theorem cI.c {μ : ab_m} {o i : Int} (h'' : cI μ o i) : μ 46 i = 1 → ab_and (μ 50 i) 1 = 0 := h''.2.2.2.2.2.2.2.2
section K13
variable {μ μ' : ab_m} {w w' : Int → Int} {t x i y m m' dp dp' : Int} {U U' V V' : Int → Prop}
/-- a chain of leaps through their Ds -/
def cDc (μ : ab_m) : List Int → Int → Prop
  | [], x => x = -1
  | y :: r, x => x = y ∧ 0 ≤ y ∧ y < 400 ∧ (∀ z ∈ r, z < y) ∧ cDc μ r (μ 47 y)
theorem cDc.same : ∀ {L : List Int} {x : Int}, cDc μ L x → (∀ y ∈ L, μ' 47 y = μ 47 y) → cDc μ' L x
  | [], _, a, _ => a
  | y :: r, x, a, e => ⟨a.1, a.2.1, a.2.2.1, a.2.2.2.1, by
      rw [e y (List.mem_cons_self ..)]
      exact a.2.2.2.2.same fun z hz => e z (List.mem_cons_of_mem _ hz)⟩
theorem cDc.len : ∀ {L : List Int} {x : Int}, cDc μ L x → (L.length : Int) ≤ x + 1 ∧ x < 400
  | [], x, a => by have : x = -1 := a; subst this; simp
  | y :: r, x, a => by
    obtain ⟨a1, a2, a3, a4, a5⟩ := a
    have ih := a5.len
    have l : ((y :: r : List Int).length : Int) = r.length + 1 := by simp
    refine ⟨?_, by omega⟩
    cases r with
    | nil => simp; omega
    | cons z r' =>
      have h1 := a5.1
      have h2 := a4 z (List.mem_cons_self ..)
      omega
/-- what waits for step t -/
def cC (μ : ab_m) (w : Int → Int) (t : Int) : Prop := ∃ L, cDc μ L (μ 38 t) ∧ ∀ i, w i = t + 1 ↔ i ∈ L
end K13
def cJ (μ : ab_m) (w : Int → Int) : Prop := (0 ≤ μ 45 5 ∧ μ 45 5 ≤ 400) ∧ (0 ≤ μ 45 6) ∧ (∀ i, 0 ≤ i → i < μ 45 5 → cI μ (w i) i) ∧ (∀ i, w i ≠ 0 → (0 ≤ i ∧ i < μ 45 5) ∧ kL μ 45 i ∧ 1 ≤ w i ∧ w i ≤ 3002) ∧ (∀ t, 0 ≤ t → t < 3002 → cC μ w t)
theorem cJ.n {μ : ab_m} {w : Int → Int} (h'' : cJ μ w) : 0 ≤ μ 45 5 ∧ μ 45 5 ≤ 400 := h''.1
theorem cJ.r {μ : ab_m} {w : Int → Int} (h'' : cJ μ w) : 0 ≤ μ 45 6 := h''.2.1
theorem cJ.i {μ : ab_m} {w : Int → Int} (h'' : cJ μ w) : ∀ i, 0 ≤ i → i < μ 45 5 → cI μ (w i) i := h''.2.2.1
theorem cJ.ow {μ : ab_m} {w : Int → Int} (h'' : cJ μ w) : ∀ i, w i ≠ 0 → (0 ≤ i ∧ i < μ 45 5) ∧ kL μ 45 i ∧ 1 ≤ w i ∧ w i ≤ 3002 := h''.2.2.2.1
theorem cJ.ch {μ : ab_m} {w : Int → Int} (h'' : cJ μ w) : ∀ t, 0 ≤ t → t < 3002 → cC μ w t := h''.2.2.2.2
section K13
variable {μ μ' : ab_m} {w w' : Int → Int} {t x i y m m' dp dp' : Int} {U U' V V' : Int → Prop}
/-- an operand -/
def cOp (μ : ab_m) (j : Int) : Prop := (μ 42 j = 0 ∧ cR μ (μ 41 j)) ∨ μ 42 j = 1
end K13
def cQ (μ : ab_m) (w : Int → Int) (m dp : Int) (U V : Int → Prop) : Prop := (cJ μ w) ∧ (∀ j, 0 ≤ j → j < m → cOp μ j) ∧ (∀ y, U y → cR μ (μ 40 y)) ∧ (∀ y, V y → cR μ (μ 39 y)) ∧ (∀ i, 0 ≤ i → i < dp → cR μ (μ 44 i)) ∧ (∀ t, 0 ≤ t → t < 3002 → 0 ≤ μ 37 t)
theorem cQ.j {μ : ab_m} {w : Int → Int} {m dp : Int} {U V : Int → Prop} (h'' : cQ μ w m dp U V) : cJ μ w := h''.1
theorem cQ.o {μ : ab_m} {w : Int → Int} {m dp : Int} {U V : Int → Prop} (h'' : cQ μ w m dp U V) : ∀ j, 0 ≤ j → j < m → cOp μ j := h''.2.1
theorem cQ.u {μ : ab_m} {w : Int → Int} {m dp : Int} {U V : Int → Prop} (h'' : cQ μ w m dp U V) : ∀ y, U y → cR μ (μ 40 y) := h''.2.2.1
theorem cQ.v {μ : ab_m} {w : Int → Int} {m dp : Int} {U V : Int → Prop} (h'' : cQ μ w m dp U V) : ∀ y, V y → cR μ (μ 39 y) := h''.2.2.2.1
theorem cQ.f {μ : ab_m} {w : Int → Int} {m dp : Int} {U V : Int → Prop} (h'' : cQ μ w m dp U V) : ∀ i, 0 ≤ i → i < dp → cR μ (μ 44 i) := h''.2.2.2.2.1
theorem cQ.bg {μ : ab_m} {w : Int → Int} {m dp : Int} {U V : Int → Prop} (h'' : cQ μ w m dp U V) : ∀ t, 0 ≤ t → t < 3002 → 0 ≤ μ 37 t := h''.2.2.2.2.2
section K13
variable {μ μ' : ab_m} {w w' : Int → Int} {t x i y m m' dp dp' : Int} {U U' V V' : Int → Prop}
theorem cOp.le {j : Int} (h : cOp μ j) (e : μ 45 6 ≤ μ' 45 6) (f1 : μ' 42 j = μ 42 j) (f2 : μ' 41 j = μ 41 j) : cOp μ' j := by
  unfold cOp
  rw [f1, f2]
  exact h.imp (fun z => ⟨z.1, z.2.le e⟩) fun z => z
theorem cI.at {o' i' : Int} (h : cI μ t i) (f : ∀ c, 46 ≤ c → c ≤ 50 → μ' c i' = μ c i) (r : μ 45 6 ≤ μ' 45 6) (s : ∀ j, μ' 51 j = μ 51 j) (ho : t ≠ 0 → o' ≠ 0) : cI μ' o' i' := by
  have e1 := f 46 (by decide) (by decide)
  have e2 := f 47 (by decide) (by decide)
  have e3 := f 48 (by decide) (by decide)
  have e4 := f 49 (by decide) (by decide)
  have e5 := f 50 (by decide) (by decide)
  obtain ⟨h1, h2, h3, h4, h5, h6, h7, h8, h9⟩ := h
  have qa : kA μ' 45 i' ↔ kA μ 45 i := by
    show ((μ' 46 i' ≤ 22 ∨ μ' 46 i' = 24 ∨ μ' 46 i' = 26 ∨ μ' 46 i' = 27) ∧ ab_and (μ' 50 i') 1 = 0) ↔ _
    rw [e1, e5]; exact Iff.rfl
  have qb : kB μ' 45 i' ↔ kB μ 45 i := by
    show (((2 ≤ μ' 46 i' ∧ μ' 46 i' ≤ 17) ∨ μ' 46 i' = 22) ∧ ab_and (μ' 50 i') 2 = 0) ↔ _
    rw [e1, e5]; exact Iff.rfl
  have qd : kD μ' 45 i' ↔ kD μ 45 i := by
    show (μ' 46 i' ≤ 21 ∨ μ' 46 i' = 23) ↔ _
    rw [e1]; exact Iff.rfl
  have ql : kL μ' 45 i' ↔ kL μ 45 i := by
    show (μ' 46 i' = 25 ∨ μ' 46 i' = 26 ∨ μ' 46 i' = 27) ↔ _
    rw [e1]; exact Iff.rfl
  have qr : ∀ q, kR μ 45 q → kR μ' 45 q := fun q hq a b => by
    show μ' 51 q ≤ 100
    rw [s]; exact hq a b
  refine ⟨by rw [e1]; exact h1, by rw [e5]; exact h2, fun y => ?_, fun y => ?_, fun y => ?_, fun y => ?_, fun y => ?_, fun y => ?_, fun y => ?_⟩
  · rw [e3]; exact (h3 (qa.mp y)).le r
  · rw [e4]; exact (h4 (qb.mp y)).le r
  · rw [e2]; exact (h5 (qd.mp y)).le r
  · rw [e2]; exact (h6 (ql.mp y)).imp ho fun z => z
  · rw [e1] at y; rw [e4]; exact qr _ (h7 y)
  · rw [e1] at y; rw [e2]; exact qr _ (h8 y)
  · rw [e1] at y; rw [e5]; exact h9 y
theorem kL.sm (h : kL μ 45 i) (e : μ' 46 i = μ 46 i) : kL μ' 45 i := by
  have h : μ 46 i = 25 ∨ μ 46 i = 26 ∨ μ 46 i = 27 := h
  show μ' 46 i = 25 ∨ μ' 46 i = 26 ∨ μ' 46 i = 27
  rw [e]; exact h
/-- nothing of the code, nothing that waits; registers may grow -/
theorem cJ.up (h : cJ μ w) (f : ∀ c i, (46 ≤ c ∧ c ≤ 51) ∨ c = 38 → μ' c i = μ c i) (n : μ' 45 5 = μ 45 5) (r : μ 45 6 ≤ μ' 45 6) : cJ μ' w := by
  refine ⟨by rw [n]; exact h.n, by have := h.r; omega, fun i a b => ?_, fun i z => ?_, fun t a b => ?_⟩
  · rw [n] at b
    exact (h.i i a b).at (fun c a b => f c i (by omega)) r (fun j => f 51 j (by omega)) fun z => z
  · obtain ⟨w1, w2, w3⟩ := h.ow i z
    rw [n]
    exact ⟨w1, w2.sm (f 46 i (by omega)), w3⟩
  · obtain ⟨L, l1, l2⟩ := h.ch t a b
    refine ⟨L, ?_, l2⟩
    rw [f 38 t (by omega)]
    exact l1.same fun y _ => f 47 y (by omega)
end K13
/-- one more instruction, or it was too long -/
def cEm (μ μ' : ab_m) (k t a b f : Int) : Prop := (∀ c j, ¬ (46 ≤ c ∧ c ≤ 50 ∧ j = μ 45 5) → ¬ (c = 45 ∧ (j = 5 ∨ j = 7)) → μ' c j = μ c j) ∧ ((μ 45 5 < 400 ∧ μ' 45 5 = μ 45 5 + 1 ∧ μ' 46 (μ 45 5) = k ∧ μ' 47 (μ 45 5) = t ∧ μ' 48 (μ 45 5) = a ∧ μ' 49 (μ 45 5) = b ∧ μ' 50 (μ 45 5) = f) ∨ (μ' 45 5 = μ 45 5 ∧ ∀ c j, 46 ≤ c ∧ c ≤ 50 → μ' c j = μ c j))
theorem cEm.fr {μ μ' : ab_m} {k t a b f : Int} (h'' : cEm μ μ' k t a b f) : ∀ c j, ¬ (46 ≤ c ∧ c ≤ 50 ∧ j = μ 45 5) → ¬ (c = 45 ∧ (j = 5 ∨ j = 7)) → μ' c j = μ c j := h''.1
theorem cEm.go {μ μ' : ab_m} {k t a b f : Int} (h'' : cEm μ μ' k t a b f) : (μ 45 5 < 400 ∧ μ' 45 5 = μ 45 5 + 1 ∧ μ' 46 (μ 45 5) = k ∧ μ' 47 (μ 45 5) = t ∧ μ' 48 (μ 45 5) = a ∧ μ' 49 (μ 45 5) = b ∧ μ' 50 (μ 45 5) = f) ∨ (μ' 45 5 = μ 45 5 ∧ ∀ c j, 46 ≤ c ∧ c ≤ 50 → μ' c j = μ c j) := h''.2
section K13
variable {μ μ' : ab_m} {w w' : Int → Int} {t x i y m m' dp dp' : Int} {U U' V V' : Int → Prop}
end K13
/-- the conditions of an instruction by what it is made of -/
def cK (μ : ab_m) (k t a b f : Int) : Prop := (0 ≤ k ∧ k ≤ 28) ∧ (0 ≤ f ∧ f ≤ 3) ∧ ((k ≤ 22 ∨ k = 24 ∨ k = 26 ∨ k = 27) → ab_and f 1 = 0 → cR μ a) ∧ (((2 ≤ k ∧ k ≤ 17) ∨ k = 22) → ab_and f 2 = 0 → cR μ b) ∧ ((k ≤ 21 ∨ k = 23) → cR μ t) ∧ (k = 21 → kR μ 45 b) ∧ (k = 22 → kR μ 45 t) ∧ (k = 1 → ab_and f 1 = 0)
theorem cK.kk {μ : ab_m} {k t a b f : Int} (h'' : cK μ k t a b f) : 0 ≤ k ∧ k ≤ 28 := h''.1
theorem cK.ff {μ : ab_m} {k t a b f : Int} (h'' : cK μ k t a b f) : 0 ≤ f ∧ f ≤ 3 := h''.2.1
theorem cK.ua {μ : ab_m} {k t a b f : Int} (h'' : cK μ k t a b f) : (k ≤ 22 ∨ k = 24 ∨ k = 26 ∨ k = 27) → ab_and f 1 = 0 → cR μ a := h''.2.2.1
theorem cK.ub {μ : ab_m} {k t a b f : Int} (h'' : cK μ k t a b f) : ((2 ≤ k ∧ k ≤ 17) ∨ k = 22) → ab_and f 2 = 0 → cR μ b := h''.2.2.2.1
theorem cK.ud {μ : ab_m} {k t a b f : Int} (h'' : cK μ k t a b f) : (k ≤ 21 ∨ k = 23) → cR μ t := h''.2.2.2.2.1
theorem cK.r1 {μ : ab_m} {k t a b f : Int} (h'' : cK μ k t a b f) : k = 21 → kR μ 45 b := h''.2.2.2.2.2.1
theorem cK.r2 {μ : ab_m} {k t a b f : Int} (h'' : cK μ k t a b f) : k = 22 → kR μ 45 t := h''.2.2.2.2.2.2.1
theorem cK.uc {μ : ab_m} {k t a b f : Int} (h'' : cK μ k t a b f) : k = 1 → ab_and f 1 = 0 := h''.2.2.2.2.2.2.2
section K13
variable {μ μ' : ab_m} {w w' : Int → Int} {t x i y m m' dp dp' : Int} {U U' V V' : Int → Prop}
theorem cK.to {k t a b f o n : Int} (h : cK μ k t a b f) (r : μ 45 6 ≤ μ' 45 6) (s : ∀ j, μ' 51 j = μ 51 j) (e1 : μ' 46 n = k) (e2 : μ' 47 n = t) (e3 : μ' 48 n = a) (e4 : μ' 49 n = b) (e5 : μ' 50 n = f) (hl : k = 25 ∨ k = 26 ∨ k = 27 → o ≠ 0 ∨ 0 ≤ t) : cI μ' o n := by
  have qr : ∀ q, kR μ 45 q → kR μ' 45 q := fun q hq a b => by
    show μ' 51 q ≤ 100
    rw [s]; exact hq a b
  refine ⟨by rw [e1]; exact h.kk, by rw [e5]; exact h.ff, fun y => ?_, fun y => ?_, fun y => ?_, fun y => ?_, fun y => ?_, fun y => ?_, fun y => ?_⟩
  · have y : (μ' 46 n ≤ 22 ∨ μ' 46 n = 24 ∨ μ' 46 n = 26 ∨ μ' 46 n = 27) ∧ ab_and (μ' 50 n) 1 = 0 := y
    rw [e1, e5] at y; rw [e3]; exact (h.ua y.1 y.2).le r
  · have y : ((2 ≤ μ' 46 n ∧ μ' 46 n ≤ 17) ∨ μ' 46 n = 22) ∧ ab_and (μ' 50 n) 2 = 0 := y
    rw [e1, e5] at y; rw [e4]; exact (h.ub y.1 y.2).le r
  · have y : μ' 46 n ≤ 21 ∨ μ' 46 n = 23 := y
    rw [e1] at y; rw [e2]; exact (h.ud y).le r
  · have y : μ' 46 n = 25 ∨ μ' 46 n = 26 ∨ μ' 46 n = 27 := y
    rw [e1] at y; rw [e2]; exact hl y
  · rw [e1] at y; rw [e4]; exact qr _ (h.r1 y)
  · rw [e1] at y; rw [e2]; exact qr _ (h.r2 y)
  · rw [e1] at y; rw [e5]; exact h.uc y
theorem cJ.wn {i : Int} (h : cJ μ w) (b : μ 45 5 ≤ i) : w i = 0 := by
  by_cases z : w i = 0
  · exact z
  · have := (h.ow i z).1; omega
theorem cJ.em {k t a b f : Int} (h : cJ μ w) (e : cEm μ μ' k t a b f) (c : cK μ k t a b f) (hl : k = 25 ∨ k = 26 ∨ k = 27 → 0 ≤ t) : cJ μ' w := by
  have r6 : μ' 45 6 = μ 45 6 := e.fr 45 6 (by omega) (by omega)
  have s : ∀ j, μ' 51 j = μ 51 j := fun j => e.fr 51 j (by omega) (by omega)
  rcases e.go with ⟨g0, g1, g2, g3, g4, g5, g6⟩ | ⟨g1, g2⟩
  · have hn := h.n
    refine ⟨by omega, by have := h.r; omega, fun i a b => ?_, fun i z => ?_, fun t a b => ?_⟩
    · by_cases q : i = μ 45 5
      · subst q; rw [h.wn (Int.le_refl _)]; exact c.to (by omega) s g2 g3 g4 g5 g6 fun y => Or.inr (hl y)
      · exact (h.i i a (by omega)).at (fun c a b => e.fr c i (by omega) (by omega)) (by omega) s fun z => z
    · obtain ⟨w1, w2, w3⟩ := h.ow i z
      exact ⟨by omega, w2.sm (e.fr 46 i (by omega) (by omega)), w3⟩
    · obtain ⟨L, l1, l2⟩ := h.ch t a b
      refine ⟨L, ?_, l2⟩
      rw [e.fr 38 t (by omega) (by omega)]
      refine l1.same fun y hy => e.fr 47 y ?_ (by omega)
      have := (l2 y).mpr hy
      have := (h.ow y (by omega)).1
      omega
  · exact h.up (fun c i z => by
      by_cases q : 46 ≤ c ∧ c ≤ 50
      · exact g2 c i q
      · exact e.fr c i (by omega) (by omega)) g1 (by omega)
/-- a leap that waits for step tt -/
theorem cJ.emP {k a f tt : Int} {μ2 : ab_m} (h : cJ μ w) (t0 : 0 ≤ tt ∧ tt < 3002) (e : cEm μ μ' k (μ 38 tt) a 0 f) (lt : μ 45 5 < μ' 45 5) (c : cK μ k (μ 38 tt) a 0 f) (lp : k = 25 ∨ k = 26 ∨ k = 27) (e2 : μ2 = ab_mu μ' 38 tt (μ 45 5)) : cJ μ2 (lUp w (μ 45 5) (tt + 1)) := by
  have r6 : μ' 45 6 = μ 45 6 := e.fr 45 6 (by omega) (by omega)
  have s : ∀ j, μ' 51 j = μ 51 j := fun j => e.fr 51 j (by omega) (by omega)
  have f2 : ∀ b i, ¬ (b = 38 ∧ i = tt) → μ2 b i = μ' b i := fun b i z => by rw [e2, ab_mud, if_neg z]
  have v38 : μ2 38 tt = μ 45 5 := by rw [e2, ab_mud, if_pos ⟨rfl, rfl⟩]
  have hn := h.n
  rcases e.go with ⟨g0, g1, g2, g3, g4, g5, g6⟩ | ⟨g1, g2⟩
  · refine ⟨by rw [f2 45 5 (by omega)]; omega, by rw [f2 45 6 (by omega)]; have := h.r; omega, fun i a b => ?_, fun i z => ?_, fun t a b => ?_⟩
    · rw [f2 45 5 (by omega)] at b
      unfold lUp
      by_cases q : i = μ 45 5
      · subst q
        rw [if_pos rfl]
        exact c.to (by rw [f2 45 6 (by omega)]; omega) (fun j => by rw [f2 51 j (by omega)]; exact s j) (by rw [f2 46 _ (by omega)]; exact g2) (by rw [f2 47 _ (by omega)]; exact g3) (by rw [f2 48 _ (by omega)]; exact g4) (by rw [f2 49 _ (by omega)]; exact g5) (by rw [f2 50 _ (by omega)]; exact g6) fun _ => Or.inl (by omega)
      · rw [if_neg q]
        exact (h.i i a (by omega)).at (fun c a b => by rw [f2 c i (by omega)]; exact e.fr c i (by omega) (by omega)) (by rw [f2 45 6 (by omega)]; omega) (fun j => by rw [f2 51 j (by omega)]; exact s j) fun z => z
    · rw [f2 45 5 (by omega)]
      unfold lUp at z ⊢
      by_cases q : i = μ 45 5
      · subst q
        rw [if_pos rfl]
        refine ⟨by omega, ?_, by omega⟩
        show μ2 46 _ = 25 ∨ μ2 46 _ = 26 ∨ μ2 46 _ = 27
        rw [f2 46 _ (by omega), g2]; exact lp
      · rw [if_neg q] at z ⊢
        obtain ⟨w1, w2, w3⟩ := h.ow i z
        exact ⟨by omega, w2.sm (by rw [f2 46 i (by omega)]; exact e.fr 46 i (by omega) (by omega)), w3⟩
    · obtain ⟨L, l1, l2⟩ := h.ch t a b
      have lw : ∀ y ∈ L, y < μ 45 5 := fun y hy => by
        have := (l2 y).mpr hy
        have := (h.ow y (by omega)).1
        omega
      have l1' : cDc μ2 L (μ 38 t) := l1.same fun y hy => by
        have := lw y hy
        rw [f2 47 y (by omega)]; exact e.fr 47 y (by omega) (by omega)
      by_cases q : t = tt
      · subst q
        refine ⟨μ 45 5 :: L, ?_, fun i => ?_⟩
        · rw [v38]
          refine ⟨rfl, by omega, by omega, lw, ?_⟩
          rw [f2 47 _ (by omega), g3]
          exact l1'
        · unfold lUp
          by_cases q : i = μ 45 5
          · rw [if_pos q]; exact ⟨fun _ => by rw [q]; exact List.mem_cons_self .., fun _ => rfl⟩
          · rw [if_neg q]
            exact (l2 i).trans ⟨fun z => List.mem_cons_of_mem _ z, fun z => (List.mem_cons.mp z).resolve_left q⟩
      · refine ⟨L, ?_, fun i => ?_⟩
        · rw [f2 38 t (by omega), e.fr 38 t (by omega) (by omega)]; exact l1'
        · unfold lUp
          by_cases q2 : i = μ 45 5
          · subst q2
            rw [if_pos rfl]
            have w0 := h.wn (i := μ 45 5) (Int.le_refl _)
            exact ⟨fun z => by omega, fun z => by have := (l2 _).mpr z; omega⟩
          · rw [if_neg q2]; exact l2 i
  · omega
/-- what waits for step tt comes here -/
theorem cJ.land {tt : Int} {L : List Int} (h : cJ μ w) (t0 : 0 ≤ tt ∧ tt < 3002) (l2 : ∀ i, w i = tt + 1 ↔ i ∈ L) (f : ∀ c j, ¬ (c = 47 ∧ j ∈ L) → ¬ (c = 38 ∧ j = tt) → (46 ≤ c ∧ c ≤ 51) ∨ c = 38 ∨ c = 45 → μ' c j = μ c j) (v38 : μ' 38 tt = -1) (g : ∀ y ∈ L, 0 ≤ μ' 47 y) : cJ μ' (lLd w (tt + 1)) := by
  have n : μ' 45 5 = μ 45 5 := f 45 5 (by omega) (by omega) (by omega)
  have r6 : μ' 45 6 = μ 45 6 := f 45 6 (by omega) (by omega) (by omega)
  have s : ∀ j, μ' 51 j = μ 51 j := fun j => f 51 j (by omega) (by omega) (by omega)
  refine ⟨by rw [n]; exact h.n, by have := h.r; omega, fun i a b => ?_, fun i z => ?_, fun t a b => ?_⟩
  · rw [n] at b
    have hi := h.i i a b
    unfold lLd
    by_cases q : w i = tt + 1
    · rw [if_pos q]
      have iL := (l2 i).mp q
      have kl := (h.ow i (by omega)).2.1
      have kl' : μ 46 i = 25 ∨ μ 46 i = 26 ∨ μ 46 i = 27 := kl
      have e1 := f 46 i (by omega) (by omega) (by omega)
      have e3 := f 48 i (by omega) (by omega) (by omega)
      have e4 := f 49 i (by omega) (by omega) (by omega)
      have e5 := f 50 i (by omega) (by omega) (by omega)
      refine ⟨by rw [e1]; exact hi.k, by rw [e5]; exact hi.f, fun y => ?_, fun y => ?_, fun y => ?_, fun y => Or.inr (g i iL), fun y => ?_, fun y => ?_, fun y => ?_⟩
      · have y : (μ' 46 i ≤ 22 ∨ μ' 46 i = 24 ∨ μ' 46 i = 26 ∨ μ' 46 i = 27) ∧ ab_and (μ' 50 i) 1 = 0 := y
        rw [e1, e5] at y; rw [e3]; exact (hi.a y).le (by omega)
      · have y : ((2 ≤ μ' 46 i ∧ μ' 46 i ≤ 17) ∨ μ' 46 i = 22) ∧ ab_and (μ' 50 i) 2 = 0 := y
        have := y.1
        omega
      · have y : μ' 46 i ≤ 21 ∨ μ' 46 i = 23 := y
        omega
      · omega
      · omega
      · omega
    · rw [if_neg q]
      have nL : ¬ i ∈ L := fun z => q ((l2 i).mpr z)
      exact hi.at (fun c a b => f c i (fun z => nL z.2) (by omega) (by omega)) (by omega) s fun z => z
  · rw [n]
    unfold lLd at z ⊢
    by_cases q : w i = tt + 1
    · rw [if_pos q] at z; exact absurd rfl z
    · rw [if_neg q] at z ⊢
      obtain ⟨w1, w2, w3⟩ := h.ow i z
      exact ⟨w1, w2.sm (f 46 i (by omega) (by omega) (by omega)), w3⟩
  · by_cases q : t = tt
    · subst q
      refine ⟨[], v38, fun i => ⟨fun z => ?_, fun z => absurd z List.not_mem_nil⟩⟩
      unfold lLd at z
      by_cases q : w i = t + 1
      · rw [if_pos q] at z; omega
      · rw [if_neg q] at z; exact absurd z q
    · obtain ⟨L', l1', l2'⟩ := h.ch t a b
      refine ⟨L', ?_, fun i => ?_⟩
      · rw [f 38 t (by omega) (by omega) (by omega)]
        refine l1'.same fun y hy => f 47 y (fun z => ?_) (by omega) (by omega)
        have a1 := (l2 y).mpr z.2
        have a2 := (l2' y).mpr hy
        omega
      · unfold lLd
        by_cases q2 : w i = tt + 1
        · rw [if_pos q2]
          exact ⟨fun z => by omega, fun z => by have := (l2' i).mpr z; omega⟩
        · rw [if_neg q2]; exact l2' i
/-- nothing of the code, nothing that waits -/
theorem cQ.up (h : cQ μ w m dp U V) (f : ∀ c i, (46 ≤ c ∧ c ≤ 51) ∨ c = 38 → μ' c i = μ c i) (n : μ' 45 5 = μ 45 5) (r : μ 45 6 ≤ μ' 45 6) (ho : ∀ j, 0 ≤ j → j < m' → cOp μ' j) (hu : ∀ y, U' y → cR μ' (μ' 40 y)) (hv : ∀ y, V' y → cR μ' (μ' 39 y)) (hf : ∀ i, 0 ≤ i → i < dp' → cR μ' (μ' 44 i)) (hb : ∀ t, 0 ≤ t → t < 3002 → 0 ≤ μ' 37 t) : cQ μ' w m' dp' U' V' := ⟨h.j.up f n r, ho, hu, hv, hf, hb⟩
theorem cQ.fr (h : cQ μ w m dp U V) (f : ∀ c i, (46 ≤ c ∧ c ≤ 51) ∨ (37 ≤ c ∧ c ≤ 42) ∨ c = 44 → μ' c i = μ c i) (n : μ' 45 5 = μ 45 5) (r : μ 45 6 ≤ μ' 45 6) (hm : m' ≤ m) : cQ μ' w m' dp U V :=
  h.up (fun c i z => f c i (by omega)) n r (fun j a b => (h.o j a (by omega)).le r (f 42 j (by omega)) (f 41 j (by omega))) (fun y z => by rw [f 40 y (by omega)]; exact (h.u y z).le r) (fun y z => by rw [f 39 y (by omega)]; exact (h.v y z).le r) (fun i a b => by rw [f 44 i (by omega)]; exact (h.f i a b).le r) fun t ta tb => by rw [f 37 t (by omega)]; exact h.bg t ta tb
theorem cQ.em {k t a b f : Int} (h : cQ μ w m dp U V) (e : cEm μ μ' k t a b f) (c : cK μ k t a b f) (hl : k = 25 ∨ k = 26 ∨ k = 27 → 0 ≤ t) : cQ μ' w m dp U V := by
  have r6 : μ 45 6 ≤ μ' 45 6 := by rw [e.fr 45 6 (by omega) (by omega)]; exact Int.le_refl _
  have g : ∀ c j, 36 ≤ c ∧ c ≤ 44 → μ' c j = μ c j := fun c j z => e.fr c j (by omega) (by omega)
  exact ⟨h.j.em e c hl, fun j a b => (h.o j a b).le r6 (g 42 j (by omega)) (g 41 j (by omega)), fun y z => by rw [g 40 y (by omega)]; exact (h.u y z).le r6, fun y z => by rw [g 39 y (by omega)]; exact (h.v y z).le r6, fun i a b => by rw [g 44 i (by omega)]; exact (h.f i a b).le r6, fun t ta tb => by rw [g 37 t (by omega)]; exact h.bg t ta tb⟩
end K13

/-! THE CLASS, part k14: Maker's small methods -/
section K14
variable {X : jm_X} {d : Nat} {P : Int → ab_m → Prop} {μ μ' μ0 : ab_m} {s b pc m dp : Int} {U U' V V' F F' : Int → Prop}
end K14
/-- a making under way -/
def mS (s : Int) (μ0 μ : ab_m) (b pc m dp : Int) (U V F : Int → Prop) : Prop := (∀ c j, ¬ (37 ≤ c ∧ c ≤ 50 ∧ c ≠ 43) → ¬ (c = 36 ∧ (j = 2 ∨ j = 9 ∨ j = 12)) → μ c j = μ0 c j) ∧ (μ0 36 0 = s ∧ μ0 36 1 = 45) ∧ (μ 36 2 = pc) ∧ (μ 36 9 = m) ∧ (μ 36 12 = dp) ∧ (μ 45 6 ≤ b) ∧ (0 ≤ m ∧ m ≤ 3000) ∧ (∃ w, cQ μ w m dp U V ∧ ∀ i, w i ≠ 0 → F (w i - 1))
theorem mS.fr {s : Int} {μ0 μ : ab_m} {b pc m dp : Int} {U V F : Int → Prop} (h'' : mS s μ0 μ b pc m dp U V F) : ∀ c j, ¬ (37 ≤ c ∧ c ≤ 50 ∧ c ≠ 43) → ¬ (c = 36 ∧ (j = 2 ∨ j = 9 ∨ j = 12)) → μ c j = μ0 c j := h''.1
theorem mS.sc {s : Int} {μ0 μ : ab_m} {b pc m dp : Int} {U V F : Int → Prop} (h'' : mS s μ0 μ b pc m dp U V F) : μ0 36 0 = s ∧ μ0 36 1 = 45 := h''.2.1
theorem mS.at' {s : Int} {μ0 μ : ab_m} {b pc m dp : Int} {U V F : Int → Prop} (h'' : mS s μ0 μ b pc m dp U V F) : μ 36 2 = pc := h''.2.2.1
theorem mS.m9 {s : Int} {μ0 μ : ab_m} {b pc m dp : Int} {U V F : Int → Prop} (h'' : mS s μ0 μ b pc m dp U V F) : μ 36 9 = m := h''.2.2.2.1
theorem mS.cl {s : Int} {μ0 μ : ab_m} {b pc m dp : Int} {U V F : Int → Prop} (h'' : mS s μ0 μ b pc m dp U V F) : μ 36 12 = dp := h''.2.2.2.2.1
theorem mS.rb {s : Int} {μ0 μ : ab_m} {b pc m dp : Int} {U V F : Int → Prop} (h'' : mS s μ0 μ b pc m dp U V F) : μ 45 6 ≤ b := h''.2.2.2.2.2.1
theorem mS.m0 {s : Int} {μ0 μ : ab_m} {b pc m dp : Int} {U V F : Int → Prop} (h'' : mS s μ0 μ b pc m dp U V F) : 0 ≤ m ∧ m ≤ 3000 := h''.2.2.2.2.2.2.1
theorem mS.q {s : Int} {μ0 μ : ab_m} {b pc m dp : Int} {U V F : Int → Prop} (h'' : mS s μ0 μ b pc m dp U V F) : ∃ w, cQ μ w m dp U V ∧ ∀ i, w i ≠ 0 → F (w i - 1) := h''.2.2.2.2.2.2.2
section K14
variable {X : jm_X} {d : Nat} {P : Int → ab_m → Prop} {μ μ' μ0 : ab_m} {s b pc m dp : Int} {U U' V V' F F' : Int → Prop}
theorem mS.self (h : mS s μ0 μ b pc m dp U V F) : mS s μ μ b pc m dp U V F := ⟨fun _ _ _ _ => rfl, by rw [h.fr 36 0 (by omega) (by omega), h.fr 36 1 (by omega) (by omega)]; exact h.sc, h.at', h.m9, h.cl, h.rb, h.m0, h.q⟩
theorem mS.s0 (h : mS s μ0 μ b pc m dp U V F) : μ 36 0 = s ∧ μ 36 1 = 45 := by
  rw [h.fr 36 0 (by omega) (by omega), h.fr 36 1 (by omega) (by omega)]; exact h.sc
theorem mS.nr (h : mS s μ0 μ b pc m dp U V F) : (0 ≤ μ 45 5 ∧ μ 45 5 ≤ 400) ∧ 0 ≤ μ 45 6 := by
  obtain ⟨w, Q, -⟩ := h.q
  exact ⟨Q.j.n, Q.j.r⟩
theorem mS.le {b' : Int} (h : mS s μ0 μ b pc m dp U V F) (hb : b ≤ b') : mS s μ0 μ b' pc m dp U V F := ⟨h.fr, h.sc, h.at', h.m9, h.cl, by have := h.rb; omega, h.m0, h.q⟩
theorem mS.sub (h : mS s μ0 μ b pc m dp U V F) (hu : ∀ y, U' y → U y) (hv : ∀ y, V' y → V y) (hf : ∀ y, F y → F' y) : mS s μ0 μ b pc m dp U' V' F' := ⟨h.fr, h.sc, h.at', h.m9, h.cl, h.rb, h.m0, by
  obtain ⟨w, Q, f⟩ := h.q
  exact ⟨w, ⟨Q.j, Q.o, fun y z => Q.u y (hu y z), fun y z => Q.v y (hv y z), Q.f, Q.bg⟩, fun i z => hf _ (f i z)⟩⟩
theorem c_ma_reg (h : mS s μ0 μ b pc m dp U V F) (hb : b ≤ 100000) (hP : ∀ r μ', mS s μ0 μ' (b + 1) pc m dp U V F → cR μ' r → μ' 45 6 = μ 45 6 + 1 → (∀ c j, ¬ (c = 45 ∧ j = 6) → μ' c j = μ c j) → P r μ') : jj_mCo_takeRegister X d 0 (ab_la [45]) [] μ P := by
  have nr := h.nr
  have rb := h.rb
  refine bk_mCo_takeRegister_0 (Or.inl rfl) fun μ1 e1 => ?_
  have e1 : μ1 = ab_mu μ 45 6 (ab_w (μ 45 6 + 1)) := e1
  rw [show ab_w (μ 45 6 + 1) = μ 45 6 + 1 from ab_wi (by omega) (by omega)] at e1
  have v : μ1 45 6 = μ 45 6 + 1 := by rw [e1, ab_mud, if_pos ⟨rfl, rfl⟩]
  have f : ∀ c j, ¬ (c = 45 ∧ j = 6) → μ1 c j = μ c j := fun c j y => by rw [e1, ab_mud, if_neg y]
  show P (ab_w (μ1 45 6 - 1)) μ1
  rw [v, show ab_w (μ 45 6 + 1 - 1) = μ 45 6 by rw [ab_wi (by omega) (by omega)]; omega]
  refine hP _ μ1 ⟨fun c j y1 y2 => by rw [f c j (by omega)]; exact h.fr c j y1 y2, h.sc, by rw [f 36 2 (by omega)]; exact h.at', by rw [f 36 9 (by omega)]; exact h.m9, by rw [f 36 12 (by omega)]; exact h.cl, by omega, h.m0, ?_⟩ ⟨nr.2, by omega⟩ v f
  obtain ⟨w, Q, ft⟩ := h.q
  exact ⟨w, Q.fr (fun c i z => f c i (by omega)) (f 45 5 (by omega)) (by omega) (Int.le_refl _), ft⟩
theorem c_ma_add0 {k t a bb f : Int} (hn : 0 ≤ μ 45 5 ∧ μ 45 5 ≤ 400) (hP : ∀ r μ', cEm μ μ' k t a bb f → (μ 45 5 < 400 → r = μ 45 5) → (μ' 45 5 = μ 45 5 → μ' 45 7 = 1) → (μ 45 5 < μ' 45 5 → μ' 45 7 = μ 45 7) → P r μ') : jj_mCo_add X (d + 1) 0 (ab_la [45, k, t, a, bb, f]) [] μ P := by
  refine bk_mCo_add_0 (Or.inl rfl) ⟨fun z => ?_, fun z μ8 e8 => ?_⟩
  · have z : μ 45 5 < 400 := z
    refine c_mCo_put (o := 45) (i := μ 45 5) (Or.inl rfl) ⟨hn.1, z⟩ fun μ1 f1 v1 v2 v3 v4 v5 => ?_
    have e5 : μ1 45 5 = μ 45 5 := f1 45 5 (by omega)
    show (0 ≤ μ1 45 5 ∧ μ1 45 5 < 400) ∧ _
    refine ⟨by omega, fun μ4 e4 μ5 e55 => ?_⟩
    have e4 : μ4 = ab_mu μ1 49 (μ1 45 5) bb := e4
    have e55 : μ5 = ab_mu μ4 45 5 (ab_w (μ4 45 5 + 1)) := e55
    have e45 : μ4 45 5 = μ 45 5 := by rw [e4, mu_ne (by decide)]; exact e5
    rw [e45, show ab_w (μ 45 5 + 1) = μ 45 5 + 1 from ab_wi (by omega) (by omega)] at e55
    rw [e5] at e4
    have v55 : μ5 45 5 = μ 45 5 + 1 := by rw [e55, ab_mud, if_pos ⟨rfl, rfl⟩]
    show P (ab_w (μ5 45 5 - 1)) μ5
    rw [v55, show ab_w (μ 45 5 + 1 - 1) = μ 45 5 by rw [ab_wi (by omega) (by omega)]; omega]
    have g : ∀ c j, c ≠ 49 → ¬ (c = 45 ∧ j = 5) → μ5 c j = μ1 c j := fun c j y1 y2 => by rw [e55, ab_mud, if_neg y2, e4, mu_ne y1]
    refine hP _ μ5 ⟨fun c j y1 y2 => ?_, Or.inl ⟨z, v55, by rw [g 46 _ (by decide) (by omega)]; exact v1, by rw [g 47 _ (by decide) (by omega)]; exact v2, by rw [g 48 _ (by decide) (by omega)]; exact v3, by rw [e55, mu_ne (by decide), e4, ab_mud, if_pos ⟨rfl, rfl⟩], by rw [g 50 _ (by decide) (by omega)]; exact v5⟩⟩ (fun _ => rfl) (fun y => by omega) fun _ => ?_
    · rw [e55, ab_mud, if_neg (by omega), e4, ab_mud, if_neg (by omega)]; exact f1 c j (by omega)
    · rw [g 45 7 (by decide) (by omega)]; exact f1 45 7 (by omega)
  · have z : 400 ≤ μ 45 5 := z
    have e8 : μ8 = ab_mu μ 45 7 1 := e8
    have g : ∀ c j, ¬ (c = 45 ∧ j = 7) → μ8 c j = μ c j := fun c j y => by rw [e8, ab_mud, if_neg y]
    exact hP _ μ8 ⟨fun c j y1 y2 => g c j (by omega), Or.inr ⟨g 45 5 (by omega), fun c j y => g c j (by omega)⟩⟩ (fun y => by omega) (fun _ => by rw [e8, ab_mud, if_pos ⟨rfl, rfl⟩]) fun y => by rw [g 45 5 (by omega)] at y; omega
/-- what an act tells of how long the code is -/
def mLn (μ μ' : ab_m) : Prop := (μ 45 7 ≠ 0 → μ' 45 7 ≠ 0) ∧ μ 45 5 ≤ μ' 45 5
theorem mLn.rf : mLn μ μ := ⟨fun z => z, Int.le_refl _⟩
theorem mLn.trans {μ2 : ab_m} (h : mLn μ μ') (h2 : mLn μ' μ2) : mLn μ μ2 := ⟨fun z => h2.1 (h.1 z), Int.le_trans h.2 h2.2⟩
theorem mLn.of (f7 : μ' 45 7 = μ 45 7) (f5 : μ' 45 5 = μ 45 5) : mLn μ μ' := ⟨fun z => by rw [f7]; exact z, by omega⟩
/-- it emits: one more, or too long -/
def mEt (μ μ' : ab_m) : Prop := mLn μ μ' ∧ (μ' 45 7 = 0 → μ 45 5 + 1 ≤ μ' 45 5)
theorem mEt.l {μ2 : ab_m} (h : mEt μ μ') (h2 : mLn μ' μ2) : mEt μ μ2 := ⟨h.1.trans h2, fun z => by
  have a : μ' 45 7 = 0 := by
    by_cases q : μ' 45 7 = 0
    · exact q
    · exact absurd z (h2.1 q)
  have := h.2 a
  have := h2.2
  omega⟩
theorem mEt.r {μ2 : ab_m} (h : mLn μ μ') (h2 : mEt μ' μ2) : mEt μ μ2 := ⟨h.trans h2.1, fun z => by have := h2.2 z; have := h.2; omega⟩
theorem c_ma_add {k t a bb f : Int} (h : mS s μ0 μ b pc m dp U V F) (c : cK μ k t a bb f) (hl : k = 25 ∨ k = 26 ∨ k = 27 → 0 ≤ t) (hP : ∀ r μ', mS s μ0 μ' b pc m dp U V F → mEt μ μ' → μ' 45 6 = μ 45 6 → (∀ c j, ¬ (45 ≤ c ∧ c ≤ 50) → μ' c j = μ c j) → P r μ') : jj_mCo_add X (d + 1) 0 (ab_la [45, k, t, a, bb, f]) [] μ P := by
  have nr := h.nr
  refine c_ma_add0 nr.1 fun r μ' e _ g1 g2 => ?_
  have g : ∀ c j, ¬ (45 ≤ c ∧ c ≤ 50) → μ' c j = μ c j := fun c j y => e.fr c j (by omega) (by omega)
  have r6 : μ' 45 6 = μ 45 6 := e.fr 45 6 (by omega) (by omega)
  refine hP r μ' ⟨fun c j y1 y2 => ?_, h.sc, by rw [g 36 2 (by omega)]; exact h.at', by rw [g 36 9 (by omega)]; exact h.m9, by rw [g 36 12 (by omega)]; exact h.cl, by rw [r6]; exact h.rb, h.m0, ?_⟩ ?_ r6 g
  · rw [g c j (by omega)]; exact h.fr c j y1 y2
  · obtain ⟨w, Q, ft⟩ := h.q
    exact ⟨w, Q.em e c hl, ft⟩
  · rcases e.go with ⟨_, q1, _⟩ | ⟨q1, _⟩
    · exact ⟨⟨fun z => by rw [g2 (by omega)]; exact z, by omega⟩, fun _ => by omega⟩
    · have := g1 q1
      exact ⟨⟨fun z => by omega, by omega⟩, fun z => by omega⟩
theorem c_mMa_pop (h : mS s μ0 μ b pc m dp U V F) (hm : 1 ≤ m) (hP : ∀ μ', mS s μ0 μ' b pc (m - 1) dp U V F → (∀ c j, ¬ (c = 36 ∧ j = 9) → μ' c j = μ c j) → P (m - 1) μ') : jj_mMa_pop X d 0 (ab_la [36]) [] μ P := by
  have m0 := h.m0
  have e9 := h.m9
  refine bk_mMa_pop_0 rfl ⟨fun z => by omega, fun z μ1 e1 => ?_⟩
  rw [e9, show ab_w (m - 1) = m - 1 from ab_wi (by omega) (by omega)] at e1
  have f : ∀ c j, ¬ (c = 36 ∧ j = 9) → μ1 c j = μ c j := fun c j y => by rw [e1, ab_mud, if_neg y]
  have v : μ1 36 9 = m - 1 := by rw [e1, ab_mud, if_pos ⟨rfl, rfl⟩]
  rw [v]
  refine hP μ1 ⟨fun c j y1 y2 => by rw [f c j (by omega)]; exact h.fr c j y1 y2, h.sc, by rw [f 36 2 (by omega)]; exact h.at', v, by rw [f 36 12 (by omega)]; exact h.cl, by rw [f 45 6 (by omega)]; exact h.rb, by omega, ?_⟩ f
  obtain ⟨w, Q, ft⟩ := h.q
  exact ⟨w, Q.fr (fun c i z => f c i (by omega)) (f 45 5 (by omega)) (by rw [f 45 6 (by omega)]; exact Int.le_refl _) (by omega), ft⟩
theorem c_mMa_push {v f : Int} (h : mS s μ0 μ b pc m dp U V F) (hm : m < 3000) (hv : (f = 0 ∧ cR μ v) ∨ f = 1) (hP : ∀ μ', mS s μ0 μ' b pc (m + 1) dp U V F → (∀ c j, ¬ (c = 36 ∧ j = 9) → c ≠ 41 → c ≠ 42 → μ' c j = μ c j) → P 0 μ') : jj_mMa_push X d 0 (ab_la [36, v, f]) [] μ P := by
  have m0 := h.m0
  have e9 := h.m9
  refine bk_mMa_push_0 rfl ⟨fun z => by omega, fun z => ?_⟩
  rw [e9]
  refine ⟨by omega, fun μ1 e1 => ?_⟩
  have v1 : μ1 36 9 = m := by rw [e1, mu_ne (by decide)]; exact e9
  rw [v1]
  refine ⟨by omega, fun μ2 e2 μ3 e3 => ?_⟩
  have v2 : μ2 36 9 = m := by rw [e2, mu_ne (by decide)]; exact v1
  rw [v2, show ab_w (m + 1) = m + 1 from ab_wi (by omega) (by omega)] at e3
  have e1 : μ1 = ab_mu μ 41 m v := e1
  have e2 : μ2 = ab_mu μ1 42 m f := e2
  have g : ∀ c j, ¬ (c = 36 ∧ j = 9) → c ≠ 41 → c ≠ 42 → μ3 c j = μ c j := fun c j y1 y2 y3 => by rw [e3, ab_mud, if_neg y1, e2, mu_ne y3, e1, mu_ne y2]
  have r6 : μ3 45 6 = μ 45 6 := g 45 6 (by omega) (by decide) (by decide)
  refine hP μ3 ⟨fun c j y1 y2 => by rw [g c j (by omega) (by omega) (by omega)]; exact h.fr c j y1 y2, h.sc, by rw [g 36 2 (by omega) (by decide) (by decide)]; exact h.at', by rw [e3, ab_mud, if_pos ⟨rfl, rfl⟩], by rw [g 36 12 (by omega) (by decide) (by decide)]; exact h.cl, by rw [r6]; exact h.rb, by omega, ?_⟩ g
  obtain ⟨w, Q, ft⟩ := h.q
  refine ⟨w, Q.up (fun c i z => g c i (by omega) (by omega) (by omega)) (g 45 5 (by omega) (by decide) (by decide)) (by omega) (fun j j0 j1 => ?_) (fun y z => by rw [g 40 y (by omega) (by decide) (by decide)]; exact (Q.u y z).le (by omega)) (fun y z => by rw [g 39 y (by omega) (by decide) (by decide)]; exact (Q.v y z).le (by omega)) (fun i a b => by rw [g 44 i (by omega) (by decide) (by decide)]; exact (Q.f i a b).le (by omega)) fun t ta tb => by rw [g 37 t (by omega) (by decide) (by decide)]; exact Q.bg t ta tb, ft⟩
  by_cases e : j = m
  · subst e
    unfold cOp
    rw [show μ3 42 j = f by rw [e3, mu_ne (by decide), e2, ab_mud, if_pos ⟨rfl, rfl⟩], show μ3 41 j = v by rw [e3, mu_ne (by decide), e2, mu_ne (by decide), e1, ab_mud, if_pos ⟨rfl, rfl⟩]]
    exact hv.imp (fun z => ⟨z.1, z.2.le (by omega)⟩) fun z => z
  · refine (Q.o j j0 (by omega)).le (by omega) ?_ ?_
    · rw [e3, mu_ne (by decide), e2, ab_mud, if_neg (fun q => e q.2), e1, mu_ne (by decide)]
    · rw [e3, mu_ne (by decide), e2, mu_ne (by decide), e1, ab_mud, if_neg (fun q => e q.2)]
end K14

/-! THE CLASS, part k15: Maker's steps -/
section K15
variable {X : jm_X} {d : Nat} {P : Int → ab_m → Prop} {μ μ' μ0 : ab_m} {s b pc m dp : Int} {U U' V V' F F' : Int → Prop}
theorem fmk2 {e g : Int} (he : e = 0 ∨ e = 1) (hg : g = 0 ∨ g = 1) : (ab_and (e + 2 * g) 1 = 0 → e = 0) ∧ (ab_and (e + 2 * g) 2 = 0 → g = 0) := by
  rcases he with he | he <;> rcases hg with hg | hg <;> subst he <;> subst hg <;> decide +kernel
theorem cOp.f01 {j : Int} (h : cOp μ j) : μ 42 j = 0 ∨ μ 42 j = 1 := h.imp (fun z => z.1) fun z => z
theorem cOp.r {j : Int} (h : cOp μ j) (z : μ 42 j = 0) : cR μ (μ 41 j) := by
  rcases h with h | h
  · exact h.2
  · omega
/-- SET or COPY of an operand -/
theorem cK.lay {j r : Int} (h : cOp μ j) (hr : cR μ r) : (μ 42 j ≠ 1 → cK μ 1 r (μ 41 j) 0 (μ 42 j)) ∧ (μ 42 j = 1 → cK μ 0 r (μ 41 j) 0 (μ 42 j)) := by
  have f := h.f01
  refine ⟨fun z => ?_, fun z => ?_⟩
  · have e : μ 42 j = 0 := by omega
    rw [e]
    exact ⟨by omega, by omega, fun _ _ => h.r e, fun y => by omega, fun _ => hr, fun y => by omega, fun y => by omega, fun _ => and01⟩
  · rw [z]
    exact ⟨by omega, by omega, fun _ y => absurd y and11, fun y => by omega, fun _ => hr, fun y => by omega, fun y => by omega, fun y => by omega⟩
theorem cK.set {r v : Int} (hr : cR μ r) : cK μ 0 r v 0 1 := ⟨by omega, by omega, fun _ y => absurd y and11, fun y => by omega, fun _ => hr, fun y => by omega, fun y => by omega, fun y => by omega⟩
theorem mS.op (h : mS s μ0 μ b pc m dp U V F) {j : Int} (a : 0 ≤ j) (c : j < m) : cOp μ j := by
  obtain ⟨w, Q, -⟩ := h.q
  exact Q.o j a c
theorem mS.ln (f : ∀ c j, ¬ (c = 36 ∧ j = 9) → μ' c j = μ c j) : mLn μ μ' := mLn.of (f 45 7 (by omega)) (f 45 5 (by omega))
theorem c_mMa_lay {r : Int} (h : mS s μ0 μ b pc m dp U V F) (hm : 1 ≤ m) (hr : cR μ r) (hP : ∀ μ', mS s μ0 μ' b pc (m - 1) dp U V F → mEt μ μ' → (∀ c j, 51 ≤ c → μ' c j = μ c j) → P 0 μ') : jj_mMa_lay X (d + 2) 0 (ab_la [36, r]) [] μ P := by
  have m0 := h.m0
  have o1 := h.op (j := m - 1) (by omega) (by omega)
  refine bk_mMa_lay_0 rfl (c_mMa_pop h hm fun μ1 h1 f1 => ?_)
  have e1 := h1.s0.2
  have r6 : μ1 45 6 = μ 45 6 := f1 45 6 (by omega)
  have o2 : cOp μ1 (m - 1) := o1.le (by omega) (f1 42 _ (by omega)) (f1 41 _ (by omega))
  obtain ⟨k1, k2⟩ := cK.lay o2 (hr.le (μ' := μ1) (by omega))
  have go : ∀ (k : Int) (l : ab_l), l 0 = 36 → l 1 = r → l 2 = m - 1 → (k = 0 ∨ k = 1) → cK μ1 k r (μ1 41 (m - 1)) 0 (μ1 42 (m - 1)) → jj_mMa_lay X (d + 2) 24 l [(0, k), (2, 45)] μ1 P := by
    intro k l l0 l1 l2 k01 ck
    refine bk_mMa_lay_24 l0 ?_
    rw [l1, l2]
    exact ⟨by omega, by omega, Or.inl rfl, c_ma_add h1 ck (fun y => by omega) fun q μ2 h2 e2 _ g2 => hP μ2 h2 (e2.r (mS.ln f1)) fun c j y => by rw [g2 c j (by omega), f1 c j (by omega)]⟩
  rw [e1]
  exact ⟨by omega, fun z => go 1 _ rfl rfl rfl (Or.inr rfl) (k1 z), fun z => go 0 _ rfl rfl rfl (Or.inl rfl) (k2 z)⟩
theorem c_mMa_tellInt {y : Int} (h : mS s μ0 μ b pc m dp U V F) (hb : b ≤ 100000) (hy : 0 ≤ y ∧ y < 3000) (hP : ∀ μ', mS s μ0 μ' (b + 1) pc m dp (fun x => U x ∨ x = y) V F → mEt μ μ' → P 0 μ') : jj_mMa_tellInt X (d + 2) 0 (ab_la [36, y]) [] μ P := by
  refine bk_mMa_tellInt_0 rfl ?_
  rw [h.s0.2]
  refine ⟨Or.inl rfl, c_ma_reg h hb fun r μ1 h1 cr v1 f1 => ⟨hy, fun μ2 e2 => ⟨hy, ?_⟩⟩⟩
  have e2 : μ2 = ab_mu μ1 40 y r := e2
  have g2 : ∀ c j, c ≠ 40 → μ2 c j = μ1 c j := fun c j z => by rw [e2, mu_ne z]
  have v : μ2 40 y = r := by rw [e2, ab_mud, if_pos ⟨rfl, rfl⟩]
  have r6 : μ2 45 6 = μ1 45 6 := g2 45 6 (by decide)
  have h2 : mS s μ0 μ2 (b + 1) pc m dp (fun x => U x ∨ x = y) V F := by
    refine ⟨fun c j y1 y2 => by rw [g2 c j (by omega)]; exact h1.fr c j y1 y2, h1.sc, by rw [g2 36 2 (by decide)]; exact h1.at', by rw [g2 36 9 (by decide)]; exact h1.m9, by rw [g2 36 12 (by decide)]; exact h1.cl, by rw [r6]; exact h1.rb, h1.m0, ?_⟩
    obtain ⟨w, Q, ft⟩ := h1.q
    refine ⟨w, Q.up (fun c i z => g2 c i (by omega)) (g2 45 5 (by decide)) (by omega) (fun j a c => (Q.o j a c).le (by omega) (g2 42 j (by decide)) (g2 41 j (by decide))) (fun x z => ?_) (fun x z => by rw [g2 39 x (by decide)]; exact (Q.v x z).le (by omega)) (fun i a c => by rw [g2 44 i (by decide)]; exact (Q.f i a c).le (by omega)) fun t ta tb => by rw [g2 37 t (by decide)]; exact Q.bg t ta tb, ft⟩
    by_cases q : x = y
    · rw [q, v]; exact cr.le (by omega)
    · rw [e2, ab_mud, if_neg (fun p => q p.2)]
      exact (Q.u x (z.resolve_right q)).le (by rw [mu_ne (by decide)]; exact Int.le_refl _)
  show ab_is 1 (μ2 36 1) ∧ jj_mCo_add X (d + 1) 0 (ab_la [μ2 36 1, 0, μ2 40 y, 0, 0, 1]) [] μ2 _
  rw [h2.s0.2, v]
  exact ⟨Or.inl rfl, c_ma_add h2 (cK.set (cr.le (by omega))) (fun y => by omega) fun q μ3 h3 e3 _ _ => hP μ3 h3 (e3.r (mLn.of (by rw [g2 45 7 (by decide), f1 45 7 (by omega)]) (by rw [g2 45 5 (by decide), f1 45 5 (by omega)])))⟩
/-- a fresh register from an instruction, pushed -/
theorem c_ma_fresh {k a bb f : Int} {Q : Int → ab_m → Prop} (h : mS s μ0 μ b pc m dp U V F) (hb : b ≤ 100000) (hm : m < 3000) (hk : 1 ≤ k ∧ k ≤ 21) (ck : ∀ μ1 r, cR μ1 r → μ 45 6 ≤ μ1 45 6 → (∀ j, μ1 51 j = μ 51 j) → cK μ1 k r a bb f) (hP : ∀ μ', mS s μ0 μ' (b + 1) pc (m + 1) dp U V F → mEt μ μ' → Q 0 μ') : jj_mCo_takeRegister X (d + 1) 0 (ab_la [45]) [] μ (fun r2 μ1 => ab_is 1 (μ1 36 1) ∧ jj_mCo_add X (d + 1) 0 (ab_la [μ1 36 1, k, r2, a, bb, f]) [] μ1 (fun _ μ5 => jj_mMa_push X (d + 1) 0 (ab_la [36, r2, 0]) [] μ5 (fun _ μ9 => Q 0 μ9))) := by
  refine c_ma_reg h hb fun r μ1 h1 cr v1 f1 => ?_
  rw [h1.s0.2]
  have nr := h.nr
  have n1 := h1.nr
  refine ⟨Or.inl rfl, c_ma_add h1 (ck μ1 r cr (by omega) fun j => f1 51 j (by omega)) (fun y => by omega) fun q μ2 h2 e2 r2 g2 => c_mMa_push h2 hm (Or.inl ⟨rfl, cr.le (by omega)⟩) fun μ3 h3 g3 => hP μ3 h3 ?_⟩
  exact (e2.r (mLn.of (f1 45 7 (by omega)) (f1 45 5 (by omega)))).l (mLn.of (g3 45 7 (by omega) (by decide) (by decide)) (g3 45 5 (by omega) (by decide) (by decide)))
theorem c_mMa_pushCopy {r : Int} (h : mS s μ0 μ b pc m dp U V F) (hb : b ≤ 100000) (hm : m < 3000) (hr : cR μ r) (hP : ∀ μ', mS s μ0 μ' (b + 1) pc (m + 1) dp U V F → mEt μ μ' → P 0 μ') : jj_mMa_pushCopy X (d + 2) 0 (ab_la [36, r]) [] μ P := by
  refine bk_mMa_pushCopy_0 rfl ?_
  rw [h.s0.2]
  exact ⟨Or.inl rfl, c_ma_fresh h hb hm (by omega) (fun μ1 q cq le _ => ⟨by omega, by omega, fun _ _ => hr.le le, fun y => by omega, fun _ => cq, fun y => by omega, fun y => by omega, fun _ => and01⟩) hP⟩
theorem c_mMa_show (h : mS s μ0 μ b pc m dp U V F) (hm : 1 ≤ m) (hP : ∀ μ', mS s μ0 μ' b pc (m - 1) dp U V F → mEt μ μ' → P 0 μ') : jj_mMa_show X (d + 2) 0 (ab_la [36]) [] μ P := by
  have m0 := h.m0
  have o1 := h.op (j := m - 1) (by omega) (by omega)
  refine bk_mMa_show_0 rfl (c_mMa_pop h hm fun μ1 h1 f1 => ?_)
  have o2 : cOp μ1 (m - 1) := o1.le (by rw [f1 45 6 (by omega)]; exact Int.le_refl _) (f1 42 _ (by omega)) (f1 41 _ (by omega))
  have f01 := o2.f01
  rw [h1.s0.2]
  have ck : cK μ1 24 0 (μ1 41 (m - 1)) 0 (μ1 42 (m - 1)) := by
    rcases f01 with z | z
    · rw [z]; exact ⟨by omega, by omega, fun _ _ => o2.r z, fun y => by omega, fun y => by omega, fun y => by omega, fun y => by omega, fun y => by omega⟩
    · rw [z]; exact ⟨by omega, by omega, fun _ y => absurd y and11, fun y => by omega, fun y => by omega, fun y => by omega, fun y => by omega, fun y => by omega⟩
  exact ⟨by omega, by omega, Or.inl rfl, c_ma_add h1 ck (fun y => by omega) fun q μ2 h2 e2 _ _ => hP μ2 h2 (e2.r (mS.ln f1))⟩
theorem c_mMa_endTruth {t : Int} (h : mS s μ0 μ b pc m dp U V F) (hm : 1 ≤ m) (ht : cR μ t) (hP : ∀ μ', mS s μ0 μ' b pc m dp U V F → mEt μ μ' → P 0 μ') : jj_mMa_endTruth X (d + 2) 0 (ab_la [36, t]) [] μ P := by
  have m0 := h.m0
  have o1 := h.op (j := m - 1) (by omega) (by omega)
  refine bk_mMa_endTruth_0 rfl (c_mMa_pop h hm fun μ1 h1 f1 => ?_)
  have r6 : μ1 45 6 = μ 45 6 := f1 45 6 (by omega)
  have o2 : cOp μ1 (m - 1) := o1.le (by omega) (f1 42 _ (by omega)) (f1 41 _ (by omega))
  have f01 := o2.f01
  rw [h1.s0.2, show ab_w (μ1 42 (m - 1) + 2) = μ1 42 (m - 1) + 2 from ab_wi (by omega) (by omega)]
  have ck : cK μ1 13 t (μ1 41 (m - 1)) 0 (μ1 42 (m - 1) + 2) := by
    have q := fmk2 (g := 1) f01 (Or.inr rfl)
    rw [show (2 : Int) * 1 = 2 by decide] at q
    exact ⟨by omega, by omega, fun _ y => o2.r (q.1 y), fun _ y => absurd (q.2 y) (by decide), fun _ => ht.le (by omega), fun y => by omega, fun y => by omega, fun y => by omega⟩
  refine ⟨by omega, by omega, Or.inl rfl, c_ma_add h1 ck (fun y => by omega) fun q μ2 h2 e2 r2 _ => c_mMa_push h2 (by omega) (Or.inl ⟨rfl, ht.le (by omega)⟩) fun μ3 h3 g3 => hP μ3 (by rw [show m - 1 + 1 = m by omega] at h3; exact h3) ((e2.r (mS.ln f1)).l (mLn.of (g3 45 7 (by omega) (by decide) (by decide)) (g3 45 5 (by omega) (by decide) (by decide))))⟩
/-- two operands and what is done with them -/
theorem c_mMa_takeWork {k row : Int} (h : mS s μ0 μ b pc m dp U V F) (hb : b ≤ 100000) (hk : 2 ≤ k ∧ k ≤ 22) (hm : 1 ≤ m ∧ (k ≤ 17 ∨ k = 22 → 2 ≤ m)) (hr : k = 21 ∨ k = 22 → kR μ 45 row) (hP : ∀ μ', mS s μ0 μ' (b + 1) pc (if k ≤ 17 then m - 1 else if k = 22 then m - 2 else m) dp U V F → mEt μ μ' → P 0 μ') : jj_mMa_takeWork X (d + 3) 0 (ab_la [36, k, row]) [] μ P := by
  have m0 := h.m0
  have go : ∀ (l : ab_l) (μ1 : ab_m) (m1 hs bb fa : Int), l 0 = 36 → l 1 = k → l 2 = row → l 3 = hs → l 5 = m1 - 1 → l 6 = bb → mS s μ0 μ1 b pc (m1 - 1) dp U V F → 1 ≤ m1 → m1 ≤ 3000 → mLn μ μ1 → μ1 45 6 = μ 45 6 → (∀ j, μ1 51 j = μ 51 j) → (∀ r, cR μ1 r → True) → (∀ μ2 r, cR μ2 r → μ1 45 6 ≤ μ2 45 6 → (∀ j, μ2 51 j = μ1 51 j) → k ≠ 22 → cK μ2 k r (μ1 41 (m1 - 1)) bb fa) → (k = 22 → cK μ1 22 row (μ1 41 (m1 - 1)) bb fa) → (if k ≤ 17 then m - 1 else if k = 22 then m - 2 else m) = (if k = 22 then m1 - 1 else m1) → ∀ s0 s1, ab_w (s0 + s1) = fa → jj_mMa_takeWork X (d + 3) 89 l [(0, s1), (0, s0)] μ1 P := by
    intro l μ1 m1 hs bb fa l0 l1 l2 l3 l5 l6 h1 m11 m13 ln r6 s51 _ ck ck2 em s0 s1 ef
    refine bk_mMa_takeWork_89 l0 ?_
    rw [l1, l2, l5, l6, ef, h1.s0.2]
    refine ⟨by omega, fun n22 => ⟨Or.inl rfl, c_ma_fresh h1 hb (by omega) ?_ (fun μ2 r cr le s2 => ck μ2 r cr le s2 n22) fun μ2 h2 e2 => hP μ2 ?_ (e2.r ln)⟩, fun e22 => ⟨Or.inl rfl, c_ma_add h1 (ck2 e22) (fun y => by omega) fun q μ2 h2 e2 _ _ => hP μ2 ?_ (e2.r ln)⟩⟩
    · omega
    · rw [em, if_neg n22]
      rw [show m1 - 1 + 1 = m1 by omega] at h2
      exact h2
    · rw [em, if_pos e22]; exact h2.le (by omega)
  refine bk_mMa_takeWork_0 rfl ?_
  show (k ≤ 17 → _) ∧ (17 < k → (k ≠ 22 → _) ∧ (k = 22 → _))
  have two : k ≤ 17 ∨ k = 22 → jj_mMa_pop X (d + 2) 0 (ab_la [36]) [] μ (fun r2 μ1 => jj_mMa_takeWork X (d + 3) 30 (ab_up (ab_la [36, k, row]) 3 1) [(0, r2)] μ1 P) := fun k2 => by
    have m2 := hm.2 k2
    have o1 := h.op (j := m - 1) (by omega) (by omega)
    have o2 := h.op (j := m - 2) (by omega) (by omega)
    refine c_mMa_pop h (by omega) fun μ1 h1 f1 => bk_mMa_takeWork_30 rfl (c_mMa_pop h1 (by omega) fun μ2 h2 f2 => ?_)
    have r6 : μ2 45 6 = μ 45 6 := by rw [f2 45 6 (by omega), f1 45 6 (by omega)]
    have p1 : cOp μ2 (m - 1) := o1.le (by omega) (by rw [f2 42 _ (by omega), f1 42 _ (by omega)]) (by rw [f2 41 _ (by omega), f1 41 _ (by omega)])
    have p2 : cOp μ2 (m - 2) := o2.le (by omega) (by rw [f2 42 _ (by omega), f1 42 _ (by omega)]) (by rw [f2 41 _ (by omega), f1 41 _ (by omega)])
    have s51 : ∀ j, μ2 51 j = μ 51 j := fun j => by rw [f2 51 j (by omega), f1 51 j (by omega)]
    have a1 := p1.f01
    have a2 := p2.f01
    have q := fmk2 a2 a1
    rw [show m - 1 - 1 = m - 2 by omega] at h2
    show ((1 : Int) = 0 → _) ∧ ((1 : Int) ≠ 0 → (0 ≤ m - 1 ∧ m - 1 < 3000) ∧ jj_mMa_takeWork X (d + 3) 63 (ab_up (ab_up (ab_up (ab_la [36, k, row]) 3 1) 4 (m - 1)) 5 (m - 1 - 1)) [(0, μ2 41 (m - 1))] μ2 P)
    refine ⟨fun y => absurd y (by decide), fun _ => ⟨by omega, bk_mMa_takeWork_63 rfl ?_⟩⟩
    show (0 ≤ m - 1 - 1 ∧ m - 1 - 1 < 3000) ∧ ((1 : Int) = 0 → _) ∧ ((1 : Int) ≠ 0 → (0 ≤ m - 1 ∧ m - 1 < 3000) ∧ jj_mMa_takeWork X (d + 3) 89 (ab_up (ab_up (ab_up (ab_up (ab_la [36, k, row]) 3 1) 4 (m - 1)) 5 (m - 1 - 1)) 6 (μ2 41 (m - 1))) [(0, ab_w (2 * μ2 42 (m - 1))), (0, μ2 42 (m - 1 - 1))] μ2 P)
    refine ⟨by omega, fun y => absurd y (by decide), fun _ => ⟨by omega, ?_⟩⟩
    rw [show ab_w (2 * μ2 42 (m - 1)) = 2 * μ2 42 (m - 1) from ab_wi (by omega) (by omega), show m - 1 - 1 = m - 2 by omega]
    refine go _ μ2 (m - 1) 1 (μ2 41 (m - 1)) (μ2 42 (m - 2) + 2 * μ2 42 (m - 1)) rfl rfl rfl rfl (by show m - 2 = m - 1 - 1; omega) rfl (by rw [show m - 1 - 1 = m - 2 by omega]; exact h2) (by omega) (by omega) ((mS.ln f1).trans (mS.ln f2)) r6 s51 (fun _ _ => trivial) (fun μ3 r cr le s3 n22 => ?_) (fun e22 => ?_) ?_ _ _ (ab_wi (by omega) (by omega))
    · rw [show m - 1 - 1 = m - 2 by omega]
      exact ⟨by omega, by omega, fun _ y => (p2.r (q.1 y)).le le, fun _ y => (p1.r (q.2 y)).le le, fun _ => cr, fun y => by omega, fun y => by omega, fun y => by omega⟩
    · rw [show m - 1 - 1 = m - 2 by omega]
      refine ⟨by omega, by omega, fun _ y => p2.r (q.1 y), fun _ y => p1.r (q.2 y), fun y => by omega, fun y => by omega, fun _ y1 y2 => ?_, fun y => by omega⟩
      show μ2 51 row ≤ 100
      rw [s51]; exact hr (Or.inr e22) y1 y2
    · by_cases z : k ≤ 17
      · rw [if_pos z, if_neg (by omega)]
      · rw [if_neg z, if_pos (by omega), if_pos (by omega)]; omega
  have one : 17 < k → k ≠ 22 → jj_mMa_takeWork X (d + 3) 30 (ab_up (ab_la [36, k, row]) 3 0) [(0, 0)] μ P := fun k17 n22 => by
    have o1 := h.op (j := m - 1) (by omega) (by omega)
    refine bk_mMa_takeWork_30 rfl (c_mMa_pop h (by omega) fun μ1 h1 f1 => ?_)
    have r6 : μ1 45 6 = μ 45 6 := f1 45 6 (by omega)
    have p1 : cOp μ1 (m - 1) := o1.le (by omega) (f1 42 _ (by omega)) (f1 41 _ (by omega))
    have a1 := p1.f01
    have q := fmk2 (g := 0) a1 (Or.inl rfl)
    rw [show (2 : Int) * 0 = 0 by decide, show μ1 42 (m - 1) + 0 = μ1 42 (m - 1) by omega] at q
    have s63 : ∀ bb : Int, (k = 21 → bb = row) → jj_mMa_takeWork X (d + 3) 63 (ab_up (ab_up (ab_up (ab_la [36, k, row]) 3 0) 4 0) 5 (m - 1)) [(0, bb)] μ1 P := by
      intro bb hbb
      refine bk_mMa_takeWork_63 rfl ?_
      show (0 ≤ m - 1 ∧ m - 1 < 3000) ∧ ((0 : Int) = 0 → jj_mMa_takeWork X (d + 3) 89 (ab_up (ab_up (ab_up (ab_up (ab_la [36, k, row]) 3 0) 4 0) 5 (m - 1)) 6 bb) [(0, 0), (0, μ1 42 (m - 1))] μ1 P) ∧ ((0 : Int) ≠ 0 → _)
      refine ⟨by omega, fun _ => ?_, fun y => absurd rfl y⟩
      refine go _ μ1 m 0 bb (μ1 42 (m - 1)) rfl rfl rfl rfl rfl rfl h1 (by omega) (by omega) (mS.ln f1) r6 (fun j => f1 51 j (by omega)) (fun _ _ => trivial) (fun μ3 r cr le s3 n22 => ?_) (fun e22 => absurd e22 n22) ?_ _ _ (by rw [show μ1 42 (m - 1) + 0 = μ1 42 (m - 1) by omega]; exact ab_wi (by omega) (by omega))
      · refine ⟨by omega, by omega, fun _ y => (p1.r (q.1 y)).le le, fun y => by omega, fun _ => cr, fun e21 y1 y2 => ?_, fun y => by omega, fun y => by omega⟩
        show μ3 51 bb ≤ 100
        rw [s3, f1 51 bb (by omega), hbb e21]
        rw [hbb e21] at y1 y2
        exact hr (Or.inl e21) y1 y2
      · rw [if_neg (by omega), if_neg n22, if_neg n22]
    exact ⟨fun _ => ⟨fun n21 => s63 0 fun y => absurd y n21, fun _ => s63 row fun _ => rfl⟩, fun y => absurd rfl y⟩
  exact ⟨fun z => two (Or.inl z), fun z => ⟨fun y => one z y, fun y => two (Or.inr y)⟩⟩
end K15

/-! THE CLASS, part k16: Maker's leaps and arrivals -/
section K16
variable {X : jm_X} {d : Nat} {P : Int → ab_m → Prop} {μ μ' μ0 : ab_m} {s b pc m dp : Int} {U U' V V' F F' : Int → Prop}
theorem c_mMa_leap {k t a f : Int} (h : mS s μ0 μ b pc m dp U V F) (lp : k = 25 ∨ k = 26 ∨ k = 27) (t0 : 0 ≤ t ∧ t < 3002) (ck : ∀ t', cK μ k t' a 0 f) (hF : pc < t → F t) (hP : ∀ μ', mS s μ0 μ' b pc m dp U V F → mEt μ μ' → P 0 μ') : jj_mMa_leap X (d + 2) 0 (ab_la [36, k, t, a, f]) [] μ P := by
  have nr := h.nr
  refine bk_mMa_leap_0 rfl ?_
  simp only [la1, la2, la3, la4]
  rw [h.at', h.s0.2]
  refine ⟨fun lt => ⟨Or.inl rfl, t0, c_ma_add0 nr.1 fun r μ1 e re g1 g2 => ?_⟩, fun le => ⟨t0, Or.inl rfl, ?_⟩⟩
  · have g : ∀ c j, ¬ (45 ≤ c ∧ c ≤ 50) → μ1 c j = μ c j := fun c j y => e.fr c j (by omega) (by omega)
    have r6 : μ1 45 6 = μ 45 6 := e.fr 45 6 (by omega) (by omega)
    have s1 : μ1 36 1 = 45 := by rw [g 36 1 (by omega)]; exact h.s0.2
    rw [s1]
    obtain ⟨w, Q, ft⟩ := h.q
    refine ⟨Or.inl rfl, fun z => hP μ1 ?_ ?_, fun z => ⟨t0, fun μ2 e2 => hP μ2 ?_ ?_⟩⟩
    · rcases e.go with ⟨_, q1, _⟩ | ⟨q1, q2⟩
      · omega
      · refine ⟨fun c j y1 y2 => by rw [g c j (by omega)]; exact h.fr c j y1 y2, h.sc, by rw [g 36 2 (by omega)]; exact h.at', by rw [g 36 9 (by omega)]; exact h.m9, by rw [g 36 12 (by omega)]; exact h.cl, by rw [r6]; exact h.rb, h.m0, w, Q.fr (fun c i z => ?_) q1 (by omega) (Int.le_refl _), ft⟩
        by_cases y : 46 ≤ c ∧ c ≤ 50
        · exact q2 c i y
        · exact e.fr c i (by omega) (by omega)
    · rcases e.go with ⟨_, q1, _⟩ | ⟨q1, q2⟩
      · omega
      · have := g1 q1
        exact ⟨⟨fun z => by omega, by omega⟩, fun z => by omega⟩
    · have n4 : μ 45 5 < 400 := by
        rcases e.go with ⟨q0, _⟩ | ⟨q1, _⟩
        · exact q0
        · omega
      rw [re n4] at e2
      have f2 : ∀ b i, ¬ (b = 38 ∧ i = t) → μ2 b i = μ1 b i := fun b i z => by rw [e2, ab_mud, if_neg z]
      have r62 : μ2 45 6 = μ 45 6 := by rw [f2 45 6 (by omega)]; exact r6
      have J := Q.j.emP t0 e z (ck _) lp e2
      have gg : ∀ c j, (36 ≤ c ∧ c ≤ 44 ∧ c ≠ 38) → μ2 c j = μ c j := fun c j y => by rw [f2 c j (by omega)]; exact g c j (by omega)
      refine ⟨fun c j y1 y2 => by rw [f2 c j (by omega), g c j (by omega)]; exact h.fr c j y1 y2, h.sc, by rw [gg 36 2 (by omega)]; exact h.at', by rw [gg 36 9 (by omega)]; exact h.m9, by rw [gg 36 12 (by omega)]; exact h.cl, by rw [r62]; exact h.rb, h.m0, _, ⟨J, fun j a b => (Q.o j a b).le (by omega) (gg 42 j (by omega)) (gg 41 j (by omega)), fun y z => by rw [gg 40 y (by omega)]; exact (Q.u y z).le (by omega), fun y z => by rw [gg 39 y (by omega)]; exact (Q.v y z).le (by omega), fun i a b => by rw [gg 44 i (by omega)]; exact (Q.f i a b).le (by omega), fun t ta tb => by rw [gg 37 t (by omega)]; exact Q.bg t ta tb⟩, fun i z => ?_⟩
      unfold lUp at z ⊢
      by_cases q : i = μ 45 5
      · rw [if_pos q, show t + 1 - 1 = t by omega]; exact hF lt
      · rw [if_neg q] at z ⊢; exact ft i z
    · have f2 : ∀ b i, ¬ (b = 38 ∧ i = t) → μ2 b i = μ1 b i := fun b i z => by rw [e2, ab_mud, if_neg z]
      refine ⟨⟨fun z7 => by rw [f2 45 7 (by omega), g2 z]; exact z7, by rw [f2 45 5 (by omega)]; omega⟩, fun _ => by rw [f2 45 5 (by omega)]; omega⟩
  · obtain ⟨w, Q, ft⟩ := h.q
    exact c_ma_add h (ck _) (fun _ => Q.bg t t0.1 t0.2) fun q μ1 h1 e1 _ _ => hP μ1 h1 e1
theorem c_mMa_test {k t : Int} (h : mS s μ0 μ b pc m dp U V F) (hm : 1 ≤ m) (lp : k = 26 ∨ k = 27) (t0 : 0 ≤ t ∧ t < 3002) (hF : pc < t → F t) (hP : ∀ μ', mS s μ0 μ' b pc (m - 1) dp U V F → mEt μ μ' → P 0 μ') : jj_mMa_test X (d + 3) 0 (ab_la [36, k, t]) [] μ P := by
  have m0 := h.m0
  have o1 := h.op (j := m - 1) (by omega) (by omega)
  refine bk_mMa_test_0 rfl (c_mMa_pop h hm fun μ1 h1 f1 => ?_)
  have o2 : cOp μ1 (m - 1) := o1.le (by rw [f1 45 6 (by omega)]; exact Int.le_refl _) (f1 42 _ (by omega)) (f1 41 _ (by omega))
  have f01 := o2.f01
  refine ⟨by omega, by omega, c_mMa_leap (k := k) (t := t) h1 (by omega) t0 (fun t' => ?_) hF fun μ2 h2 e2 => hP μ2 h2 (e2.r (mS.ln f1))⟩
  rcases f01 with z | z
  · rw [z]; exact ⟨by omega, by omega, fun _ _ => o2.r z, fun y => by omega, fun y => by omega, fun y => by omega, fun y => by omega, fun y => by omega⟩
  · rw [z]; exact ⟨by omega, by omega, fun _ y => absurd y and11, fun y => by omega, fun y => by omega, fun y => by omega, fun y => by omega, fun y => by omega⟩
/-- the && and || whose left side begins at a step -/
def sDc (μ : ab_m) (s : Int) : List Int → Int → Prop
  | [], x => x = -1
  | y :: r, x => x = y ∧ 0 ≤ y ∧ y < 3002 ∧ (∀ z ∈ r, z < y) ∧ sDc μ s r (μ (s + 4) y)
theorem sDc.len : ∀ {L : List Int} {x : Int}, sDc μ s L x → (L.length : Int) ≤ x + 1 ∧ x < 3002
  | [], x, a => by have : x = -1 := a; subst this; simp
  | y :: r, x, a => by
    obtain ⟨a1, a2, a3, a4, a5⟩ := a
    have ih := a5.len
    have l : ((y :: r : List Int).length : Int) = r.length + 1 := by simp
    refine ⟨?_, by omega⟩
    cases r with
    | nil => simp; omega
    | cons z r' =>
      have h1 := a5.1
      have h2 := a4 z (List.mem_cons_self ..)
      omega
set_option maxHeartbeats 1000000 in
theorem c_mMa_arrive {L0 : List Int} (hs : ab_is 10 s) (h : mS s μ0 μ b pc m dp U V F) (hb : b ≤ 5000) (p0 : 0 ≤ pc ∧ pc < 3002) (hW : sDc μ0 s L0 (μ0 (s + 3) pc)) (hP : ∀ μ', mS s μ0 μ' (b + 3002) pc m dp U (fun y => V y ∨ y ∈ L0) (fun y => F y ∧ y ≠ pc) → mLn μ μ' → P 0 μ') : jj_mMa_arrive X (d + 2) 0 (ab_la [36]) [] μ P := by
  have hs' : s = 16 ∨ s = 26 := hs
  have nr := h.nr
  -- the wraps
  have s100 : ∀ (L : List Int) (l : ab_l) (μ1 : ab_m) (bb x lf : Int) (V' : Int → Prop), l 0 = 36 → l 2 = x → l 3 = lf → sDc μ0 s L x → (L.length : Int) ≤ lf → lf ≤ 3002 → bb + L.length ≤ b + 3002 → mS s μ0 μ1 bb pc m dp U V' (fun y => F y ∧ y ≠ pc) → mLn μ μ1 → (∀ y, V y ∨ y ∈ L0 → V' y ∨ y ∈ L) → jj_mMa_arrive X (d + 2) 100 l [] μ1 P := by
    intro L
    induction L with
    | nil =>
      intro l μ1 bb x lf V' l0 l2 l3 hx _ _ hbb h1 ln hv
      have hx : x = -1 := hx
      have fin : P 0 μ1 := hP μ1 ((h1.le (by simp at hbb; omega)).sub (fun _ z => z) (fun y z => (hv y z).resolve_right List.not_mem_nil) fun _ z => z) ln
      refine bk_mMa_arrive_100 l0 ?_
      rw [l2, l3]
      exact ⟨fun _ => fin, fun _ => ⟨fun _ => fin, fun y => absurd hx y⟩⟩
    | cons y r ih =>
      intro l μ1 bb x lf V' l0 l2 l3 hx hlf lf3 hbb h1 ln hv
      obtain ⟨a1, a2, a3, a4, a5⟩ := hx
      have ll : ((y :: r : List Int).length : Int) = r.length + 1 := by simp
      refine bk_mMa_arrive_100 l0 ?_
      rw [l2, l3, h1.s0.2]
      refine ⟨fun z => by omega, fun _ => ⟨fun z => by omega, fun _ => ⟨Or.inl rfl, c_ma_reg h1 (by omega) fun q μ2 h2 cr v2 f2 => ⟨by omega, fun μ3 e3 => ⟨by omega, ?_⟩⟩⟩⟩⟩
      rw [a1] at e3 ⊢
      have g3 : ∀ c j, c ≠ 39 → μ3 c j = μ2 c j := fun c j z => by rw [e3, mu_ne z]
      have v39 : μ3 39 y = q := by rw [e3, ab_mud, if_pos ⟨rfl, rfl⟩]
      have r6 : μ3 45 6 = μ2 45 6 := g3 45 6 (by decide)
      have h3 : mS s μ0 μ3 (bb + 1) pc m dp U (fun z => V' z ∨ z = y) (fun y => F y ∧ y ≠ pc) := by
        refine ⟨fun c j y1 y2 => by rw [g3 c j (by omega)]; exact h2.fr c j y1 y2, h2.sc, by rw [g3 36 2 (by decide)]; exact h2.at', by rw [g3 36 9 (by decide)]; exact h2.m9, by rw [g3 36 12 (by decide)]; exact h2.cl, by rw [r6]; exact h2.rb, h2.m0, ?_⟩
        obtain ⟨w, Q, ft⟩ := h2.q
        refine ⟨w, Q.up (fun c i z => g3 c i (by omega)) (g3 45 5 (by decide)) (by omega) (fun j a c => (Q.o j a c).le (by omega) (g3 42 j (by decide)) (g3 41 j (by decide))) (fun x z => by rw [g3 40 x (by decide)]; exact (Q.u x z).le (by omega)) (fun x z => ?_) (fun i a c => by rw [g3 44 i (by decide)]; exact (Q.f i a c).le (by omega)) fun t ta tb => by rw [g3 37 t (by decide)]; exact Q.bg t ta tb, ft⟩
        by_cases p : x = y
        · rw [p, v39]; exact cr.le (by omega)
        · rw [e3, ab_mud, if_neg (fun o => p o.2)]
          exact (Q.v x (z.resolve_right p)).le (by rw [mu_ne (by decide)]; exact Int.le_refl _)
      have sd := h3.s0
      rw [sd.1, sd.2, v39]
      have s152 : ∀ c : Int, jj_mMa_arrive X (d + 2) 152 l [(0, c), (0, q), (0, 0), (2, 45)] μ3 P := by
        intro c
        refine bk_mMa_arrive_152 l0 ⟨Or.inl rfl, c_ma_add h3 (cK.set (cr.le (by omega))) (fun y => by omega) fun r4 μ4 h4 e4 _ _ => ?_⟩
        have s4 := h4.s0
        rw [s4.1, l2, l3, a1, h4.fr (s + 4) y (by omega) (by omega), show ab_w (lf + -1) = lf - 1 from ab_wi (by omega) (by omega)]
        refine ⟨hs, by omega, ih _ μ4 (bb + 1) _ (lf - 1) _ l0 rfl rfl a5 (by omega) (by omega) (by omega) h4 (ln.trans ((mLn.of (by rw [g3 45 7 (by decide), f2 45 7 (by omega)]) (by rw [g3 45 5 (by decide), f2 45 5 (by omega)])).trans e4.1)) fun z hz => ?_⟩
        rcases hv z hz with o | o
        · exact Or.inl (Or.inl o)
        · rcases List.mem_cons.mp o with o | o
          · exact Or.inl (Or.inr o)
          · exact Or.inr o
      exact ⟨hs, by omega, fun _ => s152 0, fun _ => s152 1⟩
  obtain ⟨w, Q, ft⟩ := h.q
  obtain ⟨L, l1, l2⟩ := Q.j.ch pc p0.1 p0.2
  have ln0 := hW.len
  have x3 : ∀ {μ1 : ab_m}, (∀ c j, ¬ (37 ≤ c ∧ c ≤ 50 ∧ c ≠ 43) → ¬ (c = 36 ∧ (j = 2 ∨ j = 9 ∨ j = 12)) → μ1 c j = μ0 c j) → μ1 (s + 3) pc = μ0 (s + 3) pc := fun f => f (s + 3) pc (by omega) (by omega)
  -- what waited comes here
  have s40 : ∀ (L2 : List Int) (l : ab_l) (μ1 : ab_m) (x lf : Int), l 0 = 36 → l 1 = x → l 2 = lf → cDc μ1 L2 x → (L2.length : Int) ≤ lf → lf ≤ 400 → (∀ y ∈ L2, y ∈ L) → (∀ c j, ¬ (c = 47 ∧ j ∈ L) → ¬ (c = 38 ∧ j = pc) → ¬ (c = 37 ∧ j = pc) → μ1 c j = μ c j) → μ1 38 pc = -1 → 0 ≤ μ1 37 pc → (∀ y ∈ L, ¬ y ∈ L2 → 0 ≤ μ1 47 y) → jj_mMa_arrive X (d + 2) 40 l [] μ1 P := by
    intro L2
    induction L2 with
    | nil =>
      intro l μ1 x lf a0 a1 a2 hx _ _ _ f v38 v37 hl
      have hx : x = -1 := hx
      have gp : ∀ j, μ1 36 j = μ 36 j := fun j => f 36 j (by omega) (by omega) (by omega)
      have fr1 : ∀ c j, ¬ (37 ≤ c ∧ c ≤ 50 ∧ c ≠ 43) → ¬ (c = 36 ∧ (j = 2 ∨ j = 9 ∨ j = 12)) → μ1 c j = μ0 c j := fun c j y1 y2 => by rw [f c j (by omega) (by omega) (by omega)]; exact h.fr c j y1 y2
      have J := Q.j.land p0 l2 (fun c j y1 y2 y3 => f c j y1 y2 (by omega)) v38 fun y hy => hl y hy List.not_mem_nil
      have r6 : μ1 45 6 = μ 45 6 := f 45 6 (by omega) (by omega) (by omega)
      have h1 : mS s μ0 μ1 b pc m dp U V (fun y => F y ∧ y ≠ pc) := by
        refine ⟨fr1, h.sc, by rw [gp]; exact h.at', by rw [gp]; exact h.m9, by rw [gp]; exact h.cl, by rw [r6]; exact h.rb, h.m0, _, ⟨J, fun j a c => (Q.o j a c).le (by omega) (f 42 j (by omega) (by omega) (by omega)) (f 41 j (by omega) (by omega) (by omega)), fun y z => by rw [f 40 y (by omega) (by omega) (by omega)]; exact (Q.u y z).le (by omega), fun y z => by rw [f 39 y (by omega) (by omega) (by omega)]; exact (Q.v y z).le (by omega), fun i a c => by rw [f 44 i (by omega) (by omega) (by omega)]; exact (Q.f i a c).le (by omega), fun t ta tb => ?_⟩, fun i z => ?_⟩
        · by_cases e : t = pc
          · rw [e]; exact v37
          · rw [f 37 t (by omega) (by omega) (by omega)]; exact Q.bg t ta tb
        · unfold lLd at z ⊢
          by_cases q : w i = pc + 1
          · rw [if_pos q] at z; exact absurd rfl z
          · rw [if_neg q] at z ⊢
            exact ⟨ft i z, by omega⟩
      have fin : ∀ (l' : ab_l), l' 0 = 36 → l' 2 = μ0 (s + 3) pc → l' 3 = 3002 → jj_mMa_arrive X (d + 2) 100 l' [] μ1 P := fun l' b0 b2 b3 => s100 L0 l' μ1 b _ 3002 V b0 b2 b3 hW (by omega) (by omega) (by omega) h1 (mLn.of (f 45 7 (by omega) (by omega) (by omega)) (f 45 5 (by omega) (by omega) (by omega))) fun y z => z
      have so := h1.s0
      refine bk_mMa_arrive_40 a0 ?_
      rw [a1, a2, so.1, h1.at', x3 fr1]
      exact ⟨fun _ => ⟨hs, p0, fin _ a0 rfl rfl⟩, fun _ => ⟨fun _ => ⟨hs, p0, fin _ a0 rfl rfl⟩, fun y => absurd hx y⟩⟩
    | cons y r ih =>
      intro l μ1 x lf a0 a1 a2 hx hlf lf4 hs2 f v38 v37 hl
      obtain ⟨b1, b2, b3, b4, b5⟩ := hx
      have ll : ((y :: r : List Int).length : Int) = r.length + 1 := by simp
      have s1 : μ1 36 1 = 45 := by rw [f 36 1 (by omega) (by omega) (by omega)]; exact h.s0.2
      have n1 : μ1 45 5 = μ 45 5 := f 45 5 (by omega) (by omega) (by omega)
      refine bk_mMa_arrive_40 a0 ?_
      rw [a1, a2, s1]
      refine ⟨fun z => by omega, fun _ => ⟨fun z => by omega, fun _ => ⟨Or.inl rfl, by omega, by omega, fun μ2 e2 => ?_⟩⟩⟩
      have e2 : μ2 = ab_mu μ1 47 x (μ1 45 5) := e2
      rw [b1, n1] at e2
      have yL := hs2 y (List.mem_cons_self ..)
      rw [show ab_w (lf + -1) = lf - 1 from ab_wi (by omega) (by omega)]
      show jj_mMa_arrive X (d + 2) 40 (ab_up (ab_up (ab_up l 3 (μ1 47 x)) 1 (μ1 47 x)) 2 (lf - 1)) [] μ2 P
      rw [b1]
      refine ih _ μ2 (μ1 47 y) (lf - 1) a0 rfl rfl (b5.same fun z hz => by rw [e2, ab_mud, if_neg (by have := b4 z hz; omega)]) (by omega) (by omega) (fun z hz => hs2 z (List.mem_cons_of_mem _ hz)) (fun c j y1 y2 y3 => ?_) (by rw [e2, mu_ne (by decide)]; exact v38) (by rw [e2, mu_ne (by decide)]; exact v37) fun z hz hn => ?_
      · rw [e2, ab_mud, if_neg (fun o => y1 ⟨o.1, by rw [o.2]; exact yL⟩)]; exact f c j y1 y2 y3
      · by_cases e : z = y
        · rw [e, e2, ab_mud, if_pos ⟨rfl, rfl⟩]; omega
        · rw [e2, ab_mud, if_neg (fun o => e o.2)]
          refine hl z hz fun o => ?_
          rcases List.mem_cons.mp o with o | o
          · exact e o
          · exact hn o
  have cl := l1.len
  refine bk_mMa_arrive_0 rfl ?_
  rw [h.s0.2, h.at']
  refine ⟨Or.inl rfl, p0, fun μ2 e2 => ?_⟩
  have a2 : μ2 36 2 = pc := by rw [e2, mu_ne (by decide)]; exact h.at'
  rw [a2]
  refine ⟨p0, p0, fun μ3 e3 => ?_⟩
  have x38 : μ2 38 pc = μ 38 pc := by rw [e2, mu_ne (by decide)]
  rw [x38]
  have f3 : ∀ c j, ¬ (c = 38 ∧ j = pc) → ¬ (c = 37 ∧ j = pc) → μ3 c j = μ c j := fun c j y1 y2 => by rw [e3, ab_mud, if_neg y1, e2, ab_mud, if_neg y2]
  refine s40 L _ μ3 (μ 38 pc) 400 rfl rfl rfl (l1.same fun y _ => f3 47 y (by omega) (by omega)) (by omega) (by omega) (fun y hy => hy) (fun c j _ y2 y3 => f3 c j y2 y3) (by rw [e3, ab_mud, if_pos ⟨rfl, rfl⟩]) (by rw [e3, mu_ne (by decide), e2, ab_mud, if_pos ⟨rfl, rfl⟩]; exact nr.1.1) fun y hy hn => absurd hy hn
end K16

/-! THE CLASS, part k17: well-made scripts, calls -/
section K17
variable {X : jm_X} {d : Nat} {P : Int → ab_m → Prop} {μ μ' μ0 : ab_m} {s b pc m dp : Int} {U U' V V' F F' : Int → Prop}
end K17
/-- ghosts of each step: the operands that lie, its def, where that begins, how many TICKs stand in a row, the && and || that begin there -/
abbrev scG : Type := (Int → Int) × (Int → Int) × (Int → Int) × (Int → Int) × (Int → List Int)
abbrev scG.h (x : scG) : Int → Int := (x : (Int → Int) × (Int → Int) × (Int → Int) × (Int → Int) × (Int → List Int)).1
abbrev scG.r (x : scG) : Int → Int := (x : (Int → Int) × (Int → Int) × (Int → Int) × (Int → Int) × (Int → List Int)).2.1
abbrev scG.z (x : scG) : Int → Int := (x : (Int → Int) × (Int → Int) × (Int → Int) × (Int → Int) × (Int → List Int)).2.2.1
abbrev scG.q (x : scG) : Int → Int := (x : (Int → Int) × (Int → Int) × (Int → Int) × (Int → Int) × (Int → List Int)).2.2.2.1
abbrev scG.W (x : scG) : Int → List Int := (x : (Int → Int) × (Int → Int) × (Int → Int) × (Int → Int) × (Int → List Int)).2.2.2.2
section K17
variable {X : jm_X} {d : Nat} {P : Int → ab_m → Prop} {μ μ' μ0 : ab_m} {s b pc m dp : Int} {U U' V V' F F' : Int → Prop}
/-- the height behind a step, by its kind; n: the arguments of a call -/
def scHv (op n h h' : Int) : Prop := (0 ≤ op ∧ op ≤ 38 ∧ op ≠ 28 ∧ op ≠ 34) ∧ (op = 0 ∨ op = 1 → h' = h + 1) ∧ (2 ≤ op ∧ op ≤ 17 → 2 ≤ h ∧ h' = h - 1) ∧ ((18 ≤ op ∧ op ≤ 21) ∨ op = 38 → 1 ≤ h ∧ h' = h) ∧ (op = 22 → 2 ≤ h ∧ h' = h - 2) ∧ (op = 23 ∨ op = 25 ∨ op = 30 ∨ op = 31 → h' = h) ∧ (op = 24 ∨ op = 26 ∨ op = 27 ∨ op = 29 ∨ op = 33 ∨ op = 35 ∨ op = 36 ∨ op = 37 → 1 ≤ h ∧ h' = h - 1) ∧ (op = 32 → 0 ≤ n ∧ n ≤ h ∧ h' = h - n + 1)
/-- the int x may be named at step k -/
def scOk (μ : ab_m) (s : Int) (Γ : scG) (dn k x : Int) : Prop := (0 ≤ x ∧ x < μ s 6) ∨ (Γ.2.1 k < dn ∧ μ (s + 8) (Γ.2.1 k) ≤ x ∧ x < μ (s + 8) (Γ.2.1 k) + μ (s + 9) (Γ.2.1 k)) ∨ ∃ j, 0 ≤ j ∧ j < k ∧ Γ.2.1 j = Γ.2.1 k ∧ μ (s + 1) j = 30 ∧ μ (s + 2) j = x
end K17
def scK (μ : ab_m) (s : Int) (Γ : scG) (N dn k : Int) : Prop := ((μ (s + 1) k = 34 ∧ Γ.1 k = 0 ∧ Γ.1 (k + 1) = 0 ∧ Γ.2.1 (k + 1) = Γ.2.1 k + 1 ∧ Γ.2.2.1 (k + 1) = k + 1 ∧ k + 1 < N) ∨ (μ (s + 1) k = 28 ∧ Γ.1 k = 0) ∨ (scHv (μ (s + 1) k) (μ (s + 9) (μ (s + 2) k)) (Γ.1 k) (Γ.1 (k + 1)) ∧ Γ.2.1 (k + 1) = Γ.2.1 k ∧ Γ.2.2.1 (k + 1) = Γ.2.2.1 k ∧ k + 1 < N ∧ (μ (s + 1) k = 31 → Γ.2.2.2.1 (k + 1) = Γ.2.2.2.1 k + 1) ∧ (μ (s + 1) k = 0 ∨ μ (s + 1) k = 35 → Γ.2.2.2.1 (k + 1) = Γ.2.2.2.1 k))) ∧ (0 ≤ Γ.2.2.2.1 k ∧ Γ.2.2.2.1 k ≤ 30) ∧ (μ (s + 1) k = 1 ∨ μ (s + 1) k = 23 ∨ μ (s + 1) k = 29 ∨ μ (s + 1) k = 30 → 0 ≤ μ (s + 2) k ∧ μ (s + 2) k < 3000) ∧ (μ (s + 1) k = 1 ∨ μ (s + 1) k = 23 ∨ μ (s + 1) k = 29 → scOk μ s Γ dn k (μ (s + 2) k)) ∧ ((25 ≤ μ (s + 1) k ∧ μ (s + 1) k ≤ 27) ∨ μ (s + 1) k = 36 ∨ μ (s + 1) k = 37 → 0 ≤ μ (s + 2) k ∧ μ (s + 2) k < N ∧ (μ (s + 2) k ≤ k ∨ Γ.2.1 (μ (s + 2) k) = Γ.2.1 k)) ∧ (μ (s + 1) k = 21 ∨ μ (s + 1) k = 22 → 0 ≤ μ (s + 2) k → μ (s + 2) k < 8 → μ (s + 5) (μ (s + 2) k) ≤ 100) ∧ (μ (s + 1) k = 32 → 0 ≤ μ (s + 2) k ∧ μ (s + 2) k < Γ.2.1 k ∧ μ (s + 2) k < dn) ∧ (μ (s + 1) k = 33 → μ (s + 2) k = Γ.2.1 k ∧ Γ.2.1 k < dn) ∧ (μ (s + 1) k = 38 → (0 ≤ μ (s + 2) k ∧ μ (s + 2) k < 3002) ∧ ∃ j, 0 ≤ j ∧ j < k ∧ Γ.2.1 j = Γ.2.1 k ∧ μ (s + 2) k ∈ Γ.2.2.2.2 j) ∧ (μ (s + 1) k = 35 → 1 ≤ k ∧ μ (s + 1) (k - 1) = 32 ∧ Γ.2.1 (k - 1) = Γ.2.1 k) ∧ (sDc μ s (Γ.2.2.2.2 k) (μ (s + 3) k))
theorem scK.mv {μ : ab_m} {s : Int} {Γ : scG} {N dn k : Int} (h'' : scK μ s Γ N dn k) : (μ (s + 1) k = 34 ∧ Γ.1 k = 0 ∧ Γ.1 (k + 1) = 0 ∧ Γ.2.1 (k + 1) = Γ.2.1 k + 1 ∧ Γ.2.2.1 (k + 1) = k + 1 ∧ k + 1 < N) ∨ (μ (s + 1) k = 28 ∧ Γ.1 k = 0) ∨ (scHv (μ (s + 1) k) (μ (s + 9) (μ (s + 2) k)) (Γ.1 k) (Γ.1 (k + 1)) ∧ Γ.2.1 (k + 1) = Γ.2.1 k ∧ Γ.2.2.1 (k + 1) = Γ.2.2.1 k ∧ k + 1 < N ∧ (μ (s + 1) k = 31 → Γ.2.2.2.1 (k + 1) = Γ.2.2.2.1 k + 1) ∧ (μ (s + 1) k = 0 ∨ μ (s + 1) k = 35 → Γ.2.2.2.1 (k + 1) = Γ.2.2.2.1 k)) := h''.1
theorem scK.q {μ : ab_m} {s : Int} {Γ : scG} {N dn k : Int} (h'' : scK μ s Γ N dn k) : 0 ≤ Γ.2.2.2.1 k ∧ Γ.2.2.2.1 k ≤ 30 := h''.2.1
theorem scK.nm {μ : ab_m} {s : Int} {Γ : scG} {N dn k : Int} (h'' : scK μ s Γ N dn k) : μ (s + 1) k = 1 ∨ μ (s + 1) k = 23 ∨ μ (s + 1) k = 29 ∨ μ (s + 1) k = 30 → 0 ≤ μ (s + 2) k ∧ μ (s + 2) k < 3000 := h''.2.2.1
theorem scK.td {μ : ab_m} {s : Int} {Γ : scG} {N dn k : Int} (h'' : scK μ s Γ N dn k) : μ (s + 1) k = 1 ∨ μ (s + 1) k = 23 ∨ μ (s + 1) k = 29 → scOk μ s Γ dn k (μ (s + 2) k) := h''.2.2.2.1
theorem scK.jp {μ : ab_m} {s : Int} {Γ : scG} {N dn k : Int} (h'' : scK μ s Γ N dn k) : (25 ≤ μ (s + 1) k ∧ μ (s + 1) k ≤ 27) ∨ μ (s + 1) k = 36 ∨ μ (s + 1) k = 37 → 0 ≤ μ (s + 2) k ∧ μ (s + 2) k < N ∧ (μ (s + 2) k ≤ k ∨ Γ.2.1 (μ (s + 2) k) = Γ.2.1 k) := h''.2.2.2.2.1
theorem scK.rw {μ : ab_m} {s : Int} {Γ : scG} {N dn k : Int} (h'' : scK μ s Γ N dn k) : μ (s + 1) k = 21 ∨ μ (s + 1) k = 22 → 0 ≤ μ (s + 2) k → μ (s + 2) k < 8 → μ (s + 5) (μ (s + 2) k) ≤ 100 := h''.2.2.2.2.2.1
theorem scK.cl {μ : ab_m} {s : Int} {Γ : scG} {N dn k : Int} (h'' : scK μ s Γ N dn k) : μ (s + 1) k = 32 → 0 ≤ μ (s + 2) k ∧ μ (s + 2) k < Γ.2.1 k ∧ μ (s + 2) k < dn := h''.2.2.2.2.2.2.1
theorem scK.rt {μ : ab_m} {s : Int} {Γ : scG} {N dn k : Int} (h'' : scK μ s Γ N dn k) : μ (s + 1) k = 33 → μ (s + 2) k = Γ.2.1 k ∧ Γ.2.1 k < dn := h''.2.2.2.2.2.2.2.1
theorem scK.tr {μ : ab_m} {s : Int} {Γ : scG} {N dn k : Int} (h'' : scK μ s Γ N dn k) : μ (s + 1) k = 38 → (0 ≤ μ (s + 2) k ∧ μ (s + 2) k < 3002) ∧ ∃ j, 0 ≤ j ∧ j < k ∧ Γ.2.1 j = Γ.2.1 k ∧ μ (s + 2) k ∈ Γ.2.2.2.2 j := h''.2.2.2.2.2.2.2.2.1
theorem scK.dr {μ : ab_m} {s : Int} {Γ : scG} {N dn k : Int} (h'' : scK μ s Γ N dn k) : μ (s + 1) k = 35 → 1 ≤ k ∧ μ (s + 1) (k - 1) = 32 ∧ Γ.2.1 (k - 1) = Γ.2.1 k := h''.2.2.2.2.2.2.2.2.2.1
theorem scK.wr {μ : ab_m} {s : Int} {Γ : scG} {N dn k : Int} (h'' : scK μ s Γ N dn k) : sDc μ s (Γ.2.2.2.2 k) (μ (s + 3) k) := h''.2.2.2.2.2.2.2.2.2.2
section K17
variable {X : jm_X} {d : Nat} {P : Int → ab_m → Prop} {μ μ' μ0 : ab_m} {s b pc m dp : Int} {U U' V V' F F' : Int → Prop}
end K17
def scW (μ : ab_m) (s : Int) (Γ : scG) (N dn : Int) : Prop := (μ s 4 = N ∧ 1 ≤ N ∧ N ≤ 3001) ∧ (0 ≤ μ s 6 ∧ μ s 6 ≤ 1499) ∧ (0 ≤ dn ∧ dn ≤ 15) ∧ (Γ.1 0 = 0 ∧ Γ.2.1 0 = 0 ∧ Γ.2.2.1 0 = 0) ∧ (∀ k, 0 ≤ k → k < N → scK μ s Γ N dn k) ∧ ((0 ≤ μ s 5 ∧ μ s 5 < N) ∧ Γ.2.1 (μ s 5) = dn ∧ Γ.1 (μ s 5) = 0 ∧ Γ.2.2.1 (μ s 5) = μ s 5) ∧ (∀ x, 0 ≤ x → x < dn → (0 ≤ μ (s + 6) x ∧ μ (s + 6) x < N) ∧ Γ.2.1 (μ (s + 6) x) = x ∧ Γ.1 (μ (s + 6) x) = 0 ∧ Γ.2.2.1 (μ (s + 6) x) = μ (s + 6) x ∧ (0 ≤ μ (s + 7) x ∧ μ (s + 7) x < N) ∧ Γ.2.1 (μ (s + 7) x) = x ∧ 0 ≤ μ (s + 8) x ∧ (0 ≤ μ (s + 9) x ∧ μ (s + 9) x ≤ 6) ∧ μ (s + 8) x + μ (s + 9) x ≤ 3000) ∧ (μ (s + 1) (N - 1) = 28 ∧ Γ.2.1 (N - 1) = dn) ∧ (∀ k, 0 ≤ k → k < N - 1 → μ (s + 1) k ≠ 28)
theorem scW.n {μ : ab_m} {s : Int} {Γ : scG} {N dn : Int} (h'' : scW μ s Γ N dn) : μ s 4 = N ∧ 1 ≤ N ∧ N ≤ 3001 := h''.1
theorem scW.g {μ : ab_m} {s : Int} {Γ : scG} {N dn : Int} (h'' : scW μ s Γ N dn) : 0 ≤ μ s 6 ∧ μ s 6 ≤ 1499 := h''.2.1
theorem scW.d {μ : ab_m} {s : Int} {Γ : scG} {N dn : Int} (h'' : scW μ s Γ N dn) : 0 ≤ dn ∧ dn ≤ 15 := h''.2.2.1
theorem scW.b0 {μ : ab_m} {s : Int} {Γ : scG} {N dn : Int} (h'' : scW μ s Γ N dn) : Γ.1 0 = 0 ∧ Γ.2.1 0 = 0 ∧ Γ.2.2.1 0 = 0 := h''.2.2.2.1
theorem scW.k {μ : ab_m} {s : Int} {Γ : scG} {N dn : Int} (h'' : scW μ s Γ N dn) : ∀ k, 0 ≤ k → k < N → scK μ s Γ N dn k := h''.2.2.2.2.1
theorem scW.st {μ : ab_m} {s : Int} {Γ : scG} {N dn : Int} (h'' : scW μ s Γ N dn) : (0 ≤ μ s 5 ∧ μ s 5 < N) ∧ Γ.2.1 (μ s 5) = dn ∧ Γ.1 (μ s 5) = 0 ∧ Γ.2.2.1 (μ s 5) = μ s 5 := h''.2.2.2.2.2.1
theorem scW.df {μ : ab_m} {s : Int} {Γ : scG} {N dn : Int} (h'' : scW μ s Γ N dn) : ∀ x, 0 ≤ x → x < dn → (0 ≤ μ (s + 6) x ∧ μ (s + 6) x < N) ∧ Γ.2.1 (μ (s + 6) x) = x ∧ Γ.1 (μ (s + 6) x) = 0 ∧ Γ.2.2.1 (μ (s + 6) x) = μ (s + 6) x ∧ (0 ≤ μ (s + 7) x ∧ μ (s + 7) x < N) ∧ Γ.2.1 (μ (s + 7) x) = x ∧ 0 ≤ μ (s + 8) x ∧ (0 ≤ μ (s + 9) x ∧ μ (s + 9) x ≤ 6) ∧ μ (s + 8) x + μ (s + 9) x ≤ 3000 := h''.2.2.2.2.2.2.1
theorem scW.la {μ : ab_m} {s : Int} {Γ : scG} {N dn : Int} (h'' : scW μ s Γ N dn) : μ (s + 1) (N - 1) = 28 ∧ Γ.2.1 (N - 1) = dn := h''.2.2.2.2.2.2.2.1
theorem scW.ns {μ : ab_m} {s : Int} {Γ : scG} {N dn : Int} (h'' : scW μ s Γ N dn) : ∀ k, 0 ≤ k → k < N - 1 → μ (s + 1) k ≠ 28 := h''.2.2.2.2.2.2.2.2
section K17
variable {X : jm_X} {d : Nat} {P : Int → ab_m → Prop} {μ μ' μ0 : ab_m} {s b pc m dp : Int} {U U' V V' F F' : Int → Prop}
variable {Γ : scG} {N dn : Int}
theorem scW.nr (t : scW μ s Γ N dn) : ∀ n : Nat, (n : Int) < N → 0 ≤ Γ.1 n ∧ Γ.1 n ≤ n - Γ.2.2.1 n ∧ 0 ≤ Γ.2.2.1 n ∧ Γ.2.2.1 n ≤ n ∧ 0 ≤ Γ.2.1 n := by
  intro n
  induction n with
  | zero => intro _; obtain ⟨b1, b2, b3⟩ := t.b0; simp [b1, b2, b3]
  | succ n ih =>
    intro hn
    obtain ⟨i1, i2, i3, i4, i5⟩ := ih (by omega)
    rw [show ((n + 1 : Nat) : Int) = (n : Int) + 1 by omega]
    rcases (t.k n (by omega) (by omega)).mv with h | h | h
    · obtain ⟨-, -, h1, h2, h3, -⟩ := h
      omega
    · exact absurd h.1 (t.ns n (by omega) (by omega))
    · obtain ⟨hv, h2, h3, -⟩ := h
      unfold scHv at hv
      rw [h2, h3]
      generalize Γ.1 ((n : Int) + 1) = h' at *
      generalize μ (s + 1) n = op at *
      generalize μ (s + 9) (μ (s + 2) n) = nn at *
      clear ih h2 h3
      omega
theorem scW.tr (t : scW μ s Γ N dn) {k : Int} (a : 0 ≤ k) (c : k < N) : 0 ≤ Γ.1 k ∧ Γ.1 k ≤ k - Γ.2.2.1 k ∧ 0 ≤ Γ.2.2.1 k ∧ Γ.2.2.1 k ≤ k ∧ 0 ≤ Γ.2.1 k := by
  have := t.nr k.toNat (by omega)
  rwa [show ((k.toNat : Nat) : Int) = k by omega] at this
theorem scW.mono (t : scW μ s Γ N dn) {k : Int} (a : 0 ≤ k) : ∀ n : Nat, k + n < N → Γ.2.1 k ≤ Γ.2.1 (k + n) ∧ (Γ.2.1 (k + n) = Γ.2.1 k → Γ.2.2.1 (k + n) = Γ.2.2.1 k) ∧ (Γ.2.1 k < Γ.2.1 (k + n) → k < Γ.2.2.1 (k + n)) := by
  intro n
  induction n with
  | zero => intro _; simp
  | succ n ih =>
    intro hn
    obtain ⟨i1, i2, i3⟩ := ih (by omega)
    rw [show k + ((n + 1 : Nat) : Int) = k + n + 1 by omega]
    rcases (t.k (k + n) (by omega) (by omega)).mv with h | h | h
    · obtain ⟨-, -, -, h2, h3, -⟩ := h
      exact ⟨by omega, fun z => by omega, fun _ => by omega⟩
    · exact absurd h.1 (t.ns _ (by omega) (by omega))
    · obtain ⟨-, h2, h3, -⟩ := h
      rw [h2, h3]
      exact ⟨i1, i2, i3⟩
theorem scW.le (t : scW μ s Γ N dn) {k k' : Int} (a : 0 ≤ k) (c : k ≤ k') (e : k' < N) : Γ.2.1 k ≤ Γ.2.1 k' ∧ (Γ.2.1 k' = Γ.2.1 k → Γ.2.2.1 k' = Γ.2.2.1 k) ∧ (Γ.2.1 k < Γ.2.1 k' → k < Γ.2.2.1 k') := by
  have := t.mono a (k' - k).toNat (by omega)
  rwa [show k + ((k' - k).toNat : Int) = k' by omega] at this
theorem scW.rd (t : scW μ s Γ N dn) {k : Int} (a : 0 ≤ k) (c : k < N) : Γ.2.1 k ≤ dn := by
  have := (t.le a (show k ≤ N - 1 by omega) (by omega)).1
  have := t.la.2
  omega
/-- all of an earlier def stands before a def begins -/
theorem scW.before (t : scW μ s Γ N dn) {k c : Int} (a : 0 ≤ k) (ak : k < N) (a' : 0 ≤ c) (ck : c < N) (h : Γ.2.1 k < Γ.2.1 c) : k < Γ.2.2.1 c := by
  by_cases q : k ≤ c
  · exact (t.le a q ck).2.2 h
  · have := (t.le a' (show c ≤ k by omega) ak).1
    omega
theorem scW.first (t : scW μ s Γ N dn) {j c : Int} (a : 0 ≤ j) (e : j < c) (ck : c < N) (r : Γ.2.1 j = Γ.2.1 c) (z : Γ.2.2.1 c = c) : False := by
  have := (t.le a (show j ≤ c by omega) ck).2.1 r.symm
  have := (t.tr a (show j < N by omega)).2.2.2.1
  omega
/-- the frames below: where they go on; p: the def at hand, v: the operands below it -/
def scFr (Γ : scG) (N dn : Int) : List Int → Int → Int → Prop
  | [], p, v => p = dn ∧ v = 0
  | b :: bs, p, v => 1 ≤ b ∧ b < N ∧ p < Γ.2.1 b ∧ 1 ≤ Γ.1 b ∧ ∃ v', v = v' + Γ.1 b - 1 ∧ scFr Γ N dn bs (Γ.2.1 b) v'
theorem scFr.le (t : scW μ s Γ N dn) : ∀ {L : List Int} {p v : Int}, scFr Γ N dn L p v → 0 ≤ v ∧ (∀ k, 0 ≤ k → k < N → Γ.2.1 k = p → v + k ≤ N - 1) ∧ (L.length : Int) ≤ dn - p
  | [], p, v, h => ⟨by rw [h.2]; decide, fun k a b _ => by rw [h.2]; omega, by rw [h.1]; simp⟩
  | b :: bs, p, v, h => by
    obtain ⟨h1, h2, h3, h4, v', h5, h6⟩ := h
    obtain ⟨i1, i2, i3⟩ := h6.le t
    have tr := t.tr (show 0 ≤ b by omega) h2
    have ib := i2 b (by omega) h2 rfl
    refine ⟨by omega, fun k a c e => ?_, by simp; omega⟩
    have := t.before a c (show 0 ≤ b by omega) h2 (by omega)
    omega
def scBk (μ : ab_m) : List Int → Prop
  | [] => True
  | b :: bs => μ 43 bs.length = b - 1 ∧ scBk μ bs
theorem scBk.same : ∀ {L : List Int}, scBk μ L → (∀ j, 0 ≤ j → j < (L.length : Int) → μ' 43 j = μ 43 j) → scBk μ' L
  | [], _, _ => trivial
  | b :: bs, h, f => ⟨by rw [f _ (by omega) (by simp; omega)]; exact h.1, h.2.same fun j a c => f j a (by simp; omega)⟩
set_option maxHeartbeats 1000000 in
theorem c_mMa_call {x n : Int} (hs : ab_is 10 s) (h : mS s μ μ b pc m dp U V F) (hb : b ≤ 90000) (hx : 0 ≤ x ∧ x < 15) (hn : μ (s + 9) x = n) (n6 : 0 ≤ n ∧ n ≤ 6) (nm : n ≤ m) (hf : 0 ≤ μ (s + 8) x ∧ μ (s + 8) x + n ≤ 3000) (hbg : 0 ≤ μ (s + 6) x ∧ μ (s + 6) x ≤ 3002) (hd : 0 ≤ dp ∧ dp < 15) (hp : 0 ≤ pc) (hU : ∀ y, U' y → U y ∨ (μ (s + 8) x ≤ y ∧ y < μ (s + 8) x + n)) (hP : ∀ μ', (∀ c j, ¬ (37 ≤ c ∧ c ≤ 50) → ¬ (c = 36 ∧ (j = 2 ∨ j = 9 ∨ j = 12)) → μ' c j = μ c j) → mS s μ' μ' (b + 7) (μ (s + 6) x - 1) (m - n) (dp + 1) U' V F → mEt μ μ' → μ' 43 dp = pc → (∀ j, j ≠ dp → μ' 43 j = μ 43 j) → P 0 μ') : jj_mMa_call X (d + 3) 0 (ab_la [36, x]) [] μ P := by
  have hs' : s = 16 ∨ s = 26 := hs
  have m0 := h.m0
  have s38 : ∀ (q : Nat) (l : ab_l) (μ1 : ab_m) (k : Int), l 0 = 36 → l 1 = x → l 2 = n → l 3 = m - n → l 4 = k → 0 ≤ k → k ≤ n → (n - k).toNat = q → mS s μ μ1 (b + k) pc m dp (fun y => U y ∨ (μ (s + 8) x ≤ y ∧ y < μ (s + 8) x + k)) V F → mLn μ μ1 → jj_mMa_call X (d + 3) 38 l [] μ1 P := by
    intro q
    induction q with
    | zero =>
      intro l μ1 k l0 l1 l2 l3 l4 k0 k1 eq h1 ln
      have ek : k = n := by omega
      subst ek
      refine bk_mMa_call_38 l0 ?_
      rw [l1, l2, l3, l4]
      refine ⟨fun _ μ2 e2 => ?_, fun y => by omega⟩
      have g2 : ∀ c j, ¬ (c = 36 ∧ j = 9) → μ2 c j = μ1 c j := fun c j y => by rw [e2, ab_mud, if_neg y]
      have h2 : mS s μ μ2 (b + k) pc (m - k) dp U' V F := by
        refine ⟨fun c j y1 y2 => by rw [g2 c j (by omega)]; exact h1.fr c j y1 y2, h1.sc, by rw [g2 36 2 (by omega)]; exact h1.at', by rw [e2, ab_mud, if_pos ⟨rfl, rfl⟩], by rw [g2 36 12 (by omega)]; exact h1.cl, by rw [g2 45 6 (by omega)]; exact h1.rb, by omega, ?_⟩
        obtain ⟨w, Q, ft⟩ := h1.q
        have Q2 : cQ μ2 w (m - k) dp (fun y => U y ∨ (μ (s + 8) x ≤ y ∧ y < μ (s + 8) x + k)) V := Q.fr (fun c i z => g2 c i (by omega)) (g2 45 5 (by omega)) (by rw [g2 45 6 (by omega)]; exact Int.le_refl _) (by omega)
        exact ⟨w, ⟨Q2.j, Q2.o, fun y z => Q2.u y (hU y z), Q2.v, Q2.f, Q2.bg⟩, ft⟩
      rw [h2.s0.2]
      refine ⟨Or.inl rfl, c_ma_reg h2 (by omega) fun r μ3 h3 cr v3 f3 => ?_⟩
      rw [h3.s0.2]
      refine ⟨Or.inl rfl, c_ma_add h3 (cK.set cr) (fun y => by omega) fun q4 μ4 h4 e4 r4 g4 => ?_⟩
      rw [h4.cl, h4.at']
      refine ⟨by omega, fun μ5 e5 => ?_⟩
      have c5 : μ5 36 12 = dp := by rw [e5, mu_ne (by decide)]; exact h4.cl
      rw [c5]
      refine ⟨by omega, fun μ6 e6 μ7 e7 => ?_⟩
      have c6 : μ6 36 12 = dp := by rw [e6, mu_ne (by decide)]; exact c5
      rw [c6, show ab_w (dp + 1) = dp + 1 from ab_wi (by omega) (by omega)] at e7
      have g7 : ∀ c j, ¬ (c = 36 ∧ j = 12) → ¬ (c = 44 ∧ j = dp) → ¬ (c = 43 ∧ j = dp) → μ7 c j = μ4 c j := fun c j y1 y2 y3 => by rw [e7, ab_mud, if_neg y1, e6, ab_mud, if_neg y2, e5, ab_mud, if_neg y3]
      have sc7 : μ7 36 0 = s := by rw [g7 36 0 (by omega) (by omega) (by omega)]; exact h4.s0.1
      have bg7 : μ7 (s + 6) x = μ (s + 6) x := by rw [g7 _ _ (by omega) (by omega) (by omega)]; exact h4.fr _ _ (by omega) (by omega)
      rw [sc7, bg7, show ab_w (μ (s + 6) x - 1) = μ (s + 6) x - 1 from ab_wi (by omega) (by omega)]
      refine ⟨hs, hx, fun μ8 e8 => ?_⟩
      have g8 : ∀ c j, ¬ (c = 36 ∧ (j = 2 ∨ j = 12)) → ¬ (c = 44 ∧ j = dp) → ¬ (c = 43 ∧ j = dp) → μ8 c j = μ4 c j := fun c j y1 y2 y3 => by rw [e8, ab_mud, if_neg (by omega)]; exact g7 c j (by omega) y2 y3
      have r8 : μ8 45 6 = μ4 45 6 := g8 45 6 (by omega) (by omega) (by omega)
      have v44 : μ8 44 dp = r := by rw [e8, mu_ne (by decide), e7, mu_ne (by decide), e6, ab_mud, if_pos ⟨rfl, rfl⟩]
      have fr8 : ∀ c j, ¬ (37 ≤ c ∧ c ≤ 50) → ¬ (c = 36 ∧ (j = 2 ∨ j = 9 ∨ j = 12)) → μ8 c j = μ c j := fun c j y1 y2 => by rw [g8 c j (by omega) (by omega) (by omega)]; exact h4.fr c j (by omega) y2
      have h8 : mS s μ8 μ8 (b + 7) (μ (s + 6) x - 1) (m - k) (dp + 1) U' V F := by
        refine ⟨fun _ _ _ _ => rfl, by rw [fr8 36 0 (by omega) (by omega), fr8 36 1 (by omega) (by omega)]; exact h.sc, by rw [e8, ab_mud, if_pos ⟨rfl, rfl⟩], by rw [g8 36 9 (by omega) (by omega) (by omega)]; exact h4.m9, by rw [e8, ab_mud, if_neg (by omega), e7, ab_mud, if_pos ⟨rfl, rfl⟩], by rw [r8]; have := h4.rb; omega, h4.m0, ?_⟩
        obtain ⟨w, Q, ft⟩ := h4.q
        refine ⟨w, Q.up (fun c i z => g8 c i (by omega) (by omega) (by omega)) (g8 45 5 (by omega) (by omega) (by omega)) (by omega) (fun j a c => (Q.o j a c).le (by omega) (g8 42 j (by omega) (by omega) (by omega)) (g8 41 j (by omega) (by omega) (by omega))) (fun y z => by rw [g8 40 y (by omega) (by omega) (by omega)]; exact (Q.u y z).le (by omega)) (fun y z => by rw [g8 39 y (by omega) (by omega) (by omega)]; exact (Q.v y z).le (by omega)) (fun i a c => ?_) fun t ta tb => by rw [g8 37 t (by omega) (by omega) (by omega)]; exact Q.bg t ta tb, ft⟩
        by_cases e : i = dp
        · rw [e, v44]; exact cr.le (by omega)
        · rw [g8 44 i (by omega) (by omega) (by omega)]; exact (Q.f i a (by omega)).le (by omega)
      refine hP μ8 fr8 h8 ?_ ?_ fun j y => ?_
      · refine mEt.l (mEt.r (ln.trans ((mS.ln g2).trans (mLn.of (f3 45 7 (by omega)) (f3 45 5 (by omega))))) e4) (mLn.of (g8 45 7 (by omega) (by omega) (by omega)) (g8 45 5 (by omega) (by omega) (by omega)))
      · rw [e8, mu_ne (by decide), e7, mu_ne (by decide), e6, mu_ne (by decide), e5, ab_mud, if_pos ⟨rfl, rfl⟩]
      · rw [g8 43 j (by omega) (by omega) (by omega)]
        exact h4.fr 43 j (by omega) (by omega)
    | succ q ih =>
      intro l μ1 k l0 l1 l2 l3 l4 k0 k1 eq h1 ln
      refine bk_mMa_call_38 l0 ?_
      rw [l1, l2, l3, l4]
      refine ⟨fun y => by omega, fun z => ?_⟩
      rw [h1.s0.2]
      refine ⟨Or.inl rfl, c_ma_reg h1 (by omega) fun r μ2 h2 cr v2 f2 => ?_⟩
      have e8 : μ2 (s + 8) x = μ (s + 8) x := h2.fr _ _ (by omega) (by omega)
      rw [h2.s0.1, e8, show ab_w (μ (s + 8) x + k) = μ (s + 8) x + k from ab_wi (by omega) (by omega), show ab_w (m - n + k) = m - n + k from ab_wi (by omega) (by omega)]
      refine ⟨hs, hx, by omega, fun μ3 e3 => ⟨by omega, ?_⟩⟩
      have g3 : ∀ c j, c ≠ 40 → μ3 c j = μ2 c j := fun c j y => by rw [e3, mu_ne y]
      have r3 : μ3 45 6 = μ2 45 6 := g3 45 6 (by decide)
      have h3 : mS s μ μ3 (b + k + 1) pc m dp (fun y => U y ∨ (μ (s + 8) x ≤ y ∧ y < μ (s + 8) x + (k + 1))) V F := by
        refine ⟨fun c j y1 y2 => by rw [g3 c j (by omega)]; exact h2.fr c j y1 y2, h2.sc, by rw [g3 36 2 (by decide)]; exact h2.at', by rw [g3 36 9 (by decide)]; exact h2.m9, by rw [g3 36 12 (by decide)]; exact h2.cl, by rw [r3]; exact h2.rb, h2.m0, ?_⟩
        obtain ⟨w, Q, ft⟩ := h2.q
        refine ⟨w, Q.up (fun c i z => g3 c i (by omega)) (g3 45 5 (by decide)) (by omega) (fun j a c => (Q.o j a c).le (by omega) (g3 42 j (by decide)) (g3 41 j (by decide))) (fun y z => ?_) (fun y z => by rw [g3 39 y (by decide)]; exact (Q.v y z).le (by omega)) (fun i a c => by rw [g3 44 i (by decide)]; exact (Q.f i a c).le (by omega)) fun t ta tb => by rw [g3 37 t (by decide)]; exact Q.bg t ta tb, ft⟩
        by_cases p : y = μ (s + 8) x + k
        · rw [p, e3, ab_mud, if_pos ⟨rfl, rfl⟩]; exact cr.le (by rw [mu_ne (by decide)]; exact Int.le_refl _)
        · rw [e3, ab_mud, if_neg (fun o => p o.2)]
          refine (Q.u y ?_).le (by rw [mu_ne (by decide)]; exact Int.le_refl _)
          rcases z with z | z
          · exact Or.inl z
          · exact Or.inr (by omega)
      have o1 := h3.op (j := m - n + k) (by omega) (by omega)
      obtain ⟨k1', k2'⟩ := cK.lay o1 (cr.le (μ' := μ3) (by omega))
      have s98 : ∀ kk : Int, (kk = 0 ∨ kk = 1) → cK μ3 kk r (μ3 41 (m - n + k)) 0 (μ3 42 (m - n + k)) → jj_mMa_call X (d + 3) 98 (ab_up (ab_up l 5 r) 6 (μ3 42 (m - n + k))) [(0, kk), (2, 45)] μ3 P := by
        intro kk k01 ck
        refine bk_mMa_call_98 l0 ?_
        show (0 ≤ ab_w (l 3 + l 4) ∧ ab_w (l 3 + l 4) < 3000) ∧ ab_is 1 45 ∧ jj_mCo_add X (d + 2) 0 (ab_la [45, kk, r, μ3 41 (ab_w (l 3 + l 4)), 0, μ3 42 (m - n + k)]) [] μ3 (fun _ μ1 => jj_mMa_call X (d + 3) 38 (ab_up (ab_up (ab_up l 5 r) 6 (μ3 42 (m - n + k))) 4 (ab_w (l 4 + 1))) [] μ1 P)
        rw [l3, l4, show ab_w (m - n + k) = m - n + k from ab_wi (by omega) (by omega), show ab_w (k + 1) = k + 1 from ab_wi (by omega) (by omega)]
        refine ⟨by omega, Or.inl rfl, c_ma_add h3 ck (fun y => by omega) fun q4 μ4 h4 e4 _ _ => ih _ μ4 (k + 1) l0 l1 l2 l3 rfl (by omega) (by omega) (by omega) (by rw [show b + (k + 1) = b + k + 1 by omega]; exact h4) (ln.trans ((mLn.of (by rw [g3 45 7 (by decide), f2 45 7 (by omega)]) (by rw [g3 45 5 (by decide), f2 45 5 (by omega)])).trans e4.1))⟩
      rw [h3.s0.2]
      exact ⟨fun y => s98 1 (Or.inr rfl) (k1' y), fun y => s98 0 (Or.inl rfl) (k2' y)⟩
  refine bk_mMa_call_0 rfl ?_
  show ab_is 10 (μ 36 0) ∧ (0 ≤ x ∧ x < 15) ∧ _
  rw [h.s0.1, h.m9, h.cl]
  show ab_is 10 s ∧ (0 ≤ x ∧ x < 15) ∧ (m < μ (s + 9) x → P 0 μ) ∧ (μ (s + 9) x ≤ m → (dp < 15 → jj_mMa_call X (d + 3) 38 (ab_up (ab_up (ab_up (ab_la [36, x]) 2 (μ (s + 9) x)) 3 (ab_w (m - μ (s + 9) x))) 4 0) [] μ P) ∧ (15 ≤ dp → P 0 μ))
  rw [hn, show ab_w (m - n) = m - n from ab_wi (by omega) (by omega)]
  exact ⟨hs, hx, fun y => by omega, fun _ => ⟨fun _ => s38 _ _ μ 0 rfl rfl rfl rfl rfl (by omega) (by omega) rfl ((h.le (by omega)).sub (fun y z => z.elim id fun z => by omega) (fun _ z => z) fun _ z => z) mLn.rf, fun y => by omega⟩⟩
end K17

/-! THE CLASS, part k18: make -/
section K18
variable {X : jm_X} {d : Nat} {P : Int → ab_m → Prop} {μ μ' μ0 : ab_m} {s b pc m dp N dn : Int} {U U' V V' F F' : Int → Prop} {Γ : scG}
theorem c_mMa_endCall (h : mS s μ μ b pc m dp U V F) (hd : 1 ≤ dp ∧ dp ≤ 15) (hm : m < 3000) (hP : ∀ μ', (∀ c j, ¬ (37 ≤ c ∧ c ≤ 50 ∧ c ≠ 43) → ¬ (c = 36 ∧ (j = 2 ∨ j = 9 ∨ j = 12)) → μ' c j = μ c j) → mS s μ' μ' b (μ 43 (dp - 1)) (m + 1) (dp - 1) U V F → mLn μ μ' → P 0 μ') : jj_mMa_endCall X (d + 1) 0 (ab_la [36]) [] μ P := by
  refine bk_mMa_endCall_0 rfl ⟨fun y => ?_, fun _ μ1 e1 => ?_⟩
  · rw [h.cl] at y; omega
  rw [h.cl, show ab_w (dp - 1) = dp - 1 from ab_wi (by omega) (by omega)] at e1
  have g1 : ∀ c j, ¬ (c = 36 ∧ j = 12) → μ1 c j = μ c j := fun c j y => by rw [e1, ab_mud, if_neg y]
  have v1 : μ1 36 12 = dp - 1 := by rw [e1, ab_mud, if_pos ⟨rfl, rfl⟩]
  obtain ⟨w, Q, ft⟩ := h.q
  have h1 : mS s μ μ1 b pc m (dp - 1) U V F := ⟨fun c j y1 y2 => g1 c j (by omega), h.sc, by rw [g1 36 2 (by omega)]; exact h.at', by rw [g1 36 9 (by omega)]; exact h.m9, v1, by rw [g1 45 6 (by omega)]; exact h.rb, h.m0, w, by
    have Q1 : cQ μ1 w m dp U V := Q.fr (fun c i z => g1 c i (by omega)) (g1 45 5 (by omega)) (by rw [g1 45 6 (by omega)]; exact Int.le_refl _) (Int.le_refl _)
    exact ⟨Q1.j, Q1.o, Q1.u, Q1.v, fun i a c => Q1.f i a (by omega), Q1.bg⟩, ft⟩
  rw [v1, g1 44 _ (by omega)]
  refine ⟨by omega, c_mMa_push h1 hm (Or.inl ⟨rfl, (Q.f (dp - 1) (by omega) (by omega)).le (by rw [g1 45 6 (by omega)]; exact Int.le_refl _)⟩) fun μ2 h2 g2 => ?_⟩
  rw [h2.cl, g2 43 _ (by omega) (by decide) (by decide), g1 43 _ (by omega)]
  refine ⟨by omega, fun μ3 e3 => ?_⟩
  have g3 : ∀ c j, ¬ (c = 36 ∧ j = 2) → μ3 c j = μ2 c j := fun c j y => by rw [e3, ab_mud, if_neg y]
  have fr3 : ∀ c j, ¬ (37 ≤ c ∧ c ≤ 50 ∧ c ≠ 43) → ¬ (c = 36 ∧ (j = 2 ∨ j = 9 ∨ j = 12)) → μ3 c j = μ c j := fun c j y1 y2 => by rw [g3 c j (by omega)]; exact h2.fr c j y1 y2
  refine hP μ3 fr3 ⟨fun _ _ _ _ => rfl, by rw [fr3 36 0 (by omega) (by omega), fr3 36 1 (by omega) (by omega)]; exact h.sc, by rw [e3, ab_mud, if_pos ⟨rfl, rfl⟩], by rw [g3 36 9 (by omega)]; exact h2.m9, by rw [g3 36 12 (by omega)]; exact h2.cl, by rw [g3 45 6 (by omega)]; exact h2.rb, h2.m0, ?_⟩ (mLn.of (by rw [g3 45 7 (by omega), g2 45 7 (by omega) (by decide) (by decide), g1 45 7 (by omega)]) (by rw [g3 45 5 (by omega), g2 45 5 (by omega) (by decide) (by decide), g1 45 5 (by omega)]))
  obtain ⟨w2, Q2, ft2⟩ := h2.q
  exact ⟨w2, Q2.fr (fun c i z => g3 c i (by omega)) (g3 45 5 (by omega)) (by rw [g3 45 6 (by omega)]; exact Int.le_refl _) (Int.le_refl _), ft2⟩
theorem c_mMa_giveBack {x : Int} (hs : ab_is 10 s) (h : mS s μ μ b pc m dp U V F) (hd : 1 ≤ dp ∧ dp ≤ 15) (hm : 1 ≤ m) (hx : 0 ≤ x ∧ x < 15) (he : 0 ≤ μ (s + 7) x ∧ μ (s + 7) x < 3002) (hF : pc < μ (s + 7) x → F (μ (s + 7) x)) (hP : ∀ μ', mS s μ μ' b pc (m - 1) dp U V F → mEt μ μ' → P 0 μ') : jj_mMa_giveBack X (d + 3) 0 (ab_la [36, x]) [] μ P := by
  have hs' : s = 16 ∨ s = 26 := hs
  refine bk_mMa_giveBack_0 rfl ⟨fun y => ?_, fun _ => ?_⟩
  · rw [h.cl] at y; omega
  rw [h.cl, show ab_w (dp - 1) = dp - 1 from ab_wi (by omega) (by omega)]
  obtain ⟨w, Q, ft⟩ := h.q
  refine ⟨by omega, c_mMa_lay h hm (Q.f (dp - 1) (by omega) (by omega)) fun μ1 h1 e1 _ => ?_⟩
  rw [h1.s0.1]
  show ab_is 10 s ∧ (0 ≤ x ∧ x < 15) ∧ jj_mMa_leap X (d + 2) 0 (ab_la [36, 25, μ1 (s + 7) x, 0, 0]) [] μ1 _
  rw [h1.fr (s + 7) x (by omega) (by omega)]
  exact ⟨hs, hx, c_mMa_leap h1 (Or.inl rfl) he (fun t' => ⟨by omega, by omega, fun y => by omega, fun y => by omega, fun y => by omega, fun y => by omega, fun y => by omega, fun y => by omega⟩) hF fun μ2 h2 e2 => hP μ2 h2 (e1.l e2.1)⟩
/-- how much a step may still cost -/
def scP (μ : ab_m) (s : Int) (Γ : scG) (dn k : Int) : Int := Γ.1 k + Γ.2.2.2.1 k - (if μ (s + 1) k = 35 then 2 else 0) - (if Γ.2.1 k < dn then 40 else 0)
def scPs (μ : ab_m) (s : Int) (Γ : scG) (dn : Int) : List Int → Int
  | [] => 0
  | b :: bs => scP μ s Γ dn b + scPs μ s Γ dn bs
theorem scW.ph (t : scW μ s Γ N dn) {k : Int} (a : 0 ≤ k) (c : k < N) : scP μ s Γ dn k ≤ Γ.1 k + 30 ∧ -42 ≤ scP μ s Γ dn k := by
  have q := (t.k k a c).q
  have h0 := (t.tr a c).1
  unfold scP
  split <;> split <;> omega
theorem scPs_le (t : scW μ s Γ N dn) : ∀ {L : List Int} {p v : Int}, scFr Γ N dn L p v → scPs μ s Γ dn L ≤ v + 31 * L.length
  | [], p, v, h => by rw [h.2]; simp [scPs]
  | b :: bs, p, v, h => by
    obtain ⟨h1, h2, h3, h4, v', h5, h6⟩ := h
    have ih := scPs_le t h6
    have p1 := (t.ph (show 0 ≤ b by omega) h2).1
    have l : ((b :: bs : List Int).length : Int) = bs.length + 1 := by simp
    show scP μ s Γ dn b + scPs μ s Γ dn bs ≤ _
    omega
/-- a step within a def -/
theorem scW.pst (t : scW μ s Γ N dn) {k : Int} (a : 0 ≤ k) (c : k + 1 < N) (h34 : μ (s + 1) k ≠ 34) : scP μ s Γ dn k ≤ scP μ s Γ dn (k + 1) + 60 ∧ (μ (s + 1) k = 0 ∨ μ (s + 1) k = 31 ∨ μ (s + 1) k = 35 → scP μ s Γ dn k + 1 ≤ scP μ s Γ dn (k + 1)) := by
  have q1 := (t.k k a (by omega)).q
  have q2 := (t.k (k + 1) (by omega) c).q
  have dr := (t.k (k + 1) (by omega) c).dr
  rw [show k + 1 - 1 = k by omega] at dr
  rcases (t.k k a (by omega)).mv with h | h | h
  · exact absurd h.1 h34
  · exact absurd h.1 (t.ns k a (by omega))
  · obtain ⟨hv, h2, h3, h4, h5, h6⟩ := h
    have cl := (t.k k a (by omega)).cl
    have df := t.df (μ (s + 2) k)
    unfold scP
    rw [h2]
    unfold scHv at hv
    have n6 : μ (s + 1) k = 32 → μ (s + 9) (μ (s + 2) k) ≤ 6 := fun z => by
      obtain ⟨c1, c2, c3⟩ := cl z
      exact (df c1 c3).2.2.2.2.2.2.2.1.2
    clear cl df
    generalize μ (s + 9) (μ (s + 2) k) = n at *
    generalize μ (s + 1) k = op at *
    generalize Γ.1 (k + 1) = h' at *
    generalize Γ.1 k = hh at *
    generalize Γ.2.2.2.1 (k + 1) = q' at *
    generalize Γ.2.2.2.1 k = qq at *
    have D : (if μ (s + 1) (k + 1) = 35 then (2 : Int) else 0) = 0 ∨ ((if μ (s + 1) (k + 1) = 35 then (2 : Int) else 0) = 2 ∧ op = 32) := by
      by_cases z : μ (s + 1) (k + 1) = 35
      · rw [if_pos z]; exact Or.inr ⟨rfl, (dr z).2.1⟩
      · rw [if_neg z]; exact Or.inl rfl
    have E : (op = 35 ∧ (if op = 35 then (2 : Int) else 0) = 2) ∨ (op ≠ 35 ∧ (if op = 35 then (2 : Int) else 0) = 0) := by
      by_cases z : op = 35
      · exact Or.inl ⟨z, by rw [if_pos z]⟩
      · exact Or.inr ⟨z, by rw [if_neg z]⟩
    generalize (if μ (s + 1) (k + 1) = 35 then (2 : Int) else 0) = D' at *
    generalize (if op = 35 then (2 : Int) else 0) = E' at *
    generalize (if Γ.2.1 k < dn then (40 : Int) else 0) = R' at *
    clear dr
    obtain ⟨v1, v2, v3, v4, v5, v6, v7, v8⟩ := hv
    refine ⟨?_, fun z => ?_⟩
    · have hh' : hh - 6 ≤ h' := by clear h5 h6; omega
      omega
    · rcases z with z | z | z
      · have := v2 (Or.inl z); have := h6 (Or.inl z); clear v2 v3 v4 v5 v6 v7 v8 h5 h6 n6; omega
      · have := v6 (by omega); have := h5 z; clear v2 v3 v4 v5 v6 v7 v8 h5 h6 n6; omega
      · have := v7 (by omega); have := h6 (Or.inr z); clear v2 v3 v4 v5 v6 v7 v8 h5 h6 n6; omega
/-- the ints that have registers; the && and || that have; the steps that leaps may wait for -/
def scU (μ : ab_m) (s : Int) (Γ : scG) (dn pc : Int) (L : List Int) (y : Int) : Prop := scOk μ s Γ dn pc y ∨ ∃ b ∈ L, scOk μ s Γ dn b y
def scV (Γ : scG) (pc : Int) (L : List Int) (y : Int) : Prop := (∃ j, 0 ≤ j ∧ j < pc ∧ Γ.2.1 j = Γ.2.1 pc ∧ y ∈ Γ.2.2.2.2 j) ∨ ∃ b ∈ L, ∃ j, 0 ≤ j ∧ j < b ∧ Γ.2.1 j = Γ.2.1 b ∧ y ∈ Γ.2.2.2.2 j
def scF (Γ : scG) (N pc : Int) (L : List Int) (y : Int) : Prop := (Γ.2.1 y = Γ.2.1 pc ∧ pc ≤ y ∧ y < N) ∨ ∃ b ∈ L, Γ.2.1 y = Γ.2.1 b ∧ b ≤ y ∧ y < N
theorem scU.on {L : List Int} {y : Int} (r : Γ.2.1 (pc + 1) = Γ.2.1 pc) (h : scU μ s Γ dn (pc + 1) L y) : scU μ s Γ dn pc L y ∨ (μ (s + 1) pc = 30 ∧ y = μ (s + 2) pc) := by
  rcases h with h | h
  · rcases h with h | h | ⟨j, j0, j1, j2, j3, j4⟩
    · exact Or.inl (Or.inl (Or.inl h))
    · exact Or.inl (Or.inl (Or.inr (Or.inl (by rw [r] at h; exact h))))
    · by_cases e : j = pc
      · subst e; exact Or.inr ⟨j3, j4.symm⟩
      · exact Or.inl (Or.inl (Or.inr (Or.inr ⟨j, j0, by omega, by rw [j2, r], j3, j4⟩)))
  · exact Or.inl (Or.inr h)
theorem scV.on {L : List Int} {y : Int} (r : Γ.2.1 (pc + 1) = Γ.2.1 pc) (h : scV Γ (pc + 1) L y) : scV Γ pc L y ∨ y ∈ Γ.2.2.2.2 pc := by
  rcases h with ⟨j, j0, j1, j2, j3⟩ | h
  · by_cases e : j = pc
    · subst e; exact Or.inr j3
    · exact Or.inl (Or.inl ⟨j, j0, by omega, by rw [j2, r], j3⟩)
  · exact Or.inl (Or.inr h)
end K18

