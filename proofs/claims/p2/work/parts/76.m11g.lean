/-! THE REFERENCE, part 77: what lower keeps -/
section M77
variable {μ μ' : ab_m} {w w' : Int → Int} {O : List Int} {dp m x k o y j a : Int} {U U' : Int → Prop}
def lR (μ : ab_m) (r : Int) : Prop := 0 ≤ r ∧ r < μ 109 71
/-- entry j, from below, of what is open -/
def lAt : List Int → Int → Int → Prop
  | [], _, _ => False
  | a :: r, j, b => (j = r.length ∧ b = a) ∨ lAt r j b
theorem lAt.lt : ∀ {O : List Int} {j b : Int}, lAt O j b → 0 ≤ j ∧ j < O.length
  | [], _, _, h => h.elim
  | a :: r, j, b, h => by
    have l : ((a :: r).length : Int) = r.length + 1 := by simp
    rcases h with ⟨h, -⟩ | h
    · omega
    · have := h.lt; omega
theorem lAt.uq : ∀ {O : List Int} {j b b' : Int}, lAt O j b → lAt O j b' → b = b'
  | [], _, _, _, h, _ => h.elim
  | a :: r, j, b, b', h, h' => by
    rcases h with ⟨h, e⟩ | h
    · rcases h' with ⟨-, e'⟩ | h'
      · rw [e, e']
      · have := h'.lt; omega
    · rcases h' with ⟨z, e'⟩ | h'
      · have := h.lt; omega
      · exact h.uq h'
/-- who waits for instruction i: 0 nobody, 2 j + 1 or 2 j + 2 entry j, -1 - i frame i, 100000 the method at hand -/
def lNo (w : Int → Int) (o : Int) : Prop := ∀ i, w i ≠ o
def lSg (w : Int → Int) (o y : Int) : Prop := ∀ i, w i = o ↔ i = y
def lC (μ : ab_m) (w : Int → Int) (o y : Int) : Prop := ∃ L, mDc μ L y ∧ ∀ i, w i = o ↔ i ∈ L
def lE (μ : ab_m) (w : Int → Int) (j a : Int) : Prop := lC μ w (2 * j + 2) (μ 157 j) ∧ ((a = 1 ∧ μ 154 j = 6 ∧ lR μ (μ 155 j) ∧ lNo w (2 * j + 1) ∧ μ 157 j = -1) ∨ (a = 2 ∧ μ 154 j = 6 ∧ lR μ (μ 155 j) ∧ lSg w (2 * j + 1) (μ 156 j) ∧ μ 157 j = -1) ∨ (a = 3 ∧ μ 154 j = 19 ∧ (0 ≤ μ 155 j ∧ μ 155 j ≤ μ 109 69) ∧ lNo w (2 * j + 1)) ∨ (a = 4 ∧ μ 154 j = 19 ∧ (0 ≤ μ 155 j ∧ μ 155 j ≤ μ 109 69) ∧ lSg w (2 * j + 1) (μ 156 j)) ∨ (a = 5 ∧ μ 154 j = 21 ∧ (0 ≤ μ 155 j ∧ μ 155 j ≤ μ 109 69) ∧ lC μ w (2 * j + 1) (μ 156 j)) ∨ (a = 6 ∧ μ 154 j = 21 ∧ (0 ≤ μ 155 j ∧ μ 155 j ≤ μ 109 69) ∧ lNo w (2 * j + 1)) ∨ (a = 7 ∧ μ 154 j = 15 ∧ lSg w (2 * j + 1) (μ 155 j) ∧ μ 157 j = -1))
def lF (μ : ab_m) (w : Int → Int) (i : Int) : Prop := lR μ (μ 158 i) ∧ lC μ w (-1 - i) (μ 160 i)
end M77
/-- instruction i, o who waits for it -/
def lI (μ : ab_m) (o i : Int) : Prop := (0 ≤ μ 145 i ∧ μ 145 i ≤ 28) ∧ (mUA μ i → lR μ (μ 147 i)) ∧ (mUB μ i → lR μ (μ 148 i)) ∧ ((μ 145 i ≤ 21 ∨ μ 145 i = 23) → lR μ (μ 146 i)) ∧ ((μ 145 i = 25 ∨ μ 145 i = 26 ∨ μ 145 i = 27) → o ≠ 0 ∨ (0 ≤ μ 146 i ∧ μ 146 i ≤ μ 109 69)) ∧ (μ 145 i = 21 → 0 ≤ μ 148 i ∧ μ 148 i < 8) ∧ (μ 145 i = 22 → 0 ≤ μ 146 i ∧ μ 146 i < 8) ∧ ((μ 145 i = 1 → μ 149 i = 0) ∧ (μ 145 i = 0 → μ 149 i ≠ 0))
theorem lI.k {μ : ab_m} {o i : Int} (h'' : lI μ o i) : 0 ≤ μ 145 i ∧ μ 145 i ≤ 28 := h''.1
theorem lI.ua {μ : ab_m} {o i : Int} (h'' : lI μ o i) : mUA μ i → lR μ (μ 147 i) := h''.2.1
theorem lI.ub {μ : ab_m} {o i : Int} (h'' : lI μ o i) : mUB μ i → lR μ (μ 148 i) := h''.2.2.1
theorem lI.d {μ : ab_m} {o i : Int} (h'' : lI μ o i) : (μ 145 i ≤ 21 ∨ μ 145 i = 23) → lR μ (μ 146 i) := h''.2.2.2.1
theorem lI.l {μ : ab_m} {o i : Int} (h'' : lI μ o i) : (μ 145 i = 25 ∨ μ 145 i = 26 ∨ μ 145 i = 27) → o ≠ 0 ∨ (0 ≤ μ 146 i ∧ μ 146 i ≤ μ 109 69) := h''.2.2.2.2.1
theorem lI.r1 {μ : ab_m} {o i : Int} (h'' : lI μ o i) : μ 145 i = 21 → 0 ≤ μ 148 i ∧ μ 148 i < 8 := h''.2.2.2.2.2.1
theorem lI.r2 {μ : ab_m} {o i : Int} (h'' : lI μ o i) : μ 145 i = 22 → 0 ≤ μ 146 i ∧ μ 146 i < 8 := h''.2.2.2.2.2.2.1
theorem lI.c {μ : ab_m} {o i : Int} (h'' : lI μ o i) : (μ 145 i = 1 → μ 149 i = 0) ∧ (μ 145 i = 0 → μ 149 i ≠ 0) := h''.2.2.2.2.2.2.2
section M77
variable {μ μ' : ab_m} {w w' : Int → Int} {O : List Int} {dp m x k o y j a : Int} {U U' : Int → Prop}
end M77
def lJ (μ : ab_m) (w : Int → Int) (k dp x : Int) : Prop := (∀ i, 0 ≤ i → i < μ 109 69 → lI μ (w i) i) ∧ (∀ i, w i ≠ 0 → (0 ≤ i ∧ i < μ 109 69) ∧ (μ 145 i = 25 ∨ μ 145 i = 26 ∨ μ 145 i = 27) ∧ ((1 ≤ w i ∧ w i ≤ 2 * k) ∨ (-dp ≤ w i ∧ w i ≤ -1) ∨ w i = 100000)) ∧ (∀ i, w i = 100000 → i = x) ∧ (0 ≤ x → w x = 100000)
theorem lJ.i {μ : ab_m} {w : Int → Int} {k dp x : Int} (h'' : lJ μ w k dp x) : ∀ i, 0 ≤ i → i < μ 109 69 → lI μ (w i) i := h''.1
theorem lJ.ow {μ : ab_m} {w : Int → Int} {k dp x : Int} (h'' : lJ μ w k dp x) : ∀ i, w i ≠ 0 → (0 ≤ i ∧ i < μ 109 69) ∧ (μ 145 i = 25 ∨ μ 145 i = 26 ∨ μ 145 i = 27) ∧ ((1 ≤ w i ∧ w i ≤ 2 * k) ∨ (-dp ≤ w i ∧ w i ≤ -1) ∨ w i = 100000) := h''.2.1
theorem lJ.fx {μ : ab_m} {w : Int → Int} {k dp x : Int} (h'' : lJ μ w k dp x) : ∀ i, w i = 100000 → i = x := h''.2.2.1
theorem lJ.f0 {μ : ab_m} {w : Int → Int} {k dp x : Int} (h'' : lJ μ w k dp x) : 0 ≤ x → w x = 100000 := h''.2.2.2
section M77
variable {μ μ' : ab_m} {w w' : Int → Int} {O : List Int} {dp m x k o y j a : Int} {U U' : Int → Prop}
/-- an operand: a register, or a number -/
def lOp (μ : ab_m) (j : Int) : Prop := (μ 152 j = 0 ∧ lR μ (μ 153 j)) ∨ μ 152 j = 1
end M77
def lQ (μ : ab_m) (w : Int → Int) (O : List Int) (dp m x : Int) (U : Int → Prop) : Prop := (lJ μ w O.length dp x) ∧ (((O.length : Int) ≤ 3010) ∧ 0 ≤ dp ∧ dp ≤ 20) ∧ (∀ j, 0 ≤ j → j < m → lOp μ j) ∧ (∀ j a, lAt O j a → lE μ w j a) ∧ (∀ i, 0 ≤ i → i < dp → lF μ w i) ∧ (∀ y, U y → lR μ (μ 151 y))
theorem lQ.j {μ : ab_m} {w : Int → Int} {O : List Int} {dp m x : Int} {U : Int → Prop} (h'' : lQ μ w O dp m x U) : lJ μ w O.length dp x := h''.1
theorem lQ.b {μ : ab_m} {w : Int → Int} {O : List Int} {dp m x : Int} {U : Int → Prop} (h'' : lQ μ w O dp m x U) : ((O.length : Int) ≤ 3010) ∧ 0 ≤ dp ∧ dp ≤ 20 := h''.2.1
theorem lQ.o {μ : ab_m} {w : Int → Int} {O : List Int} {dp m x : Int} {U : Int → Prop} (h'' : lQ μ w O dp m x U) : ∀ j, 0 ≤ j → j < m → lOp μ j := h''.2.2.1
theorem lQ.e {μ : ab_m} {w : Int → Int} {O : List Int} {dp m x : Int} {U : Int → Prop} (h'' : lQ μ w O dp m x U) : ∀ j a, lAt O j a → lE μ w j a := h''.2.2.2.1
theorem lQ.f {μ : ab_m} {w : Int → Int} {O : List Int} {dp m x : Int} {U : Int → Prop} (h'' : lQ μ w O dp m x U) : ∀ i, 0 ≤ i → i < dp → lF μ w i := h''.2.2.2.2.1
theorem lQ.u {μ : ab_m} {w : Int → Int} {O : List Int} {dp m x : Int} {U : Int → Prop} (h'' : lQ μ w O dp m x U) : ∀ y, U y → lR μ (μ 151 y) := h''.2.2.2.2.2
section M77
variable {μ μ' : ab_m} {w w' : Int → Int} {O : List Int} {dp m x k o y j a : Int} {U U' : Int → Prop}
theorem lR.le {r : Int} (h : lR μ r) (e : μ 109 71 ≤ μ' 109 71) : lR μ' r := ⟨h.1, by have := h.2; omega⟩
theorem lOp.le (h : lOp μ j) (e : μ 109 71 ≤ μ' 109 71) (f1 : μ' 152 j = μ 152 j) (f2 : μ' 153 j = μ 153 j) : lOp μ' j := by
  unfold lOp
  rw [f1, f2]
  exact h.imp (fun z => ⟨z.1, z.2.le e⟩) fun z => z
theorem lOp.r (h : lOp μ j) (z : μ 152 j % 2 = 0) : lR μ (μ 153 j) := by
  rcases h with h | h
  · exact h.2
  · rw [h] at z; exact absurd z (by decide)
end M77
/-- all that others wait for stays -/
def lT (μ μ' : ab_m) (w w' : Int → Int) (o : Int) : Prop := (μ 109 69 ≤ μ' 109 69) ∧ (μ 109 71 ≤ μ' 109 71) ∧ (∀ o', o' ≠ 0 → o' ≠ 100000 → o' ≠ o → ∀ i, (w' i = o' ↔ w i = o') ∧ (w i = o' → μ' 146 i = μ 146 i))
theorem lT.n {μ μ' : ab_m} {w w' : Int → Int} {o : Int} (h'' : lT μ μ' w w' o) : μ 109 69 ≤ μ' 109 69 := h''.1
theorem lT.r {μ μ' : ab_m} {w w' : Int → Int} {o : Int} (h'' : lT μ μ' w w' o) : μ 109 71 ≤ μ' 109 71 := h''.2.1
theorem lT.s {μ μ' : ab_m} {w w' : Int → Int} {o : Int} (h'' : lT μ μ' w w' o) : ∀ o', o' ≠ 0 → o' ≠ 100000 → o' ≠ o → ∀ i, (w' i = o' ↔ w i = o') ∧ (w i = o' → μ' 146 i = μ 146 i) := h''.2.2
section M77
variable {μ μ' : ab_m} {w w' : Int → Int} {O : List Int} {dp m x k o y j a : Int} {U U' : Int → Prop}
theorem lC.tr {o' : Int} (h : lC μ w o' y) (t : lT μ μ' w w' o) (h0 : o' ≠ 0) (h1 : o' ≠ 100000) (h2 : o' ≠ o) : lC μ' w' o' y := by
  obtain ⟨L, l1, l2⟩ := h
  have s := t.s o' h0 h1 h2
  exact ⟨L, l1.same fun z hz => (s z).2 ((l2 z).mpr hz), fun i => (s i).1.trans (l2 i)⟩
theorem lNo.tr {o' : Int} (h : lNo w o') (t : lT μ μ' w w' o) (h0 : o' ≠ 0) (h1 : o' ≠ 100000) (h2 : o' ≠ o) : lNo w' o' := fun i z => h i (((t.s o' h0 h1 h2 i).1).mp z)
theorem lSg.tr {o' : Int} (h : lSg w o' y) (t : lT μ μ' w w' o) (h0 : o' ≠ 0) (h1 : o' ≠ 100000) (h2 : o' ≠ o) : lSg w' o' y := fun i => ((t.s o' h0 h1 h2 i).1).trans (h i)
theorem lE.tr (h : lE μ w j a) (t : lT μ μ' w w' o) (h1 : o ≠ 2 * j + 1) (h2 : o ≠ 2 * j + 2) (hj : 0 ≤ j ∧ j < 3010) (f : ∀ c, 154 ≤ c → c ≤ 157 → μ' c j = μ c j) : lE μ' w' j a := by
  have n := t.n
  have e1 := f 154 (by decide) (by decide)
  have e2 := f 155 (by decide) (by decide)
  have e3 := f 156 (by decide) (by decide)
  have e4 := f 157 (by decide) (by decide)
  obtain ⟨c, h⟩ := h
  unfold lE
  rw [e1, e2, e3, e4]
  refine ⟨c.tr t (by omega) (by omega) (by omega), ?_⟩
  rcases h with ⟨q1, q2, q3, q4, q5⟩ | ⟨q1, q2, q3, q4, q5⟩ | ⟨q1, q2, q3, q4⟩ | ⟨q1, q2, q3, q4⟩ | ⟨q1, q2, q3, q4⟩ | ⟨q1, q2, q3, q4⟩ | ⟨q1, q2, q3, q4⟩
  · exact Or.inl ⟨q1, q2, q3.le t.r, q4.tr t (by omega) (by omega) (by omega), q5⟩
  · exact Or.inr (Or.inl ⟨q1, q2, q3.le t.r, q4.tr t (by omega) (by omega) (by omega), q5⟩)
  · exact Or.inr (Or.inr (Or.inl ⟨q1, q2, by omega, q4.tr t (by omega) (by omega) (by omega)⟩))
  · exact Or.inr (Or.inr (Or.inr (Or.inl ⟨q1, q2, by omega, q4.tr t (by omega) (by omega) (by omega)⟩)))
  · exact Or.inr (Or.inr (Or.inr (Or.inr (Or.inl ⟨q1, q2, by omega, q4.tr t (by omega) (by omega) (by omega)⟩))))
  · exact Or.inr (Or.inr (Or.inr (Or.inr (Or.inr (Or.inl ⟨q1, q2, by omega, q4.tr t (by omega) (by omega) (by omega)⟩)))))
  · exact Or.inr (Or.inr (Or.inr (Or.inr (Or.inr (Or.inr ⟨q1, q2, q3.tr t (by omega) (by omega) (by omega), q4⟩)))))
theorem lE.g1 (h : lE μ w j 1) : μ 154 j = 6 ∧ lR μ (μ 155 j) ∧ lNo w (2 * j + 1) ∧ μ 157 j = -1 := by
  rcases h.2 with q | q | q | q | q | q | q
  · exact q.2
  · exact absurd q.1 (by decide)
  · exact absurd q.1 (by decide)
  · exact absurd q.1 (by decide)
  · exact absurd q.1 (by decide)
  · exact absurd q.1 (by decide)
  · exact absurd q.1 (by decide)
theorem lE.g2 (h : lE μ w j 2) : μ 154 j = 6 ∧ lR μ (μ 155 j) ∧ lSg w (2 * j + 1) (μ 156 j) ∧ μ 157 j = -1 := by
  rcases h.2 with q | q | q | q | q | q | q
  · exact absurd q.1 (by decide)
  · exact q.2
  · exact absurd q.1 (by decide)
  · exact absurd q.1 (by decide)
  · exact absurd q.1 (by decide)
  · exact absurd q.1 (by decide)
  · exact absurd q.1 (by decide)
theorem lE.g3 (h : lE μ w j 3) : μ 154 j = 19 ∧ (0 ≤ μ 155 j ∧ μ 155 j ≤ μ 109 69) ∧ lNo w (2 * j + 1) := by
  rcases h.2 with q | q | q | q | q | q | q
  · exact absurd q.1 (by decide)
  · exact absurd q.1 (by decide)
  · exact q.2
  · exact absurd q.1 (by decide)
  · exact absurd q.1 (by decide)
  · exact absurd q.1 (by decide)
  · exact absurd q.1 (by decide)
theorem lE.g4 (h : lE μ w j 4) : μ 154 j = 19 ∧ (0 ≤ μ 155 j ∧ μ 155 j ≤ μ 109 69) ∧ lSg w (2 * j + 1) (μ 156 j) := by
  rcases h.2 with q | q | q | q | q | q | q
  · exact absurd q.1 (by decide)
  · exact absurd q.1 (by decide)
  · exact absurd q.1 (by decide)
  · exact q.2
  · exact absurd q.1 (by decide)
  · exact absurd q.1 (by decide)
  · exact absurd q.1 (by decide)
theorem lE.g5 (h : lE μ w j 5) : μ 154 j = 21 ∧ (0 ≤ μ 155 j ∧ μ 155 j ≤ μ 109 69) ∧ lC μ w (2 * j + 1) (μ 156 j) := by
  rcases h.2 with q | q | q | q | q | q | q
  · exact absurd q.1 (by decide)
  · exact absurd q.1 (by decide)
  · exact absurd q.1 (by decide)
  · exact absurd q.1 (by decide)
  · exact q.2
  · exact absurd q.1 (by decide)
  · exact absurd q.1 (by decide)
theorem lE.g6 (h : lE μ w j 6) : μ 154 j = 21 ∧ (0 ≤ μ 155 j ∧ μ 155 j ≤ μ 109 69) ∧ lNo w (2 * j + 1) := by
  rcases h.2 with q | q | q | q | q | q | q
  · exact absurd q.1 (by decide)
  · exact absurd q.1 (by decide)
  · exact absurd q.1 (by decide)
  · exact absurd q.1 (by decide)
  · exact absurd q.1 (by decide)
  · exact q.2
  · exact absurd q.1 (by decide)
theorem lE.g7 (h : lE μ w j 7) : μ 154 j = 15 ∧ lSg w (2 * j + 1) (μ 155 j) ∧ μ 157 j = -1 := by
  rcases h.2 with q | q | q | q | q | q | q
  · exact absurd q.1 (by decide)
  · exact absurd q.1 (by decide)
  · exact absurd q.1 (by decide)
  · exact absurd q.1 (by decide)
  · exact absurd q.1 (by decide)
  · exact absurd q.1 (by decide)
  · exact q.2
theorem lF.tr {i : Int} (h : lF μ w i) (t : lT μ μ' w w' o) (h1 : o ≠ -1 - i) (hj : 0 ≤ i ∧ i < 20) (f1 : μ' 158 i = μ 158 i) (f2 : μ' 160 i = μ 160 i) : lF μ' w' i := by
  unfold lF
  rw [f1, f2]
  exact ⟨h.1.le t.r, h.2.tr t (by omega) (by omega) (by omega)⟩
theorem lI.same {o' i : Int} (h : lI μ o i) (f : ∀ c, 145 ≤ c → c ≤ 150 → μ' c i = μ c i) (n : μ 109 69 ≤ μ' 109 69) (r : μ 109 71 ≤ μ' 109 71) (ho : o ≠ 0 → o' ≠ 0) : lI μ' o' i := by
  have e5 := f 145 (by decide) (by decide)
  have e6 := f 146 (by decide) (by decide)
  have e7 := f 147 (by decide) (by decide)
  have e8 := f 148 (by decide) (by decide)
  have e9 := f 149 (by decide) (by decide)
  have e0 := f 150 (by decide) (by decide)
  obtain ⟨h1, h2, h3, h4, h5, h6, h7, h8⟩ := h
  unfold mUA at h2
  unfold mUB at h3
  refine ⟨by rw [e5]; exact h1, fun q => ?_, fun q => ?_, fun q => ?_, fun q => ?_, fun q => ?_, fun q => ?_, ?_⟩
  · unfold mUA at q; rw [e5, e9] at q; rw [e7]; exact (h2 q).le r
  · unfold mUB at q; rw [e5, e0] at q; rw [e8]; exact (h3 q).le r
  · rw [e5] at q; rw [e6]; exact (h4 q).le r
  · rw [e5] at q; rw [e6]
    rcases h5 q with z | z
    · exact Or.inl (ho z)
    · exact Or.inr (by omega)
  · rw [e5] at q; rw [e8]; exact h6 q
  · rw [e5] at q; rw [e6]; exact h7 q
  · rw [e5, e9]; exact h8
/-- the memory of instructions stays, registers may grow -/
theorem lJ.up {k' dp' : Int} (h : lJ μ w k dp x) (f : ∀ c i, 145 ≤ c → c ≤ 150 → μ' c i = μ c i) (n : μ' 109 69 = μ 109 69) (r : μ 109 71 ≤ μ' 109 71) (hk : k ≤ k') (hd : dp ≤ dp') : lJ μ' w k' dp' x := by
  refine ⟨fun i a b => ?_, fun i z => ?_, h.fx, h.f0⟩
  · rw [n] at b; exact (h.i i a b).same (fun c a b => f c i a b) (by omega) r (fun z => z)
  · obtain ⟨w1, w2, w3⟩ := h.ow i z
    rw [n, f 145 i (by decide) (by decide)]
    exact ⟨w1, w2, by omega⟩
theorem lJ.wn {i : Int} (h : lJ μ w k dp x) (b : μ 109 69 ≤ i) : w i = 0 := by
  by_cases z : w i = 0
  · exact z
  · have := h.ow i z; omega
theorem lJ.em {kk t a ia b ib : Int} (h : lJ μ w k dp x) (e : mEm μ μ' kk t a ia b ib) (c : lI μ' 0 (μ 109 69)) : lJ μ' w k dp x := by
  obtain ⟨e0, e1, -⟩ := e
  have r : μ' 109 71 = μ 109 71 := e0 109 71 (by omega) (by omega)
  refine ⟨fun i a b => ?_, fun i z => ?_, h.fx, h.f0⟩
  · by_cases q : i = μ 109 69
    · subst q; rw [h.wn (Int.le_refl _)]; exact c
    · exact (h.i i a (by omega)).same (fun c a b => e0 c i (by omega) (by omega)) (by omega) (by omega) (fun z => z)
  · obtain ⟨w1, w2, w3⟩ := h.ow i z
    rw [e0 145 i (by omega) (by omega)]
    exact ⟨by omega, w2, w3⟩
theorem lJ.emP {kk t a ia b ib : Int} (h : lJ μ w k dp (-1)) (e : mEm μ μ' kk t a ia b ib) (n0 : 0 ≤ μ 109 69) (c : lI μ' 1 (μ 109 69)) (lp : kk = 25 ∨ kk = 26 ∨ kk = 27) : lJ μ' (lUp w (μ 109 69) 100000) k dp (μ 109 69) := by
  obtain ⟨e0, e1, e2, -⟩ := e
  have r : μ' 109 71 = μ 109 71 := e0 109 71 (by omega) (by omega)
  refine ⟨fun i a b => ?_, fun i z => ?_, fun i z => ?_, fun _ => by unfold lUp; rw [if_pos rfl]⟩
  · unfold lUp
    by_cases q : i = μ 109 69
    · subst q; rw [if_pos rfl]; exact ⟨c.k, c.ua, c.ub, c.d, fun _ => Or.inl (by decide), c.r1, c.r2, c.c⟩
    · rw [if_neg q]; exact (h.i i a (by omega)).same (fun c a b => e0 c i (by omega) (by omega)) (by omega) (by omega) (fun z => z)
  · unfold lUp at z ⊢
    by_cases q : i = μ 109 69
    · subst q; rw [if_pos rfl, e2]; exact ⟨by omega, lp, Or.inr (Or.inr rfl)⟩
    · rw [if_neg q] at z ⊢
      obtain ⟨w1, w2, w3⟩ := h.ow i z
      rw [e0 145 i (by omega) (by omega)]
      exact ⟨by omega, w2, w3⟩
  · unfold lUp at z
    by_cases q : i = μ 109 69
    · exact q
    · rw [if_neg q] at z
      have := h.fx i z
      have := (h.ow i (by omega)).1
      omega
theorem lT.em {kk t a ia b ib : Int} (h : lJ μ w k dp x) (e : mEm μ μ' kk t a ia b ib) : lT μ μ' w w 0 := by
  obtain ⟨e0, e1, -⟩ := e
  have r : μ' 109 71 = μ 109 71 := e0 109 71 (by omega) (by omega)
  exact ⟨by omega, by omega, fun o' z1 z2 z3 i => ⟨Iff.rfl, fun z => e0 146 i (by have := (h.ow i (by omega)).1; omega) (by omega)⟩⟩
theorem lT.emP {kk t a ia b ib : Int} (h : lJ μ w k dp x) (e : mEm μ μ' kk t a ia b ib) : lT μ μ' w (lUp w (μ 109 69) 100000) 0 := by
  obtain ⟨e0, e1, -⟩ := e
  have r : μ' 109 71 = μ 109 71 := e0 109 71 (by omega) (by omega)
  refine ⟨by omega, by omega, fun o' z1 z2 z3 i => ⟨?_, fun z => e0 146 i (by have := (h.ow i (by omega)).1; omega) (by omega)⟩⟩
  unfold lUp
  by_cases q : i = μ 109 69
  · subst q; rw [if_pos rfl, h.wn (Int.le_refl _)]; omega
  · rw [if_neg q]
theorem lT.up (n : μ 109 69 ≤ μ' 109 69) (r : μ 109 71 ≤ μ' 109 71) (f : ∀ i, μ' 146 i = μ 146 i) : lT μ μ' w w 0 := ⟨n, r, fun _ _ _ _ i => ⟨Iff.rfl, fun _ => f i⟩⟩
/-- what o waits for is told that it goes here -/
theorem lJ.land (h : lJ μ w k dp x) (f : ∀ c i, 145 ≤ c → c ≤ 150 → ¬ (c = 146 ∧ w i = o) → μ' c i = μ c i) (n : μ' 109 69 = μ 109 69) (r : μ' 109 71 = μ 109 71) (g : ∀ i, w i = o → μ' 146 i = μ 109 69) (o0 : o ≠ 0) (o1 : o ≠ 100000) : lJ μ' (lLd w o) k dp x := by
  refine ⟨fun i a b => ?_, fun i z => ?_, fun i z => ?_, fun z => ?_⟩
  · rw [n] at b
    have hi := h.i i a b
    unfold lLd
    by_cases q : w i = o
    · rw [if_pos q]
      have hl := (h.ow i (by omega)).2.1
      have f' : ∀ c, 145 ≤ c → c ≤ 150 → c ≠ 146 → μ' c i = μ c i := fun c a b z => f c i a b (by omega)
      have e5 := f' 145 (by decide) (by decide) (by decide)
      have e7 := f' 147 (by decide) (by decide) (by decide)
      have e8 := f' 148 (by decide) (by decide) (by decide)
      have e9 := f' 149 (by decide) (by decide) (by decide)
      have e0 := f' 150 (by decide) (by decide) (by decide)
      obtain ⟨h1, h2, h3, h4, h5, h6, h7, h8⟩ := hi
      unfold mUA at h2
      unfold mUB at h3
      refine ⟨by rw [e5]; exact h1, fun q => ?_, fun q => ?_, fun q => ?_, fun q' => ?_, fun q => ?_, fun q => ?_, ?_⟩
      · unfold mUA at q; rw [e5, e9] at q; rw [e7]; exact (h2 q).le (Int.le_of_eq r.symm)
      · unfold mUB at q; rw [e5, e0] at q; rw [e8]; exact (h3 q).le (Int.le_of_eq r.symm)
      · rw [e5] at q; clear h2 h3 h4 h5 h6 h7 h8; omega
      · rw [g i q, n]; clear h2 h3 h4 h5 h6 h7 h8; exact Or.inr ⟨by omega, Int.le_refl _⟩
      · rw [e5] at q; clear h2 h3 h4 h5 h6 h7 h8; omega
      · rw [e5] at q; clear h2 h3 h4 h5 h6 h7 h8; omega
      · rw [e5, e9]; exact h8
    · rw [if_neg q]; exact hi.same (fun c a b => f c i a b (fun z => q z.2)) (by omega) (by omega) (fun z => z)
  · unfold lLd at z ⊢
    by_cases q : w i = o
    · rw [if_pos q] at z; exact absurd rfl z
    · rw [if_neg q] at z ⊢
      obtain ⟨w1, w2, w3⟩ := h.ow i z
      rw [n, f 145 i (by decide) (by decide) (by omega)]
      exact ⟨w1, w2, w3⟩
  · unfold lLd at z
    by_cases q : w i = o
    · rw [if_pos q] at z; omega
    · rw [if_neg q] at z; exact h.fx i z
  · unfold lLd
    have := h.f0 z
    rw [if_neg (by omega)]
    exact this
theorem lT.land (f : ∀ i, ¬ w i = o → μ' 146 i = μ 146 i) (n : μ' 109 69 = μ 109 69) (r : μ' 109 71 = μ 109 71) : lT μ μ' w (lLd w o) o := by
  refine ⟨by omega, by omega, fun o' z1 z2 z3 i => ⟨?_, fun z => f i (by omega)⟩⟩
  unfold lLd
  by_cases q : w i = o
  · rw [if_pos q]; omega
  · rw [if_neg q]
theorem lLd_no (o0 : o ≠ 0) : lNo (lLd w o) o := fun i z => by
  unfold lLd at z
  by_cases q : w i = o
  · rw [if_pos q] at z; omega
  · rw [if_neg q] at z; exact q z
/-- o waits for the one that was laid last -/
theorem lJ.link {k' : Int} (h : lJ μ w k dp x) (f : ∀ c i, 145 ≤ c → c ≤ 150 → μ' c i = μ c i) (n : μ' 109 69 = μ 109 69) (r : μ' 109 71 = μ 109 71) (x0 : 0 ≤ x) (hk : k ≤ k') (o1 : o ≠ 100000) (ho : (1 ≤ o ∧ o ≤ 2 * k') ∨ (-dp ≤ o ∧ o ≤ -1)) : lJ μ' (lUp w x o) k' dp (-1) := by
  have wx := h.f0 x0
  refine ⟨fun i a b => ?_, fun i z => ?_, fun i z => ?_, fun z => by omega⟩
  · rw [n] at b
    refine (h.i i a b).same (fun c a b => f c i a b) (by omega) (by omega) fun z => ?_
    unfold lUp
    by_cases q : i = x
    · rw [if_pos q]; omega
    · rw [if_neg q]; exact z
  · rw [n, f 145 i (by decide) (by decide)]
    unfold lUp at z ⊢
    by_cases q : i = x
    · subst q
      rw [if_pos rfl]
      obtain ⟨w1, w2, w3⟩ := h.ow i (by omega)
      exact ⟨w1, w2, by omega⟩
    · rw [if_neg q] at z ⊢
      obtain ⟨w1, w2, w3⟩ := h.ow i z
      exact ⟨w1, w2, by omega⟩
  · unfold lUp at z
    by_cases q : i = x
    · rw [if_pos q] at z; omega
    · rw [if_neg q] at z; exact absurd (h.fx i z) q
theorem lT.link (h : lJ μ w k dp x) (f : ∀ i, μ' 146 i = μ 146 i) (n : μ' 109 69 = μ 109 69) (r : μ' 109 71 = μ 109 71) (x0 : 0 ≤ x) : lT μ μ' w (lUp w x o) o := by
  have wx := h.f0 x0
  refine ⟨by omega, by omega, fun o' z1 z2 z3 i => ⟨?_, fun _ => f i⟩⟩
  unfold lUp
  by_cases q : i = x
  · subst q; rw [if_pos rfl]; omega
  · rw [if_neg q]
theorem lSg.link (h : lNo w o) : lSg (lUp w x o) o x := fun i => by
  unfold lUp
  by_cases q : i = x
  · rw [if_pos q]; exact ⟨fun _ => q, fun _ => rfl⟩
  · rw [if_neg q]; exact ⟨fun z => absurd z (h i), fun z => absurd z q⟩
/-- a chain grows -/
theorem lC.link (hj : lJ μ w k dp x) (h : lC μ w o y) (o0 : o ≠ 0 ∧ o ≠ 100000) (f : ∀ i, μ' 146 i = μ 146 i) (x0 : 0 ≤ x ∧ x < 400) (hx : x = μ 109 69 - 1) (hd : μ 146 x = y) : lC μ' (lUp w x o) o x := by
  have wx := hj.f0 x0.1
  obtain ⟨L, l1, l2⟩ := h
  have lt : ∀ z ∈ L, z < x := fun z hz => by
    have a := (l2 z).mpr hz
    have b := (hj.ow z (by omega)).1
    have : z ≠ x := fun e => by rw [e] at a; omega
    omega
  refine ⟨x :: L, ⟨rfl, x0.1, x0.2, lt, ?_⟩, fun i => ?_⟩
  · rw [f x, hd]; exact l1.same fun z _ => f z
  · unfold lUp
    by_cases q : i = x
    · rw [if_pos q]; exact ⟨fun _ => by rw [q]; exact List.mem_cons_self .., fun _ => rfl⟩
    · rw [if_neg q]
      exact (l2 i).trans ⟨fun z => List.mem_cons_of_mem _ z, fun z => (List.mem_cons.mp z).resolve_left q⟩
theorem lC.em (h : lNo w o) : lC μ w o (-1) := ⟨[], rfl, fun i => ⟨fun z => absurd z (h i), fun z => absurd z List.not_mem_nil⟩⟩
theorem lC.no (h : lC μ w o (-1)) : lNo w o := by
  obtain ⟨L, l1, l2⟩ := h
  cases L with
  | nil => exact fun i z => absurd ((l2 i).mp z) List.not_mem_nil
  | cons a r => have := l1.1; have := l1.2.1; omega
theorem lJ.popE (h : lJ μ w (k + 1) dp x) (a : lNo w (2 * k + 1)) (b : lNo w (2 * k + 2)) : lJ μ w k dp x := by
  refine ⟨h.i, fun i z => ?_, h.fx, h.f0⟩
  obtain ⟨w1, w2, w3⟩ := h.ow i z
  have := a i
  have := b i
  exact ⟨w1, w2, by omega⟩
theorem lJ.popF (h : lJ μ w k dp x) (a : lNo w (-dp)) : lJ μ w k (dp - 1) x := by
  refine ⟨h.i, fun i z => ?_, h.fx, h.f0⟩
  obtain ⟨w1, w2, w3⟩ := h.ow i z
  have := a i
  exact ⟨w1, w2, by omega⟩
end M77

