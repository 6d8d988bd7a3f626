/-! THE REFERENCE, part 33: the pile of pass 1 -/
section M33
def tEv (μ : ab_m) (g dd : Int) : tE := ⟨fun k => μ 115 (9000 * g + k), fun k => μ 116 (9000 * g + k), fun d => μ 120 (16 * g + d), fun d => μ 119 (16 * g + d), fun x => ∃ i, 0 ≤ i ∧ i < μ 123 g ∧ μ 122 (3000 * g + i) = x, dd⟩
/-- the values that lie below -/
def hP : List aE → Int
  | [] => 0
  | e :: r => (if e.1 = 40 ∧ ¬ (e.2.1 = 206 ∨ e.2.1 = 207) then 1 else if e.1 = 28 then e.2.2.2 else if e.1 = 27 then 1 else 0) + hP r
/-- the ANDs and ORs that are still to come at w -/
def cF (F : Int → List Int) (w : Int) : Nat := ((F w).filter fun b => decide (b < 2)).length
def oN (n : Nat) : List Int := List.replicate n 1
/-- what is open at an entry -/
def sO (F : Int → List Int) (e : aE) : List Int := if e.1 = 4 ∨ e.1 = 5 then [7] else if e.1 = 6 then [4] else if e.1 = 7 then [5] else if e.1 = 21 then [3] else if e.1 = 40 then (if e.2.1 = 206 ∨ e.2.1 = 207 then [2] else []) ++ oN (cF F e.2.2.1) else if e.1 = 41 ∨ e.1 = 23 ∨ e.1 = 24 ∨ (e.1 = 28 ∧ e.2.1 ≠ 1) then oN (cF F e.2.2.1) else []
def sP (F : Int → List Int) : List aE → List Int
  | [] => []
  | e :: r => if e.1 = 22 then 6 :: (sP F r).tail else sO F e ++ sP F r
def pTl (p : List aE) : Prop := ∃ e ∈ p, e.1 = 22
theorem oN6 {n : Nat} {x : Int} (h : x ∈ oN n) : x = 1 := (List.mem_replicate.mp h).2
theorem sO6 {F : Int → List Int} {e : aE} : ¬ 6 ∈ sO F e := by
  unfold sO
  have a : ∀ n, ¬ (6 : Int) ∈ oN n := fun n h => absurd (oN6 h) (by decide)
  split
  · decide
  · split
    · decide
    · split
      · decide
      · split
        · decide
        · split
          · intro h
            rcases List.mem_append.mp h with h | h
            · split at h
              · exact absurd h (by decide)
              · cases h
            · exact a _ h
          · split
            · exact a _
            · intro h; cases h
theorem sP6 {F : Int → List Int} : ∀ {p : List aE}, 6 ∈ sP F p → pTl p
  | [], h => by cases h
  | e :: r, h => by
    unfold sP at h
    split at h
    · next q => exact ⟨e, List.mem_cons_self .., q⟩
    · rcases List.mem_append.mp h with h | h
      · exact absurd h sO6
      · obtain ⟨x, hx, q⟩ := sP6 h; exact ⟨x, List.mem_cons_of_mem _ hx, q⟩
theorem aPs.k : ∀ {p : List aE}, aPs p → ∀ e ∈ p, 1 ≤ e.1 ∧ e.1 ≤ 7
  | [], h, _, _ => h.elim
  | x :: r, h, e, he => by
    rcases List.mem_cons.mp he with q | q
    · rw [q]; rcases h with ⟨h, -⟩ | ⟨h, -⟩ <;> omega
    · rcases h with ⟨-, h⟩ | ⟨-, h⟩
      · rw [h] at q; cases q
      · exact h.k e q
theorem aPs.tl {p : List aE} (h : aPs p) : ¬ pTl p := fun ⟨e, he, q⟩ => by have := h.k e he; omega
theorem aPs.h0 : ∀ {p : List aE}, aPs p → hP p = 0
  | [], h => h.elim
  | x :: r, h => by
    have k := h.k x (List.mem_cons_self ..)
    unfold hP
    rw [if_neg (by omega), if_neg (by omega), if_neg (by omega)]
    rcases h with ⟨-, h⟩ | ⟨-, h⟩
    · rw [h]; rfl
    · rw [h.h0]; rfl
theorem sP_same {F F' : Int → List Int} : ∀ {p : List aE}, (∀ e ∈ p, aRl e → F' e.2.2.1 = F e.2.2.1) → sP F' p = sP F p
  | [], _ => rfl
  | e :: r, h => by
    have ih := sP_same (p := r) fun x hx => h x (List.mem_cons_of_mem _ hx)
    unfold sP
    rw [ih]
    by_cases q : aRl e
    · have : sO F' e = sO F e := by unfold sO cF; rw [h e (List.mem_cons_self ..) q]
      rw [this]
    · have : sO F' e = sO F e := by
        unfold sO
        unfold aRl at q
        rw [if_neg (show ¬ e.1 = 40 by omega), if_neg (show ¬ e.1 = 40 by omega), if_neg (show ¬ (e.1 = 41 ∨ e.1 = 23 ∨ e.1 = 24 ∨ (e.1 = 28 ∧ e.2.1 ≠ 1)) by omega), if_neg (show ¬ (e.1 = 41 ∨ e.1 = 23 ∨ e.1 = 24 ∨ (e.1 = 28 ∧ e.2.1 ≠ 1)) by omega)]
      rw [this]
/-- the kind of the lowest entry -/
def bK : List aE → Int
  | [] => 0
  | [e] => e.1
  | _ :: r => bK r
theorem bK_cons {e : aE} {p : List aE} (h : p ≠ []) : bK (e :: p) = bK p := by
  cases p with
  | nil => exact absurd rfl h
  | cons x r => rfl
/-- a step that stands: its kind and height, in the def at hand -/
def pj (E : tE) (Γ : tQ) (n k kd hv : Int) : Prop := 0 ≤ k ∧ k < n ∧ E.1 k = kd ∧ Γ.1 k = hv ∧ Γ.2.2.2.1 k = Γ.2.2.2.1 n
end M33
/-- what an entry knows -/
def eF (μ : ab_m) (E : tE) (Γ : tQ) (n : Int) (e : aE) (r : List aE) (i : Int) : Prop := (e.1 = 4 → pj E Γ n (μ 130 i) 15 1) ∧ (e.1 = 5 → pj E Γ n (μ 130 i) 16 0) ∧ (e.1 = 6 ∨ e.1 = 21 → pj E Γ n (μ 130 i) 18 0) ∧ (e.1 = 6 → pj E Γ n (μ 131 i) 19 1) ∧ (e.1 = 7 → pj E Γ n (μ 130 i) 21 0 ∧ ¬ 6 ∈ Γ.2.1 (μ 130 i)) ∧ (e.1 = 40 → e.2.1 = 206 ∨ e.2.1 = 207 → pj E Γ n (μ 132 i) 7 (hP r + 1) ∧ (pTl r → 6 ∈ Γ.2.1 (μ 132 i))) ∧ (e.1 = 41 → 18 ≤ μ 130 i ∧ μ 130 i ≤ 20) ∧ (e.1 = 24 ∨ e.1 = 25 ∨ e.1 = 27 → 0 ≤ μ 130 i ∧ μ 130 i < 8) ∧ (e.1 = 26 → 0 ≤ μ 130 i ∧ μ 130 i < 3002 ∧ tOk E Γ n (μ 130 i)) ∧ (e.1 = 28 → 0 ≤ μ 130 i ∧ μ 130 i < Γ.2.2.2.1 n ∧ μ 130 i < E.2.2.2.2.2 ∧ E.2.2.1 (μ 130 i) = μ 134 e.2.2.1) ∧ (e.1 = 29 → bK r = 3)
theorem eF.f4 {μ : ab_m} {E : tE} {Γ : tQ} {n : Int} {e : aE} {r : List aE} {i : Int} (h'' : eF μ E Γ n e r i) : e.1 = 4 → pj E Γ n (μ 130 i) 15 1 := h''.1
theorem eF.f5 {μ : ab_m} {E : tE} {Γ : tQ} {n : Int} {e : aE} {r : List aE} {i : Int} (h'' : eF μ E Γ n e r i) : e.1 = 5 → pj E Γ n (μ 130 i) 16 0 := h''.2.1
theorem eF.f6 {μ : ab_m} {E : tE} {Γ : tQ} {n : Int} {e : aE} {r : List aE} {i : Int} (h'' : eF μ E Γ n e r i) : e.1 = 6 ∨ e.1 = 21 → pj E Γ n (μ 130 i) 18 0 := h''.2.2.1
theorem eF.g6 {μ : ab_m} {E : tE} {Γ : tQ} {n : Int} {e : aE} {r : List aE} {i : Int} (h'' : eF μ E Γ n e r i) : e.1 = 6 → pj E Γ n (μ 131 i) 19 1 := h''.2.2.2.1
theorem eF.f7 {μ : ab_m} {E : tE} {Γ : tQ} {n : Int} {e : aE} {r : List aE} {i : Int} (h'' : eF μ E Γ n e r i) : e.1 = 7 → pj E Γ n (μ 130 i) 21 0 ∧ ¬ 6 ∈ Γ.2.1 (μ 130 i) := h''.2.2.2.2.1
theorem eF.f40 {μ : ab_m} {E : tE} {Γ : tQ} {n : Int} {e : aE} {r : List aE} {i : Int} (h'' : eF μ E Γ n e r i) : e.1 = 40 → e.2.1 = 206 ∨ e.2.1 = 207 → pj E Γ n (μ 132 i) 7 (hP r + 1) ∧ (pTl r → 6 ∈ Γ.2.1 (μ 132 i)) := h''.2.2.2.2.2.1
theorem eF.f41 {μ : ab_m} {E : tE} {Γ : tQ} {n : Int} {e : aE} {r : List aE} {i : Int} (h'' : eF μ E Γ n e r i) : e.1 = 41 → 18 ≤ μ 130 i ∧ μ 130 i ≤ 20 := h''.2.2.2.2.2.2.1
theorem eF.f24 {μ : ab_m} {E : tE} {Γ : tQ} {n : Int} {e : aE} {r : List aE} {i : Int} (h'' : eF μ E Γ n e r i) : e.1 = 24 ∨ e.1 = 25 ∨ e.1 = 27 → 0 ≤ μ 130 i ∧ μ 130 i < 8 := h''.2.2.2.2.2.2.2.1
theorem eF.f26 {μ : ab_m} {E : tE} {Γ : tQ} {n : Int} {e : aE} {r : List aE} {i : Int} (h'' : eF μ E Γ n e r i) : e.1 = 26 → 0 ≤ μ 130 i ∧ μ 130 i < 3002 ∧ tOk E Γ n (μ 130 i) := h''.2.2.2.2.2.2.2.2.1
theorem eF.f28 {μ : ab_m} {E : tE} {Γ : tQ} {n : Int} {e : aE} {r : List aE} {i : Int} (h'' : eF μ E Γ n e r i) : e.1 = 28 → 0 ≤ μ 130 i ∧ μ 130 i < Γ.2.2.2.1 n ∧ μ 130 i < E.2.2.2.2.2 ∧ E.2.2.1 (μ 130 i) = μ 134 e.2.2.1 := h''.2.2.2.2.2.2.2.2.2.1
theorem eF.f29 {μ : ab_m} {E : tE} {Γ : tQ} {n : Int} {e : aE} {r : List aE} {i : Int} (h'' : eF μ E Γ n e r i) : e.1 = 29 → bK r = 3 := h''.2.2.2.2.2.2.2.2.2.2
section M33
def eP (μ : ab_m) (E : tE) (Γ : tQ) (n : Int) : List aE → Prop
  | [] => True
  | e :: r => eF μ E Γ n e r r.length ∧ eP μ E Γ n r
end M33
/-- the chains of the open loops and of the def -/
def cE (μ : ab_m) (g : Int) (E : tE) (Γ : tQ) (n m q : Int) : Prop := (∀ i, 0 ≤ i → i < m → μ 129 i = 6 ∨ μ 129 i = 7 → ∃ L, mCh μ g L (μ 132 i) ∧ ∀ y ∈ L, pj E Γ n y 24 0 ∧ μ 130 i < y ∧ ∀ j, i < j → j < m → μ 129 j = 6 ∨ μ 129 j = 7 ∨ μ 129 j = 21 → y < μ 130 j) ∧ (∀ i, 0 ≤ i → i < m → i ≠ q → μ 129 i = 7 → ∃ L, mCh μ g L (μ 133 i) ∧ ∀ y ∈ L, pj E Γ n y 25 0 ∧ μ 130 i < y ∧ ∀ j, i < j → j < m → μ 129 j = 6 ∨ μ 129 j = 7 ∨ μ 129 j = 21 → y < μ 130 j) ∧ (∀ i, 0 ≤ i → i < m → μ 129 i = 3 → ∃ L, mCh μ g L (μ 132 i) ∧ ∀ y ∈ L, pj E Γ n y 26 1)
theorem cE.lo {μ : ab_m} {g : Int} {E : tE} {Γ : tQ} {n m q : Int} (h'' : cE μ g E Γ n m q) : ∀ i, 0 ≤ i → i < m → μ 129 i = 6 ∨ μ 129 i = 7 → ∃ L, mCh μ g L (μ 132 i) ∧ ∀ y ∈ L, pj E Γ n y 24 0 ∧ μ 130 i < y ∧ ∀ j, i < j → j < m → μ 129 j = 6 ∨ μ 129 j = 7 ∨ μ 129 j = 21 → y < μ 130 j := h''.1
theorem cE.nx {μ : ab_m} {g : Int} {E : tE} {Γ : tQ} {n m q : Int} (h'' : cE μ g E Γ n m q) : ∀ i, 0 ≤ i → i < m → i ≠ q → μ 129 i = 7 → ∃ L, mCh μ g L (μ 133 i) ∧ ∀ y ∈ L, pj E Γ n y 25 0 ∧ μ 130 i < y ∧ ∀ j, i < j → j < m → μ 129 j = 6 ∨ μ 129 j = 7 ∨ μ 129 j = 21 → y < μ 130 j := h''.2.1
theorem cE.df {μ : ab_m} {g : Int} {E : tE} {Γ : tQ} {n m q : Int} (h'' : cE μ g E Γ n m q) : ∀ i, 0 ≤ i → i < m → μ 129 i = 3 → ∃ L, mCh μ g L (μ 132 i) ∧ ∀ y ∈ L, pj E Γ n y 26 1 := h''.2.2
section M33
/-- k is pending at entry i -/
def pE (μ : ab_m) (g q i k : Int) : Prop := ((μ 129 i = 4 ∨ μ 129 i = 5) ∧ k = μ 130 i) ∨ (μ 129 i = 6 ∧ k = μ 131 i) ∨ (μ 129 i = 40 ∧ (μ 130 i = 206 ∨ μ 130 i = 207) ∧ k = μ 132 i) ∨ ((μ 129 i = 6 ∨ μ 129 i = 7 ∨ μ 129 i = 3) ∧ ∃ L, mCh μ g L (μ 132 i) ∧ k ∈ L) ∨ (i ≠ q ∧ μ 129 i = 7 ∧ ∃ L, mCh μ g L (μ 133 i) ∧ k ∈ L)
def pN (μ : ab_m) (g q m k : Int) : Prop := ∃ i, 0 ≤ i ∧ i < m ∧ pE μ g q i k
/-- the DO whose test has begun -/
def qP : List aE → Int
  | [] => -1
  | e :: r => if e.1 = 22 then r.length - 1 else qP r
theorem mCh.uniq {μ : ab_m} {g : Int} : ∀ {L L' : List Int} {x : Int}, mCh μ g L x → mCh μ g L' x → L = L'
  | [], [], _, _, _ => rfl
  | [], y :: r, x, a, b => by have a : x = -1 := a; have := b.1; have := b.2.1; omega
  | y :: r, [], x, a, b => by have b : x = -1 := b; have := a.1; have := a.2.1; omega
  | y :: r, y' :: r', x, a, b => by
    have e : y = y' := by rw [← a.1, ← b.1]
    subst e
    rw [a.2.2.2.2.uniq b.2.2.2.2]
end M33
/-- pass 1 so far: the text and the pile p; n steps, hh values lie, ss is open, dn defs are read, those of pd aren't told -/
def x1 (μ : ab_m) (g : Int) (Γ : tQ) (dd : Int) (p : List aE) (n hh : Int) (ss : List Int) (dn : Int) (pd : Int → Prop) (q : Int) : Prop := (0 ≤ n) ∧ (tF (tEv μ g dd) Γ n pd) ∧ (Γ.1 n = hh) ∧ (Γ.2.1 n = ss) ∧ (Γ.2.2.2.1 n = dn) ∧ (tB Γ) ∧ (∀ k, 0 ≤ k → k < n → μ 115 (9000 * g + k) ≠ 30) ∧ (aP μ p) ∧ (eP μ (tEv μ g dd) Γ n p) ∧ (cE μ g (tEv μ g dd) Γ n p.length q) ∧ (∀ x, 0 ≤ x → x < dd → 0 ≤ μ 118 (16 * g + x) ∧ μ 118 (16 * g + x) ≤ n ∧ Γ.2.2.2.1 (μ 118 (16 * g + x)) = x ∧ Γ.1 (μ 118 (16 * g + x)) = 0 ∧ Γ.2.1 (μ 118 (16 * g + x)) = [] ∧ Γ.2.2.2.2 (μ 118 (16 * g + x)) = μ 118 (16 * g + x) ∧ 0 ≤ μ 120 (16 * g + x) ∧ μ 120 (16 * g + x) ≤ 6 ∧ 0 ≤ μ 119 (16 * g + x) ∧ μ 119 (16 * g + x) + μ 120 (16 * g + x) ≤ 3002) ∧ (dd = dn ∨ dd = dn + 1)
theorem x1.n0 {μ : ab_m} {g : Int} {Γ : tQ} {dd : Int} {p : List aE} {n hh : Int} {ss : List Int} {dn : Int} {pd : Int → Prop} {q : Int} (h'' : x1 μ g Γ dd p n hh ss dn pd q) : 0 ≤ n := h''.1
theorem x1.flat {μ : ab_m} {g : Int} {Γ : tQ} {dd : Int} {p : List aE} {n hh : Int} {ss : List Int} {dn : Int} {pd : Int → Prop} {q : Int} (h'' : x1 μ g Γ dd p n hh ss dn pd q) : tF (tEv μ g dd) Γ n pd := h''.2.1
theorem x1.ch {μ : ab_m} {g : Int} {Γ : tQ} {dd : Int} {p : List aE} {n hh : Int} {ss : List Int} {dn : Int} {pd : Int → Prop} {q : Int} (h'' : x1 μ g Γ dd p n hh ss dn pd q) : Γ.1 n = hh := h''.2.2.1
theorem x1.cs {μ : ab_m} {g : Int} {Γ : tQ} {dd : Int} {p : List aE} {n hh : Int} {ss : List Int} {dn : Int} {pd : Int → Prop} {q : Int} (h'' : x1 μ g Γ dd p n hh ss dn pd q) : Γ.2.1 n = ss := h''.2.2.2.1
theorem x1.cr {μ : ab_m} {g : Int} {Γ : tQ} {dd : Int} {p : List aE} {n hh : Int} {ss : List Int} {dn : Int} {pd : Int → Prop} {q : Int} (h'' : x1 μ g Γ dd p n hh ss dn pd q) : Γ.2.2.2.1 n = dn := h''.2.2.2.2.1
theorem x1.base {μ : ab_m} {g : Int} {Γ : tQ} {dd : Int} {p : List aE} {n hh : Int} {ss : List Int} {dn : Int} {pd : Int → Prop} {q : Int} (h'' : x1 μ g Γ dd p n hh ss dn pd q) : tB Γ := h''.2.2.2.2.2.1
theorem x1.ns {μ : ab_m} {g : Int} {Γ : tQ} {dd : Int} {p : List aE} {n hh : Int} {ss : List Int} {dn : Int} {pd : Int → Prop} {q : Int} (h'' : x1 μ g Γ dd p n hh ss dn pd q) : ∀ k, 0 ≤ k → k < n → μ 115 (9000 * g + k) ≠ 30 := h''.2.2.2.2.2.2.1
theorem x1.ap {μ : ab_m} {g : Int} {Γ : tQ} {dd : Int} {p : List aE} {n hh : Int} {ss : List Int} {dn : Int} {pd : Int → Prop} {q : Int} (h'' : x1 μ g Γ dd p n hh ss dn pd q) : aP μ p := h''.2.2.2.2.2.2.2.1
theorem x1.ent {μ : ab_m} {g : Int} {Γ : tQ} {dd : Int} {p : List aE} {n hh : Int} {ss : List Int} {dn : Int} {pd : Int → Prop} {q : Int} (h'' : x1 μ g Γ dd p n hh ss dn pd q) : eP μ (tEv μ g dd) Γ n p := h''.2.2.2.2.2.2.2.2.1
theorem x1.chn {μ : ab_m} {g : Int} {Γ : tQ} {dd : Int} {p : List aE} {n hh : Int} {ss : List Int} {dn : Int} {pd : Int → Prop} {q : Int} (h'' : x1 μ g Γ dd p n hh ss dn pd q) : cE μ g (tEv μ g dd) Γ n p.length q := h''.2.2.2.2.2.2.2.2.2.1
theorem x1.defs {μ : ab_m} {g : Int} {Γ : tQ} {dd : Int} {p : List aE} {n hh : Int} {ss : List Int} {dn : Int} {pd : Int → Prop} {q : Int} (h'' : x1 μ g Γ dd p n hh ss dn pd q) : ∀ x, 0 ≤ x → x < dd → 0 ≤ μ 118 (16 * g + x) ∧ μ 118 (16 * g + x) ≤ n ∧ Γ.2.2.2.1 (μ 118 (16 * g + x)) = x ∧ Γ.1 (μ 118 (16 * g + x)) = 0 ∧ Γ.2.1 (μ 118 (16 * g + x)) = [] ∧ Γ.2.2.2.2 (μ 118 (16 * g + x)) = μ 118 (16 * g + x) ∧ 0 ≤ μ 120 (16 * g + x) ∧ μ 120 (16 * g + x) ≤ 6 ∧ 0 ≤ μ 119 (16 * g + x) ∧ μ 119 (16 * g + x) + μ 120 (16 * g + x) ≤ 3002 := h''.2.2.2.2.2.2.2.2.2.2.1
theorem x1.ddn {μ : ab_m} {g : Int} {Γ : tQ} {dd : Int} {p : List aE} {n hh : Int} {ss : List Int} {dn : Int} {pd : Int → Prop} {q : Int} (h'' : x1 μ g Γ dd p n hh ss dn pd q) : dd = dn ∨ dd = dn + 1 := h''.2.2.2.2.2.2.2.2.2.2.2
section M33
theorem x1.tr {μ : ab_m} {g : Int} {Γ : tQ} {dd : Int} {p : List aE} {n hh : Int} {ss : List Int} {dn : Int} {pd : Int → Prop} {q : Int} (h : x1 μ g Γ dd p n hh ss dn pd q) {k : Int} (h0 : 0 ≤ k) (hk : k ≤ n) : tR Γ k := by
  have := h.flat.nr h.base h.ns k.toNat (by omega)
  rwa [Int.toNat_of_nonneg h0] at this
end M33
/-- which cells the steps so far, the pile and the defs are read from -/
def xS (μ μ' : ab_m) (g : Int) (n m : Int) : Prop := (∀ j, 0 ≤ j → j < n → μ' 115 (9000 * g + j) = μ 115 (9000 * g + j)) ∧ (∀ j, 0 ≤ j → j < n → μ' 116 (9000 * g + j) = μ 116 (9000 * g + j)) ∧ (∀ c j, c = 118 ∨ c = 119 ∨ c = 120 ∨ c = 122 ∨ c = 123 ∨ c = 134 → μ' c j = μ c j) ∧ (∀ c j, 129 ≤ c → c ≤ 133 → 0 ≤ j → j < m → μ' c j = μ c j)
theorem xS.S {μ μ' : ab_m} {g : Int} {n m : Int} (h'' : xS μ μ' g n m) : ∀ j, 0 ≤ j → j < n → μ' 115 (9000 * g + j) = μ 115 (9000 * g + j) := h''.1
theorem xS.T {μ μ' : ab_m} {g : Int} {n m : Int} (h'' : xS μ μ' g n m) : ∀ j, 0 ≤ j → j < n → μ' 116 (9000 * g + j) = μ 116 (9000 * g + j) := h''.2.1
theorem xS.d {μ μ' : ab_m} {g : Int} {n m : Int} (h'' : xS μ μ' g n m) : ∀ c j, c = 118 ∨ c = 119 ∨ c = 120 ∨ c = 122 ∨ c = 123 ∨ c = 134 → μ' c j = μ c j := h''.2.2.1
theorem xS.p {μ μ' : ab_m} {g : Int} {n m : Int} (h'' : xS μ μ' g n m) : ∀ c j, 129 ≤ c → c ≤ 133 → 0 ≤ j → j < m → μ' c j = μ c j := h''.2.2.2
section M33
theorem tEv_D {μ μ' : ab_m} {g dd : Int} (h : ∀ c j, c = 118 ∨ c = 119 ∨ c = 120 ∨ c = 122 ∨ c = 123 ∨ c = 134 → μ' c j = μ c j) {x : Int} (a : (tEv μ g dd).2.2.2.2.1 x) : (tEv μ' g dd).2.2.2.2.1 x := by
  obtain ⟨i, i0, i1, i2⟩ := a
  exact ⟨i, i0, by rw [h 123 _ (by omega)]; exact i1, by rw [h 122 _ (by omega)]; exact i2⟩
theorem xS.x {μ μ' : ab_m} {g n m dd : Int} {Γ Γ' : tQ} (h : xS μ μ' g n m) (hG : ∀ j, 0 ≤ j → j ≤ n → tQe Γ Γ' j) : tX (tEv μ g dd) (tEv μ' g dd) Γ Γ' n :=
  ⟨h.S, fun j a b _ => h.T j a b, hG, Int.le_refl _, fun x _ _ => ⟨h.d 120 _ (by omega), h.d 119 _ (by omega)⟩, fun x a => tEv_D h.d a⟩
theorem pj.same {E E' : tE} {Γ Γ' : tQ} {n n' k kd hv : Int} (h : pj E Γ n k kd hv) (hn : n ≤ n') (hS : ∀ j, 0 ≤ j → j < n → E'.1 j = E.1 j) (hG : ∀ j, 0 ≤ j → j ≤ n → tQe Γ Γ' j) (hr : Γ'.2.2.2.1 n' = Γ.2.2.2.1 n) : pj E' Γ' n' k kd hv := by
  obtain ⟨a, b, c, d, e⟩ := h
  obtain ⟨g1, g2, g3, g4, g5⟩ := hG k a (by omega)
  exact ⟨a, by omega, by rw [hS k a b]; exact c, by rw [g1]; exact d, by rw [g4, hr]; exact e⟩
theorem tOk.up {E : tE} {Γ : tQ} {n n' x : Int} (h : tOk E Γ n x) (hn : n ≤ n') (hr : Γ.2.2.2.1 n' = Γ.2.2.2.1 n) : tOk E Γ n' x := by
  rcases h with h | h | ⟨j, a, b, c, d, e⟩
  · exact Or.inl h
  · exact Or.inr (Or.inl (by rw [hr]; exact h))
  · exact Or.inr (Or.inr ⟨j, a, by omega, c, by rw [hr]; exact d, e⟩)
theorem eF_n {μ : ab_m} {E : tE} {Γ : tQ} {n i : Int} {e : aE} {r : List aE} (h : e.1 = 1 ∨ e.1 = 2 ∨ e.1 = 3 ∨ e.1 = 20 ∨ e.1 = 22 ∨ e.1 = 23 ∨ e.1 = 30) : eF μ E Γ n e r i :=
  ⟨fun q => by omega, fun q => by omega, fun q => by omega, fun q => by omega, fun q => by omega, fun q => by omega, fun q => by omega, fun q => by omega, fun q => by omega, fun q => by omega, fun q => by omega⟩
theorem eF_4 {μ : ab_m} {E : tE} {Γ : tQ} {n i : Int} {e : aE} {r : List aE} (he : e.1 = 4) (h : pj E Γ n (μ 130 i) 15 1) : eF μ E Γ n e r i := ⟨fun _ => h, fun q => by omega, fun q => by omega, fun q => by omega, fun q => by omega, fun q => by omega, fun q => by omega, fun q => by omega, fun q => by omega, fun q => by omega, fun q => by omega⟩
theorem eF_5 {μ : ab_m} {E : tE} {Γ : tQ} {n i : Int} {e : aE} {r : List aE} (he : e.1 = 5) (h : pj E Γ n (μ 130 i) 16 0) : eF μ E Γ n e r i := ⟨fun q => by omega, fun _ => h, fun q => by omega, fun q => by omega, fun q => by omega, fun q => by omega, fun q => by omega, fun q => by omega, fun q => by omega, fun q => by omega, fun q => by omega⟩
theorem eF_6 {μ : ab_m} {E : tE} {Γ : tQ} {n i : Int} {e : aE} {r : List aE} (he : e.1 = 6) (h : pj E Γ n (μ 130 i) 18 0) (h2 : pj E Γ n (μ 131 i) 19 1) : eF μ E Γ n e r i := ⟨fun q => by omega, fun q => by omega, fun _ => h, fun _ => h2, fun q => by omega, fun q => by omega, fun q => by omega, fun q => by omega, fun q => by omega, fun q => by omega, fun q => by omega⟩
theorem eF_7 {μ : ab_m} {E : tE} {Γ : tQ} {n i : Int} {e : aE} {r : List aE} (he : e.1 = 7) (h : pj E Γ n (μ 130 i) 21 0 ∧ ¬ 6 ∈ Γ.2.1 (μ 130 i)) : eF μ E Γ n e r i := ⟨fun q => by omega, fun q => by omega, fun q => by omega, fun q => by omega, fun _ => h, fun q => by omega, fun q => by omega, fun q => by omega, fun q => by omega, fun q => by omega, fun q => by omega⟩
theorem eF_21 {μ : ab_m} {E : tE} {Γ : tQ} {n i : Int} {e : aE} {r : List aE} (he : e.1 = 21) (h : pj E Γ n (μ 130 i) 18 0) : eF μ E Γ n e r i := ⟨fun q => by omega, fun q => by omega, fun _ => h, fun q => by omega, fun q => by omega, fun q => by omega, fun q => by omega, fun q => by omega, fun q => by omega, fun q => by omega, fun q => by omega⟩
theorem eF_24 {μ : ab_m} {E : tE} {Γ : tQ} {n i : Int} {e : aE} {r : List aE} (he : e.1 = 24) (h : 0 ≤ μ 130 i ∧ μ 130 i < 8) : eF μ E Γ n e r i := ⟨fun q => by omega, fun q => by omega, fun q => by omega, fun q => by omega, fun q => by omega, fun q => by omega, fun q => by omega, fun _ => h, fun q => by omega, fun q => by omega, fun q => by omega⟩
theorem eF_25 {μ : ab_m} {E : tE} {Γ : tQ} {n i : Int} {e : aE} {r : List aE} (he : e.1 = 25) (h : 0 ≤ μ 130 i ∧ μ 130 i < 8) : eF μ E Γ n e r i := ⟨fun q => by omega, fun q => by omega, fun q => by omega, fun q => by omega, fun q => by omega, fun q => by omega, fun q => by omega, fun _ => h, fun q => by omega, fun q => by omega, fun q => by omega⟩
theorem eF_26 {μ : ab_m} {E : tE} {Γ : tQ} {n i : Int} {e : aE} {r : List aE} (he : e.1 = 26) (h : 0 ≤ μ 130 i ∧ μ 130 i < 3002 ∧ tOk E Γ n (μ 130 i)) : eF μ E Γ n e r i := ⟨fun q => by omega, fun q => by omega, fun q => by omega, fun q => by omega, fun q => by omega, fun q => by omega, fun q => by omega, fun q => by omega, fun _ => h, fun q => by omega, fun q => by omega⟩
theorem eF_27 {μ : ab_m} {E : tE} {Γ : tQ} {n i : Int} {e : aE} {r : List aE} (he : e.1 = 27) (h : 0 ≤ μ 130 i ∧ μ 130 i < 8) : eF μ E Γ n e r i := ⟨fun q => by omega, fun q => by omega, fun q => by omega, fun q => by omega, fun q => by omega, fun q => by omega, fun q => by omega, fun _ => h, fun q => by omega, fun q => by omega, fun q => by omega⟩
theorem eF_28 {μ : ab_m} {E : tE} {Γ : tQ} {n i : Int} {e : aE} {r : List aE} (he : e.1 = 28) (h : 0 ≤ μ 130 i ∧ μ 130 i < Γ.2.2.2.1 n ∧ μ 130 i < E.2.2.2.2.2 ∧ E.2.2.1 (μ 130 i) = μ 134 e.2.2.1) : eF μ E Γ n e r i := ⟨fun q => by omega, fun q => by omega, fun q => by omega, fun q => by omega, fun q => by omega, fun q => by omega, fun q => by omega, fun q => by omega, fun q => by omega, fun _ => h, fun q => by omega⟩
theorem eF_29 {μ : ab_m} {E : tE} {Γ : tQ} {n i : Int} {e : aE} {r : List aE} (he : e.1 = 29) (h : bK r = 3) : eF μ E Γ n e r i := ⟨fun q => by omega, fun q => by omega, fun q => by omega, fun q => by omega, fun q => by omega, fun q => by omega, fun q => by omega, fun q => by omega, fun q => by omega, fun q => by omega, fun _ => h⟩
theorem eF_40 {μ : ab_m} {E : tE} {Γ : tQ} {n i : Int} {e : aE} {r : List aE} (he : e.1 = 40) (h : e.2.1 = 206 ∨ e.2.1 = 207 → pj E Γ n (μ 132 i) 7 (hP r + 1) ∧ (pTl r → 6 ∈ Γ.2.1 (μ 132 i))) : eF μ E Γ n e r i := ⟨fun q => by omega, fun q => by omega, fun q => by omega, fun q => by omega, fun q => by omega, fun _ q => h q, fun q => by omega, fun q => by omega, fun q => by omega, fun q => by omega, fun q => by omega⟩
theorem eF_41 {μ : ab_m} {E : tE} {Γ : tQ} {n i : Int} {e : aE} {r : List aE} (he : e.1 = 41) (h : 18 ≤ μ 130 i ∧ μ 130 i ≤ 20) : eF μ E Γ n e r i := ⟨fun q => by omega, fun q => by omega, fun q => by omega, fun q => by omega, fun q => by omega, fun q => by omega, fun _ => h, fun q => by omega, fun q => by omega, fun q => by omega, fun q => by omega⟩
theorem eF.same {μ μ' : ab_m} {E E' : tE} {Γ Γ' : tQ} {n n' i : Int} {e : aE} {r : List aE} (h : eF μ E Γ n e r i) (hx : tX E E' Γ Γ' n) (hn0 : 0 ≤ n) (hn : n ≤ n') (hr : Γ'.2.2.2.1 n' = Γ.2.2.2.1 n) (r0 : 0 ≤ Γ.2.2.2.1 n) (p1 : μ' 130 i = μ 130 i) (p2 : μ' 131 i = μ 131 i) (p3 : e.1 = 40 → μ' 132 i = μ 132 i) (p4 : e.1 = 28 → μ' 134 e.2.2.1 = μ 134 e.2.2.1) : eF μ' E' Γ' n' e r i := by
  have J : ∀ {k kd hv : Int}, pj E Γ n k kd hv → pj E' Γ' n' k kd hv := fun q => q.same hn hx.S hx.G hr
  have sk : ∀ k, 0 ≤ k → k < n → Γ'.2.1 k = Γ.2.1 k := fun k a b => (hx.G k a (by omega)).2.1
  refine ⟨fun q => ?_, fun q => ?_, fun q => ?_, fun q => ?_, fun q => ?_, fun q q2 => ?_, fun q => ?_, fun q => ?_, fun q => ?_, fun q => ?_, h.f29⟩
  · rw [p1]; exact J (h.f4 q)
  · rw [p1]; exact J (h.f5 q)
  · rw [p1]; exact J (h.f6 q)
  · rw [p2]; exact J (h.g6 q)
  · have a := h.f7 q
    rw [p1, sk _ a.1.1 a.1.2.1]; exact ⟨J a.1, a.2⟩
  · have a := h.f40 q q2
    rw [p3 q, sk _ a.1.1 a.1.2.1]; exact ⟨J a.1, a.2⟩
  · rw [p1]; exact h.f41 q
  · rw [p1]; exact h.f24 q
  · have a := h.f26 q
    rw [p1]
    have gr := (hx.G n hn0 (Int.le_refl _)).2.2.2.1
    exact ⟨a.1, a.2.1, (hx.ok ⟨hn0, Int.le_refl _⟩ r0 a.2.2).up hn (by rw [hr, gr])⟩
  · have a := h.f28 q
    rw [p1, p4 q, hr]
    have := hx.d
    exact ⟨a.1, a.2.1, by omega, by rw [(hx.lm _ a.1 a.2.2.1).1]; exact a.2.2.2⟩
theorem eP.same {μ μ' : ab_m} {E E' : tE} {Γ Γ' : tQ} {n n' : Int} (hx : tX E E' Γ Γ' n) (hn0 : 0 ≤ n) (hn : n ≤ n') (hr : Γ'.2.2.2.1 n' = Γ.2.2.2.1 n) (r0 : 0 ≤ Γ.2.2.2.1 n) : ∀ {p : List aE}, eP μ E Γ n p → (∀ i, 0 ≤ i → i < (p.length : Int) → μ' 130 i = μ 130 i ∧ μ' 131 i = μ 131 i ∧ (μ 129 i = 40 → μ' 132 i = μ 132 i)) → (∀ w, μ' 134 w = μ 134 w) → aP μ p → eP μ' E' Γ' n' p
  | [], _, _, _, _ => trivial
  | e :: r, h, hp, h4, ha => by
    have l : ((e :: r).length : Int) = r.length + 1 := by simp
    have q := hp r.length (by omega) (by omega)
    exact ⟨h.1.same hx hn0 hn hr r0 q.1 q.2.1 (fun k => q.2.2 (by rw [ha.1.1]; exact k)) (fun _ => h4 _), eP.same hx hn0 hn hr r0 h.2 (fun i a b => hp i a (by omega)) h4 ha.2⟩
end M33

/-! THE REFERENCE, part 34: lower's small methods -/
section M34
variable {X : jm_X} {d : Nat} {P : Int → ab_m → Prop}
/-- it was too much: the mark alone -/
def mMu (μ μ' : ab_m) : Prop := mF1 74 μ μ' ∧ μ' 109 74 = 1
theorem c_mM_newRegister {μ : ab_m} (hr : 0 ≤ μ 109 71 ∧ μ 109 71 ≤ 300) (hP : μ 109 71 < 300 → ∀ μ', mF1 71 μ μ' → μ' 109 71 = μ 109 71 + 1 → P (μ 109 71) μ') (hM : ∀ μ', mMu μ μ' → P 0 μ') : jj_mM_newRegister X d 0 (ab_la [109]) [] μ P := by
  refine bk_mM_newRegister_0 rfl ⟨fun h μ1 e1 => ?_, fun h μ3 e3 => hM μ3 ⟨by rw [e3]; exact mF1.mu, by rw [e3, ab_mud, if_pos ⟨rfl, rfl⟩]⟩⟩
  have g : μ1 109 71 = μ 109 71 + 1 := by rw [e1, ab_mud, if_pos ⟨rfl, rfl⟩]; exact ab_wi (by omega) (by omega)
  rw [g, show ab_w (μ 109 71 + 1 - 1) = μ 109 71 by rw [ab_wi (by omega) (by omega)]; omega]
  exact hP (by omega) μ1 (by rw [e1]; exact mF1.mu) g
/-- one more instruction -/
def mEm (μ μ' : ab_m) (k t x ix y iy : Int) : Prop := (∀ c j, ¬ (145 ≤ c ∧ c ≤ 150 ∧ j = μ 109 69) → ¬ (c = 109 ∧ j = 69) → μ' c j = μ c j) ∧ μ' 109 69 = μ 109 69 + 1 ∧ μ' 145 (μ 109 69) = k ∧ μ' 146 (μ 109 69) = t ∧ μ' 147 (μ 109 69) = x ∧ μ' 148 (μ 109 69) = y ∧ μ' 149 (μ 109 69) = ix % 2 ∧ μ' 150 (μ 109 69) = iy % 2
theorem c_mM_emit {μ : ab_m} {k t x ix y iy : Int} (hn : 0 ≤ μ 109 69 ∧ μ 109 69 ≤ 400) (hP : μ 109 69 < 400 → ∀ μ', mEm μ μ' k t x ix y iy → P (μ 109 69) μ') (hM : ∀ μ', mMu μ μ' → P 0 μ') : jj_mM_emit X d 0 (ab_la [109, k, t, x, ix, y, iy]) [] μ P := by
  refine bk_mM_emit_0 rfl ⟨fun h => ?_, fun h μ3 e3 => hM μ3 ⟨by rw [e3]; exact mF1.mu, by rw [e3, ab_mud, if_pos ⟨rfl, rfl⟩]⟩⟩
  have hP := hP (by omega)
  have hq : μ 109 69 = μ 109 69 := rfl
  generalize hg : μ 109 69 = p at hn h hP
  have kk : (0 : Int) ≤ p ∧ p < 1000 := by omega
  refine ⟨kk, fun μ1 e1 => ?_⟩
  have g1 : μ1 109 69 = p := by rw [e1, mu_ne (by decide)]; exact hg
  rw [g1]
  refine ⟨kk, fun μ2 e2 => ?_⟩
  have g2 : μ2 109 69 = p := by rw [e2, mu_ne (by decide)]; exact g1
  rw [g2]
  refine ⟨kk, fun μ3 e3 => ?_⟩
  have g3 : μ3 109 69 = p := by rw [e3, mu_ne (by decide)]; exact g2
  rw [g3]
  refine ⟨kk, fun μ4 e4 => ?_⟩
  have g4 : μ4 109 69 = p := by rw [e4, mu_ne (by decide)]; exact g3
  rw [g4]
  refine ⟨kk, fun μ5 e5 => ?_⟩
  have g5 : μ5 109 69 = p := by rw [e5, mu_ne (by decide)]; exact g4
  rw [g5]
  refine ⟨kk, fun μ6 e6 μ7 e7 => ?_⟩
  have g6 : μ6 109 69 = p := by rw [e6, mu_ne (by decide)]; exact g5
  have g7 : μ7 109 69 = p + 1 := by rw [e7, ab_mud, if_pos ⟨rfl, rfl⟩, g6]; exact ab_wi (by omega) (by omega)
  rw [g7, show ab_w (p + 1 - 1) = p by rw [ab_wi (by omega) (by omega)]; omega]
  refine hP μ7 ?_
  unfold mEm
  rw [hg]
  refine ⟨fun c j a b => ?_, g7, ?_, ?_, ?_, ?_, ?_, ?_⟩
  · rw [e7, ab_mud, if_neg b, e6, ab_mud, if_neg (by omega), e5, ab_mud, if_neg (by omega), e4, ab_mud, if_neg (by omega), e3, ab_mud, if_neg (by omega), e2, ab_mud, if_neg (by omega), e1, ab_mud, if_neg (by omega)]
  · rw [e7, mu_ne (by decide), e6, mu_ne (by decide), e5, mu_ne (by decide), e4, mu_ne (by decide), e3, mu_ne (by decide), e2, mu_ne (by decide), e1, ab_mud, if_pos ⟨rfl, rfl⟩]; rfl
  · rw [e7, mu_ne (by decide), e6, mu_ne (by decide), e5, mu_ne (by decide), e4, mu_ne (by decide), e3, mu_ne (by decide), e2, ab_mud, if_pos ⟨rfl, rfl⟩]; rfl
  · rw [e7, mu_ne (by decide), e6, mu_ne (by decide), e5, mu_ne (by decide), e4, mu_ne (by decide), e3, ab_mud, if_pos ⟨rfl, rfl⟩]; rfl
  · rw [e7, mu_ne (by decide), e6, mu_ne (by decide), e5, ab_mud, if_pos ⟨rfl, rfl⟩]; rfl
  · rw [e7, mu_ne (by decide), e6, mu_ne (by decide), e5, mu_ne (by decide), e4, ab_mud, if_pos ⟨rfl, rfl⟩]; rfl
  · rw [e7, mu_ne (by decide), e6, ab_mud, if_pos ⟨rfl, rfl⟩]; rfl
/-- one more operand -/
def mOp (μ μ' : ab_m) (v c : Int) : Prop := (∀ a j, ¬ ((a = 152 ∨ a = 153) ∧ j = μ 109 78) → ¬ (a = 109 ∧ j = 78) → μ' a j = μ a j) ∧ μ' 109 78 = μ 109 78 + 1 ∧ μ' 153 (μ 109 78) = v ∧ μ' 152 (μ 109 78) = c % 2
theorem c_mM_giveOperand {μ : ab_m} {v c : Int} (hn : 0 ≤ μ 109 78 ∧ μ 109 78 < 9000) (hP : ∀ μ', mOp μ μ' v c → P 0 μ') : jj_mM_giveOperand X d 0 (ab_la [109, v, c]) [] μ P := by
  refine bk_mM_giveOperand_0 rfl ?_
  generalize hg : μ 109 78 = p at hn
  refine ⟨hn, fun μ1 e1 => ?_⟩
  have g1 : μ1 109 78 = p := by rw [e1, mu_ne (by decide)]; exact hg
  rw [g1]
  refine ⟨hn, fun μ2 e2 μ3 e3 => hP μ3 ?_⟩
  have g2 : μ2 109 78 = p := by rw [e2, mu_ne (by decide)]; exact g1
  unfold mOp
  rw [hg]
  refine ⟨fun a j x y => ?_, ?_, ?_, ?_⟩
  · rw [e3, ab_mud, if_neg y, e2, ab_mud, if_neg (by omega), e1, ab_mud, if_neg (by omega)]
  · rw [e3, ab_mud, if_pos ⟨rfl, rfl⟩, g2]; exact ab_wi (by omega) (by omega)
  · rw [e3, mu_ne (by decide), e2, mu_ne (by decide), e1, ab_mud, if_pos ⟨rfl, rfl⟩]; rfl
  · rw [e3, mu_ne (by decide), e2, ab_mud, if_pos ⟨rfl, rfl⟩]; rfl
/-- one more lies open -/
def mOu (μ μ' : ab_m) (k x y : Int) : Prop := (∀ c j, ¬ (154 ≤ c ∧ c ≤ 157 ∧ j = μ 109 83) → ¬ (c = 109 ∧ j = 83) → μ' c j = μ c j) ∧ μ' 109 83 = μ 109 83 + 1 ∧ μ' 154 (μ 109 83) = k ∧ μ' 155 (μ 109 83) = x ∧ μ' 156 (μ 109 83) = y ∧ μ' 157 (μ 109 83) = -1
theorem c_mM_openUp {μ : ab_m} {k x y : Int} (hn : 0 ≤ μ 109 83 ∧ μ 109 83 < 3010) (hP : ∀ μ', mOu μ μ' k x y → P 0 μ') : jj_mM_openUp X d 0 (ab_la [109, k, x, y]) [] μ P := by
  refine bk_mM_openUp_0 rfl ?_
  generalize hg : μ 109 83 = p at hn
  refine ⟨hn, fun μ1 e1 => ?_⟩
  have g1 : μ1 109 83 = p := by rw [e1, mu_ne (by decide)]; exact hg
  rw [g1]
  refine ⟨hn, fun μ2 e2 => ?_⟩
  have g2 : μ2 109 83 = p := by rw [e2, mu_ne (by decide)]; exact g1
  rw [g2]
  refine ⟨hn, fun μ3 e3 => ?_⟩
  have g3 : μ3 109 83 = p := by rw [e3, mu_ne (by decide)]; exact g2
  rw [g3]
  refine ⟨hn, fun μ4 e4 μ5 e5 => hP μ5 ?_⟩
  have g4 : μ4 109 83 = p := by rw [e4, mu_ne (by decide)]; exact g3
  unfold mOu
  rw [hg]
  refine ⟨fun c j a b => ?_, ?_, ?_, ?_, ?_, ?_⟩
  · rw [e5, ab_mud, if_neg b, e4, ab_mud, if_neg (by omega), e3, ab_mud, if_neg (by omega), e2, ab_mud, if_neg (by omega), e1, ab_mud, if_neg (by omega)]
  · rw [e5, ab_mud, if_pos ⟨rfl, rfl⟩, g4]; exact ab_wi (by omega) (by omega)
  · rw [e5, mu_ne (by decide), e4, mu_ne (by decide), e3, mu_ne (by decide), e2, mu_ne (by decide), e1, ab_mud, if_pos ⟨rfl, rfl⟩]; rfl
  · rw [e5, mu_ne (by decide), e4, mu_ne (by decide), e3, mu_ne (by decide), e2, ab_mud, if_pos ⟨rfl, rfl⟩]; rfl
  · rw [e5, mu_ne (by decide), e4, mu_ne (by decide), e3, ab_mud, if_pos ⟨rfl, rfl⟩]; rfl
  · rw [e5, mu_ne (by decide), e4, ab_mud, if_pos ⟨rfl, rfl⟩]
end M34

/-! THE REFERENCE, part 35: lower's chains -/
section M35
variable {X : jm_X} {d : Nat} {P : Int → ab_m → Prop}
/-- the chain of instructions that begins at x: each leaps to the one before, the first to -1 -/
def mDc (μ : ab_m) : List Int → Int → Prop
  | [], x => x = -1
  | y :: r, x => x = y ∧ 0 ≤ y ∧ y < 400 ∧ (∀ z ∈ r, z < y) ∧ mDc μ r (μ 146 y)
theorem mDc.same {μ μ' : ab_m} : ∀ {L : List Int} {x : Int}, mDc μ L x → (∀ y ∈ L, μ' 146 y = μ 146 y) → mDc μ' L x
  | [], _, a, _ => a
  | y :: r, x, a, e => ⟨a.1, a.2.1, a.2.2.1, a.2.2.2.1, by
      rw [e y (List.mem_cons_self ..)]
      exact a.2.2.2.2.same fun z hz => e z (List.mem_cons_of_mem _ hz)⟩
theorem c_mM_landChain {μ : ab_m} {L : List Int} {x : Int} (hL : μ 109 74 = 0 → mDc μ L x) (h1 : μ 109 74 ≠ 0 → P 0 μ) (hP : μ 109 74 = 0 → ∀ μ', (∀ c j, ¬ (c = 146 ∧ j ∈ L) → μ' c j = μ c j) → (∀ y ∈ L, μ' 146 y = μ 109 69) → P 0 μ') : jj_mM_landChain X d 0 (ab_la [109, x]) [] μ P := by
  refine bk_mM_landChain_0 rfl ?_
  by_cases h0 : μ 109 74 = 0
  · have s2 : ∀ (L2 : List Int) (l : ab_l) (μ1 : ab_m) (x : Int), l 0 = 109 → l 2 = x → mDc μ1 L2 x → (∀ y ∈ L2, y ∈ L) → (∀ c j, ¬ (c = 146 ∧ j ∈ L) → μ1 c j = μ c j) → (∀ y ∈ L, ¬ y ∈ L2 → μ1 146 y = μ 109 69) → jj_mM_landChain X d 2 l [] μ1 P := by
      intro L2
      induction L2 with
      | nil =>
        intro l μ1 x g0 g2 hc hs hf ht
        refine bk_mM_landChain_2 g0 ⟨fun _ => hP h0 μ1 hf fun y hy => ht y hy List.not_mem_nil, fun w => ?_⟩
        rw [g2] at w
        exact absurd (show x = -1 from hc) w
      | cons y r ih =>
        intro l μ1 x g0 g2 hc hs hf ht
        obtain ⟨c1, c2, c3, c4, c5⟩ := hc
        have z74 : μ1 109 74 = 0 := by rw [hf 109 74 (by omega)]; exact h0
        have z69 : μ1 109 69 = μ 109 69 := hf 109 69 (by omega)
        refine bk_mM_landChain_2 g0 ⟨fun w => by rw [g2] at w; omega, fun _ => ⟨fun w => absurd z74 w, fun _ => ?_⟩⟩
        simp only [g2, c1, z69]
        refine ⟨by omega, by omega, fun μ2 e2 => ?_⟩
        refine ih _ μ2 _ g0 rfl (c5.same fun z hz => by rw [e2, ab_mud, if_neg (by have := c4 z hz; omega)]) (fun z hz => hs z (List.mem_cons_of_mem _ hz)) (fun c j a => ?_) (fun z hz hn => ?_)
        · rw [e2, ab_mud, if_neg (fun w => a ⟨w.1, by rw [w.2]; exact hs y (List.mem_cons_self ..)⟩)]
          exact hf c j a
        · by_cases e : z = y
          · rw [e, e2, ab_mud, if_pos ⟨rfl, rfl⟩]
          · rw [e2, ab_mud, if_neg (fun w => e w.2)]
            refine ht z hz fun w => ?_
            rcases List.mem_cons.mp w with w | w
            · exact e w
            · exact hn w
    exact s2 L _ μ x rfl rfl (hL h0) (fun y hy => hy) (fun _ _ _ => rfl) (fun y hy hn => absurd hy hn)
  · exact bk_mM_landChain_2 rfl ⟨fun _ => h1 h0, fun _ => ⟨fun _ => h1 h0, fun w => absurd w h0⟩⟩
theorem c_mM_loopOpen {μ : ab_m} {q : Int} (hn : μ 109 83 ≤ 3010) (hq : 0 ≤ q) (hqn : q < μ 109 83) (hk : μ 154 q = 19 ∨ μ 154 q = 21) (hno : ∀ j, q < j → j < μ 109 83 → μ 154 j ≠ 19 ∧ μ 154 j ≠ 21) (hP : P q μ) : jj_mM_loopOpen X d 0 (ab_la [109]) [] μ P := by
  have s7 : ∀ (m : Nat) (l : ab_l) (k : Int), l 0 = 109 → l 1 = k → q ≤ k → k < μ 109 83 → (k - q).toNat = m → jj_mM_loopOpen X d 7 l [] μ P := by
    intro m
    induction m using Nat.strongRecOn with
    | ind m ih =>
      intro l k h0 h1 hk1 hk2 hm
      refine bk_mM_loopOpen_7 h0 ?_
      simp only [h1]
      by_cases e : k = q
      · subst e
        exact ⟨by omega, fun _ => hP, fun w => ⟨by omega, fun _ => hP, fun w2 => by omega⟩⟩
      · have := hno k (by omega) hk2
        refine ⟨by omega, fun w => absurd w this.1, fun _ => ⟨by omega, fun w => absurd w this.2, fun _ => ?_⟩⟩
        rw [show ab_w (k + -1) = k - 1 from ab_wi (by omega) (by omega)]
        exact ih _ (by omega) _ (k - 1) h0 rfl (by omega) (by omega) rfl
  refine bk_mM_loopOpen_0 rfl ?_
  rw [show ab_w (μ 109 83 - 1) = μ 109 83 - 1 from ab_wi (by omega) (by omega)]
  exact s7 _ _ (μ 109 83 - 1) rfl rfl (by omega) (by omega) rfl
/-- lay: SET or COPY of operand k into register r -/
theorem c_mM_lay {μ : ab_m} {r k : Int} (hk : 0 ≤ k ∧ k < 9000) (hn : 0 ≤ μ 109 69 ∧ μ 109 69 ≤ 400) (hP : μ 109 69 < 400 → ∀ μ', mEm μ μ' (if μ 152 k = 0 then 1 else 0) r (μ 153 k) (μ 152 k) 0 0 → P 0 μ') (hM : ∀ μ', mMu μ μ' → P 0 μ') : jj_mM_lay X (d + 1) 0 (ab_la [109, r, k]) [] μ P := by
  have s15 : ∀ s, s = (if μ 152 k = 0 then (1 : Int) else 0) → jj_mM_lay X (d + 1) 15 (ab_la [109, r, k]) [(0, s), (2, 109)] μ P := fun s hs => by
    refine bk_mM_lay_15 rfl ⟨hk, hk, ?_⟩
    exact c_mM_emit hn (fun lt μ' m => hP lt μ' (by rw [← hs]; exact m)) hM
  refine bk_mM_lay_0 rfl ⟨hk, fun w => s15 1 ?_, fun w => s15 0 ?_⟩
  · have w : μ 152 k = 0 := w
    rw [if_pos w]
  · have w : μ 152 k ≠ 0 := w
    rw [if_neg w]
end M35

/-! THE REFERENCE, part 36: what the reader's small methods do to the text and the pile -/
section M36
variable {μ μ' : ab_m} {g : Int} {Γ Γ' : tQ} {dd : Int} {p : List aE} {n hh : Int} {ss : List Int} {dn : Int} {pd : Int → Prop} {q : Int}
theorem cE.same {E E' : tE} {n n' m : Int} (h : cE μ g E Γ n m q) (hS : ∀ j, 0 ≤ j → j < n → E'.1 j = E.1 j) (hG : ∀ j, 0 ≤ j → j ≤ n → tQe Γ Γ' j) (hn : n ≤ n') (hr : Γ'.2.2.2.1 n' = Γ.2.2.2.1 n) (hT : ∀ j, 0 ≤ j → j < n → E.1 j = 24 ∨ E.1 j = 25 ∨ E.1 j = 26 → μ' 116 (9000 * g + j) = μ 116 (9000 * g + j)) (hp : ∀ i, 0 ≤ i → i < m → μ' 129 i = μ 129 i ∧ μ' 130 i = μ 130 i ∧ μ' 132 i = μ 132 i ∧ μ' 133 i = μ 133 i) : cE μ' g E' Γ' n' m q := by
  refine ⟨fun i a b k => ?_, fun i a b iq k => ?_, fun i a b k => ?_⟩
  · obtain ⟨p1, p2, p3, p4⟩ := hp i a b
    rw [p1] at k
    obtain ⟨L, c, d⟩ := h.lo i a b k
    rw [p3, p2]
    refine ⟨L, c.same fun y hy => hT y (d y hy).1.1 (d y hy).1.2.1 (Or.inl (d y hy).1.2.2.1), fun y hy => ⟨(d y hy).1.same hn hS hG hr, (d y hy).2.1, fun j x1 x2 x3 => ?_⟩⟩
    obtain ⟨s1, s2, s3, s4⟩ := hp j (by omega) x2
    rw [s2]; rw [s1] at x3
    exact (d y hy).2.2 j x1 x2 x3
  · obtain ⟨p1, p2, p3, p4⟩ := hp i a b
    rw [p1] at k
    obtain ⟨L, c, d⟩ := h.nx i a b iq k
    rw [p4, p2]
    refine ⟨L, c.same fun y hy => hT y (d y hy).1.1 (d y hy).1.2.1 (Or.inr (Or.inl (d y hy).1.2.2.1)), fun y hy => ⟨(d y hy).1.same hn hS hG hr, (d y hy).2.1, fun j x1 x2 x3 => ?_⟩⟩
    obtain ⟨s1, s2, s3, s4⟩ := hp j (by omega) x2
    rw [s2]; rw [s1] at x3
    exact (d y hy).2.2 j x1 x2 x3
  · obtain ⟨p1, p2, p3, p4⟩ := hp i a b
    rw [p1] at k
    obtain ⟨L, c, d⟩ := h.df i a b k
    rw [p3]
    exact ⟨L, c.same fun y hy => hT y (d y hy).1 (d y hy).2.1 (Or.inr (Or.inr (d y hy).2.2.1)), fun y hy => (d y hy).same hn hS hG hr⟩
theorem pN.same {E : tE} {n m k : Int} (h : cE μ g E Γ n m q) (hT : ∀ j, 0 ≤ j → j < n → E.1 j = 24 ∨ E.1 j = 25 ∨ E.1 j = 26 → μ' 116 (9000 * g + j) = μ 116 (9000 * g + j)) (hp : ∀ i, 0 ≤ i → i < m → μ' 129 i = μ 129 i ∧ μ' 130 i = μ 130 i ∧ μ' 131 i = μ 131 i ∧ μ' 132 i = μ 132 i ∧ μ' 133 i = μ 133 i) (a : pN μ g q m k) : pN μ' g q m k := by
  obtain ⟨i, i0, i1, a⟩ := a
  refine ⟨i, i0, i1, ?_⟩
  obtain ⟨p1, p2, p3, p4, p5⟩ := hp i i0 i1
  unfold pE
  rw [p1, p2, p3, p4, p5]
  rcases a with a | a | a | ⟨a, L, c, d⟩ | ⟨a1, a, L, c, d⟩
  · exact Or.inl a
  · exact Or.inr (Or.inl a)
  · exact Or.inr (Or.inr (Or.inl a))
  · refine Or.inr (Or.inr (Or.inr (Or.inl ⟨a, L, c.same fun y hy => ?_, d⟩)))
    by_cases a3 : μ 129 i = 3
    · obtain ⟨L', c', d'⟩ := h.df i i0 i1 a3
      rw [c.uniq c'] at hy
      exact hT y (d' y hy).1 (d' y hy).2.1 (Or.inr (Or.inr (d' y hy).2.2.1))
    · obtain ⟨L', c', d'⟩ := h.lo i i0 i1 (by omega)
      rw [c.uniq c'] at hy
      exact hT y (d' y hy).1.1 (d' y hy).1.2.1 (Or.inl (d' y hy).1.2.2.1)
  · refine Or.inr (Or.inr (Or.inr (Or.inr ⟨a1, a, L, c.same fun y hy => ?_, d⟩)))
    obtain ⟨L', c', d'⟩ := h.nx i i0 i1 a1 a
    rw [c.uniq c'] at hy
    exact hT y (d' y hy).1.1 (d' y hy).1.2.1 (Or.inr (Or.inl (d' y hy).1.2.2.1))
/-- the same by other cells -/
theorem x1.frame (h : x1 μ g Γ dd p n hh ss dn pd q) (f : xS μ μ' g n p.length) : x1 μ' g Γ dd p n hh ss dn pd q := by
  have G : ∀ j, 0 ≤ j → j ≤ n → tQe Γ Γ j := fun _ _ _ => ⟨rfl, rfl, rfl, rfl, rfl⟩
  have x := f.x (dd := dd) G
  have r0 := (h.tr h.n0 (Int.le_refl _)).r0
  refine ⟨h.n0, fun k a b => ?_, h.ch, h.cs, h.cr, h.base, fun k a b => by rw [f.S k a b]; exact h.ns k a b, h.ap.same fun c i a b c' d => f.p c i a b c' d, eP.same x h.n0 (Int.le_refl _) rfl r0 h.ent (fun i a b => ⟨f.p 130 i (by decide) (by decide) a b, f.p 131 i (by decide) (by decide) a b, fun _ => f.p 132 i (by decide) (by decide) a b⟩) (fun w => f.d 134 w (by omega)) h.ap, h.chn.same x.S G (Int.le_refl _) rfl (fun j a b _ => f.T j a b) fun i a b => ⟨f.p 129 i (by decide) (by decide) a b, f.p 130 i (by decide) (by decide) a b, f.p 132 i (by decide) (by decide) a b, f.p 133 i (by decide) (by decide) a b⟩, fun x a b => ?_, h.ddn⟩
  · obtain ⟨h1, h2⟩ := h.flat k a b
    refine ⟨x.k ⟨a, b⟩ (h.tr a (by omega)).r0 h1, fun go => ?_⟩
    have eS : (tEv μ' g dd).1 k = (tEv μ g dd).1 k := f.S k a b
    rw [eS] at go
    rcases h2 go with h3 | h3
    · exact Or.inl h3
    · refine Or.inr ?_
      unfold tJ
      rw [eS, show (tEv μ' g dd).2.1 k = (tEv μ g dd).2.1 k from f.T k a b]
      exact x.jt (Int.le_refl _) ⟨a, b⟩ h3
  · rw [f.d 118 _ (by omega), f.d 119 _ (by omega), f.d 120 _ (by omega)]; exact h.defs x a b
def tUp (Γ : tQ) (n h : Int) (s : List Int) (w r z : Int) : tQ := ⟨fun j => if j = n then h else Γ.1 j, fun j => if j = n then s else Γ.2.1 j, fun j => if j = n then w else Γ.2.2.1 j, fun j => if j = n then r else Γ.2.2.2.1 j, fun j => if j = n then z else Γ.2.2.2.2 j⟩
theorem tUp_e {n h w r z : Int} {s : List Int} : (tUp Γ n h s w r z).1 n = h ∧ (tUp Γ n h s w r z).2.1 n = s ∧ (tUp Γ n h s w r z).2.2.1 n = w ∧ (tUp Γ n h s w r z).2.2.2.1 n = r ∧ (tUp Γ n h s w r z).2.2.2.2 n = z := ⟨if_pos rfl, if_pos rfl, if_pos rfl, if_pos rfl, if_pos rfl⟩
theorem tUp_G {n h w r z : Int} {s : List Int} : ∀ j, 0 ≤ j → j ≤ n → tQe Γ (tUp Γ (n + 1) h s w r z) j := fun j _ b => ⟨if_neg (by omega), if_neg (by omega), if_neg (by omega), if_neg (by omega), if_neg (by omega)⟩
theorem mSp.xS {k t o : Int} {m : Int} (s : mSp μ μ' k t o) (hg : μ 109 20 = g) (hn : μ 109 21 = n) : xS μ μ' g n m := by
  obtain ⟨s1, -⟩ := s
  rw [hg, hn] at s1
  exact ⟨fun j a b => s1 115 _ (by omega) (by omega), fun j a b => s1 116 _ (by omega) (by omega), fun c j hc => s1 c j (by omega) (by omega), fun c j a b _ _ => s1 c j (by omega) (by omega)⟩
/-- one more step -/
theorem x1.step {k t o h' : Int} {s' : List Int} (h : x1 μ g Γ dd p n hh ss dn pd q) (m : mSp μ μ' k t o) (hg : μ 109 20 = g) (hn : μ 109 21 = n) (mv : tMv k (tAr (tEv μ g dd) k t) hh ss = some (h', s')) (vk : tVk (tEv μ g dd) Γ n k t) (n30 : k ≠ 30) : ∃ Γ', x1 μ' g Γ' dd p (n + 1) h' s' dn (fun j => pd j ∨ (tGo k ∧ j = n)) q ∧ Γ'.2.2.1 (n + 1) = Γ.2.2.1 n + tPu k ∧ (∀ j, 0 ≤ j → j ≤ n → tQe Γ Γ' j) := by
  have f : xS μ μ' g n p.length := m.xS hg hn
  obtain ⟨m1, m2, m3, m4, m5⟩ := m
  rw [hg, hn] at m3 m4
  have G : ∀ j, 0 ≤ j → j ≤ n → tQe Γ (tUp Γ (n + 1) h' s' (Γ.2.2.1 n + tPu k) dn (Γ.2.2.2.2 n)) j := tUp_G
  obtain ⟨u1, u2, u3, u4, u5⟩ := @tUp_e Γ (n + 1) h' (Γ.2.2.1 n + tPu k) dn (Γ.2.2.2.2 n) s'
  generalize tUp Γ (n + 1) h' s' (Γ.2.2.1 n + tPu k) dn (Γ.2.2.2.2 n) = Γ' at *
  have x := f.x (dd := dd) G
  have r0 := (h.tr h.n0 (Int.le_refl _)).r0
  have hr : Γ'.2.2.2.1 (n + 1) = Γ.2.2.2.1 n := by rw [u4, h.cr]
  have n0 := h.n0
  have e0 := G 0 (Int.le_refl _) n0
  refine ⟨Γ', ⟨by omega, fun j a b => ?_, u1, u2, u4, ?_, fun j a b => ?_, h.ap.same fun c i a b c' d => f.p c i a b c' d, eP.same x n0 (by omega) hr r0 h.ent (fun i a b => ⟨f.p 130 i (by decide) (by decide) a b, f.p 131 i (by decide) (by decide) a b, fun _ => f.p 132 i (by decide) (by decide) a b⟩) (fun w => f.d 134 w (by omega)) h.ap, h.chn.same x.S G (by omega) hr (fun j a b _ => f.T j a b) fun i a b => ⟨f.p 129 i (by decide) (by decide) a b, f.p 130 i (by decide) (by decide) a b, f.p 132 i (by decide) (by decide) a b, f.p 133 i (by decide) (by decide) a b⟩, fun y a b => ?_, h.ddn⟩, u3, G⟩
  · by_cases e : j = n
    · subst e
      have sj : (tEv μ' g dd).1 j = k := m3
      have tj : (tEv μ' g dd).2.1 j = t := m4
      obtain ⟨g1, g2, g3, g4, g5⟩ := G j n0 (Int.le_refl _)
      refine ⟨⟨Or.inr (Or.inr ⟨?_, ?_, ?_, ?_⟩), ?_⟩, fun go => Or.inl (Or.inr ⟨by rw [← sj]; exact go, rfl⟩)⟩
      · rw [sj, tj, g1, g2, u1, u2, h.ch, h.cs]
        have : tAr (tEv μ' g dd) k t = tAr (tEv μ g dd) k t := by
          unfold tAr
          split
          · exact f.d 120 _ (by omega)
          · rfl
        rw [this]; exact mv
      · rw [u3, g3, sj]
      · rw [hr, g4]
      · rw [u5, g5]
      · rw [sj, tj]; exact x.vk ⟨n0, Int.le_refl _⟩ r0 vk
    · obtain ⟨h1, h2⟩ := h.flat j a (by omega)
      refine ⟨x.k ⟨a, by omega⟩ (h.tr a (by omega)).r0 h1, fun go => ?_⟩
      have eS : (tEv μ' g dd).1 j = (tEv μ g dd).1 j := f.S j a (by omega)
      rw [eS] at go
      rcases h2 go with h3 | h3
      · exact Or.inl (Or.inl h3)
      · refine Or.inr ?_
        unfold tJ
        rw [eS, show (tEv μ' g dd).2.1 j = (tEv μ g dd).2.1 j from f.T j a (by omega)]
        exact x.jt (by omega) ⟨a, by omega⟩ h3
  · obtain ⟨b1, b2, b3, b4, b5⟩ := h.base
    obtain ⟨e1, e2, e3, e4, e5⟩ := e0
    exact ⟨by rw [e1, b1], by rw [e2, b2], by rw [e3, b3], by rw [e4, b4], by rw [e5, b5]⟩
  · by_cases e : j = n
    · subst e; rw [m3]; exact n30
    · rw [f.S j a (by omega)]; exact h.ns j a (by omega)
  · rw [f.d 118 _ (by omega), f.d 119 _ (by omega), f.d 120 _ (by omega)]
    obtain ⟨d1, d2, d3, d4, d5, d6, d7⟩ := h.defs y a b
    obtain ⟨g1, g2, g3, g4, g5⟩ := G _ d1 d2
    exact ⟨d1, by omega, by rw [g4]; exact d3, by rw [g1]; exact d4, by rw [g2]; exact d5, by rw [g5]; exact d6, d7⟩
/-- what isn't told may be more -/
theorem x1.more {pd' : Int → Prop} (h : x1 μ g Γ dd p n hh ss dn pd q) (hp : ∀ k, 0 ≤ k → k < n → tGo (μ 115 (9000 * g + k)) → pd k → pd' k ∨ tJ (tEv μ g dd) Γ n k) : x1 μ g Γ dd p n hh ss dn pd' q :=
  ⟨h.n0, fun k a b => ⟨(h.flat k a b).1, fun go => by
    rcases (h.flat k a b).2 go with z | z
    · exact hp k a b go z
    · exact Or.inr z⟩, h.ch, h.cs, h.cr, h.base, h.ns, h.ap, h.ent, h.chn, h.defs, h.ddn⟩
/-- a jump is told -/
theorem x1.tell {k t : Int} (h : x1 μ g Γ dd p n hh ss dn pd q) (f : ∀ c j, ¬ (c = 116 ∧ j = 9000 * g + k) → μ' c j = μ c j) (hk : 0 ≤ k ∧ k < n) (hS : μ 115 (9000 * g + k) = 7 ∨ μ 115 (9000 * g + k) = 15 ∨ μ 115 (9000 * g + k) = 16 ∨ μ 115 (9000 * g + k) = 19) (hpd : pd k) : x1 μ' g Γ dd p n hh ss dn pd q := by
  have G : ∀ j, 0 ≤ j → j ≤ n → tQe Γ Γ j := fun _ _ _ => ⟨rfl, rfl, rfl, rfl, rfl⟩
  have kk : ∀ j, (tEv μ g dd).1 j = 24 ∨ (tEv μ g dd).1 j = 25 ∨ (tEv μ g dd).1 j = 26 → j ≠ k := fun j q e => by
    rw [e] at q
    have q : μ 115 (9000 * g + k) = 24 ∨ μ 115 (9000 * g + k) = 25 ∨ μ 115 (9000 * g + k) = 26 := q
    omega
  have x : tX (tEv μ g dd) (tEv μ' g dd) Γ Γ n := ⟨fun j _ _ => f 115 _ (by omega), fun j _ _ hj => f 116 _ (by
      intro w
      have : j = k := by omega
      subst this
      exact hj (by show tGo (μ 115 (9000 * g + j)); unfold tGo; omega)), G, Int.le_refl _, fun y _ _ => ⟨f 120 _ (by omega), f 119 _ (by omega)⟩, fun y a => tEv_D (fun c j hc => f c j (by omega)) a⟩
  have r0 := (h.tr h.n0 (Int.le_refl _)).r0
  refine ⟨h.n0, fun j a b => ?_, h.ch, h.cs, h.cr, h.base, fun k a b => by rw [f 115 _ (by omega)]; exact h.ns k a b, h.ap.same fun c i a b c' d => f c i (by omega), eP.same x h.n0 (Int.le_refl _) rfl r0 h.ent (fun i a b => ⟨f 130 i (by omega), f 131 i (by omega), fun _ => f 132 i (by omega)⟩) (fun w => f 134 w (by omega)) h.ap, h.chn.same x.S G (Int.le_refl _) rfl (fun j a b hj => f 116 _ (by have := kk j hj; omega)) fun i a b => ⟨f 129 i (by omega), f 130 i (by omega), f 132 i (by omega), f 133 i (by omega)⟩, fun x a b => ?_, h.ddn⟩
  · obtain ⟨h1, h2⟩ := h.flat j a b
    refine ⟨x.k ⟨a, b⟩ (h.tr a (by omega)).r0 h1, fun go => ?_⟩
    have eS : (tEv μ' g dd).1 j = (tEv μ g dd).1 j := f 115 _ (by omega)
    rw [eS] at go
    by_cases e : j = k
    · subst e; exact Or.inl hpd
    · rcases h2 go with h3 | h3
      · exact Or.inl h3
      · refine Or.inr ?_
        unfold tJ
        rw [eS, show (tEv μ' g dd).2.1 j = (tEv μ g dd).2.1 j from f 116 _ (by omega)]
        exact x.jt (Int.le_refl _) ⟨a, b⟩ h3
  · rw [f 118 _ (by omega), f 119 _ (by omega), f 120 _ (by omega)]; exact h.defs x a b
/-- the entry on top goes -/
theorem x1.pop {e : aE} (h : x1 μ g Γ dd (e :: p) n hh ss dn pd q) : x1 μ g Γ dd p n hh ss dn pd q := by
  have l : ((e :: p).length : Int) = p.length + 1 := by simp
  refine ⟨h.n0, h.flat, h.ch, h.cs, h.cr, h.base, h.ns, h.ap.2, h.ent.2, ⟨fun i a b k => ?_, fun i a b c k => ?_, fun i a b k => h.chn.df i a (by omega) k⟩, h.defs, h.ddn⟩
  · obtain ⟨L, c, d⟩ := h.chn.lo i a (by omega) k
    exact ⟨L, c, fun y hy => ⟨(d y hy).1, (d y hy).2.1, fun j x1 x2 x3 => (d y hy).2.2 j x1 (by omega) x3⟩⟩
  · obtain ⟨L, c, d⟩ := h.chn.nx i a (by omega) c k
    exact ⟨L, c, fun y hy => ⟨(d y hy).1, (d y hy).2.1, fun j x1 x2 x3 => (d y hy).2.2 j x1 (by omega) x3⟩⟩
end M36

/-! THE REFERENCE, part 37: entries come, chains are told and grow -/
section M37
variable {μ μ' : ab_m} {g : Int} {Γ Γ' : tQ} {dd : Int} {p : List aE} {n hh : Int} {ss : List Int} {dn : Int} {pd : Int → Prop} {q : Int}
/-- L is a chain at entry i -/
def cA (μ : ab_m) (g q i : Int) (L : List Int) : Prop := ((μ 129 i = 6 ∨ μ 129 i = 7 ∨ μ 129 i = 3) ∧ mCh μ g L (μ 132 i)) ∨ (i ≠ q ∧ μ 129 i = 7 ∧ mCh μ g L (μ 133 i))
/-- all links of loops stand before a -/
def cL (μ : ab_m) (g q m a : Int) : Prop := ∀ i, 0 ≤ i → i < m → ∀ L, cA μ g q i L → μ 129 i ≠ 3 → ∀ y ∈ L, y < a
theorem cE.S {E : tE} {n m : Int} (h : cE μ g E Γ n m q) {i : Int} {L : List Int} (i0 : 0 ≤ i) (i1 : i < m) (a : cA μ g q i L) {y : Int} (hy : y ∈ L) : 0 ≤ y ∧ y < n ∧ (E.1 y = 24 ∨ E.1 y = 25 ∨ E.1 y = 26) ∧ (E.1 y = 26 → μ 129 i = 3) ∧ (E.1 y = 25 → μ 129 i = 7) := by
  rcases a with ⟨a1, a2⟩ | ⟨a0, a1, a2⟩
  · by_cases k : μ 129 i = 3
    · obtain ⟨L', c, d⟩ := h.df i i0 i1 k
      rw [a2.uniq c] at hy
      have := d y hy
      exact ⟨this.1, this.2.1, Or.inr (Or.inr this.2.2.1), fun _ => k, fun w => by have := this.2.2.1; omega⟩
    · obtain ⟨L', c, d⟩ := h.lo i i0 i1 (by omega)
      rw [a2.uniq c] at hy
      have := (d y hy).1
      exact ⟨this.1, this.2.1, Or.inl this.2.2.1, fun w => by have := this.2.2.1; omega, fun w => by have := this.2.2.1; omega⟩
  · obtain ⟨L', c, d⟩ := h.nx i i0 i1 a0 a1
    rw [a2.uniq c] at hy
    have := (d y hy).1
    exact ⟨this.1, this.2.1, Or.inr (Or.inl this.2.2.1), fun w => by have := this.2.2.1; omega, fun w => a1⟩
theorem cE.toL {E : tE} {n m : Int} (h : cE μ g E Γ n m q) : cL μ g q m n := fun _ i0 i1 _ a _ _ hy => (h.S i0 i1 a hy).2.1
/-- below an open loop -/
theorem cE.cLt {E : tE} {n m j : Int} (h : cE μ g E Γ n m q) (hj : 0 ≤ j ∧ j < m) (k : μ 129 j = 6 ∨ μ 129 j = 7 ∨ μ 129 j = 21) : cL μ g q j (μ 130 j) := fun i i0 i1 L a n3 y hy => by
  rcases a with ⟨a1, a2⟩ | ⟨a0, a1, a2⟩
  · obtain ⟨L', c, d⟩ := h.lo i i0 (by omega) (by omega)
    rw [a2.uniq c] at hy
    exact (d y hy).2.2 j i1 hj.2 k
  · obtain ⟨L', c, d⟩ := h.nx i i0 (by omega) a0 a1
    rw [a2.uniq c] at hy
    exact (d y hy).2.2 j i1 hj.2 k
theorem mCh_nil : mCh μ g [] (-1) := rfl
/-- an entry comes to lie on top -/
theorem x1.put {e : aE} (h : x1 μ g Γ dd p n hh ss dn pd q) (f : xS μ μ' g n p.length) (am : aM μ' p.length e) (ef : eF μ' (tEv μ' g dd) Γ n e p p.length) (c3 : e.1 = 3 ∨ e.1 = 6 ∨ e.1 = 7 → μ' 132 p.length = -1) (c7 : e.1 = 7 → μ' 133 p.length = -1) (cl : e.1 = 6 ∨ e.1 = 7 ∨ e.1 = 21 → cL μ g q p.length (μ' 130 p.length)) : x1 μ' g Γ dd (e :: p) n hh ss dn pd q := by
  have h' := h.frame f
  have l : ((e :: p).length : Int) = p.length + 1 := by simp
  have key : ∀ i L, 0 ≤ i → i < (p.length : Int) → cA μ' g q i L → cA μ g q i L := fun i L i0 i1 a => by
    have b : ∀ {L' x}, mCh μ' g L' x → (∀ y ∈ L', 0 ≤ y ∧ y < n) → mCh μ g L' x := fun m hy => m.same fun y hy' => (f.T y (hy y hy').1 (hy y hy').2).symm
    have s := fun y (hy : y ∈ L) => h'.chn.S i0 i1 a hy
    unfold cA at a ⊢
    rw [f.p 129 i (by decide) (by decide) i0 i1, f.p 132 i (by decide) (by decide) i0 i1, f.p 133 i (by decide) (by decide) i0 i1] at a
    rcases a with a | a
    · exact Or.inl ⟨a.1, b a.2 fun y hy => ⟨(s y hy).1, (s y hy).2.1⟩⟩
    · exact Or.inr ⟨a.1, a.2.1, b a.2.2 fun y hy => ⟨(s y hy).1, (s y hy).2.1⟩⟩
  refine ⟨h'.n0, h'.flat, h'.ch, h'.cs, h'.cr, h'.base, h'.ns, ⟨am, h'.ap⟩, ⟨ef, h'.ent⟩, ⟨fun i a b k => ?_, fun i a b c k => ?_, fun i a b k => ?_⟩, h'.defs, h'.ddn⟩
  · by_cases e1 : i = p.length
    · subst e1
      refine ⟨[], ?_, fun y hy => by cases hy⟩
      rw [c3 (by rw [← am.1]; omega)]; exact mCh_nil
    · obtain ⟨L, c, d⟩ := h'.chn.lo i a (by omega) k
      refine ⟨L, c, fun y hy => ⟨(d y hy).1, (d y hy).2.1, fun j x1 x2 x3 => ?_⟩⟩
      by_cases e2 : j = p.length
      · subst e2
        have z : cA μ' g q i L := Or.inl ⟨by omega, c⟩
        refine cl (by rw [← am.1]; exact x3) i a x1 L (key i L a x1 z) (fun w => ?_) y hy
        rw [← f.p 129 i (by decide) (by decide) a x1] at w; omega
      · exact (d y hy).2.2 j x1 (by omega) x3
  · by_cases e1 : i = p.length
    · subst e1
      refine ⟨[], ?_, fun y hy => by cases hy⟩
      rw [c7 (by rw [← am.1]; omega)]; exact mCh_nil
    · obtain ⟨L, c', d⟩ := h'.chn.nx i a (by omega) c k
      refine ⟨L, c', fun y hy => ⟨(d y hy).1, (d y hy).2.1, fun j x1 x2 x3 => ?_⟩⟩
      by_cases e2 : j = p.length
      · subst e2
        have z : cA μ' g q i L := Or.inr ⟨c, k, c'⟩
        refine cl (by rw [← am.1]; exact x3) i a x1 L (key i L a x1 z) (fun w => ?_) y hy
        rw [← f.p 129 i (by decide) (by decide) a x1] at w; omega
      · exact (d y hy).2.2 j x1 (by omega) x3
  · by_cases e1 : i = p.length
    · subst e1
      refine ⟨[], ?_, fun y hy => by cases hy⟩
      rw [c3 (by rw [← am.1]; omega)]; exact mCh_nil
    · exact h'.chn.df i a (by omega) k
theorem x1.qq {q' : Int} (h : x1 μ g Γ dd p n hh ss dn pd q) (hq : ∀ i, 0 ≤ i → i < (p.length : Int) → i ≠ q' → i ≠ q) : x1 μ g Γ dd p n hh ss dn pd q' :=
  ⟨h.n0, h.flat, h.ch, h.cs, h.cr, h.base, h.ns, h.ap, h.ent, ⟨h.chn.lo, fun i a b c k => h.chn.nx i a b (hq i a b c) k, h.chn.df⟩, h.defs, h.ddn⟩
/-- a chain that no entry holds any more is told -/
theorem x1.chain {L : List Int} (h : x1 μ g Γ dd p n hh ss dn pd q) (f : ∀ c j, ¬ (c = 116 ∧ ∃ y ∈ L, j = 9000 * g + y) → μ' c j = μ c j) (hL : ∀ y ∈ L, pd y ∧ tGo (μ 115 (9000 * g + y))) (dis : ∀ i L', 0 ≤ i → i < (p.length : Int) → cA μ g q i L' → ∀ y ∈ L', ¬ y ∈ L) : x1 μ' g Γ dd p n hh ss dn pd q := by
  have G : ∀ j, 0 ≤ j → j ≤ n → tQe Γ Γ j := fun _ _ _ => ⟨rfl, rfl, rfl, rfl, rfl⟩
  have f6 : ∀ j, ¬ j ∈ L → μ' 116 (9000 * g + j) = μ 116 (9000 * g + j) := fun j hj => f 116 _ fun ⟨_, y, hy, e⟩ => hj (by rw [show j = y by omega]; exact hy)
  have x : tX (tEv μ g dd) (tEv μ' g dd) Γ Γ n := ⟨fun j _ _ => f 115 _ (by omega), fun j _ _ hj => f6 j fun w => hj (hL j w).2, G, Int.le_refl _, fun y _ _ => ⟨f 120 _ (by omega), f 119 _ (by omega)⟩, fun y a => tEv_D (fun c j hc => f c j (by omega)) a⟩
  have r0 := (h.tr h.n0 (Int.le_refl _)).r0
  have fp : ∀ c i, c ≠ 116 → μ' c i = μ c i := fun c i hc => f c i fun w => hc w.1
  refine ⟨h.n0, fun j a b => ?_, h.ch, h.cs, h.cr, h.base, fun k a b => by rw [fp 115 _ (by decide)]; exact h.ns k a b, h.ap.same fun c i a b c' d => fp c i (by omega), eP.same x h.n0 (Int.le_refl _) rfl r0 h.ent (fun i a b => ⟨fp 130 i (by decide), fp 131 i (by decide), fun _ => fp 132 i (by decide)⟩) (fun w => fp 134 w (by decide)) h.ap, ?_, fun x a b => ?_, h.ddn⟩
  · obtain ⟨h1, h2⟩ := h.flat j a b
    refine ⟨x.k ⟨a, b⟩ (h.tr a (by omega)).r0 h1, fun go => ?_⟩
    have eS : (tEv μ' g dd).1 j = (tEv μ g dd).1 j := fp 115 _ (by decide)
    rw [eS] at go
    by_cases e : j ∈ L
    · exact Or.inl (hL j e).1
    · rcases h2 go with h3 | h3
      · exact Or.inl h3
      · refine Or.inr ?_
        unfold tJ
        rw [eS, show (tEv μ' g dd).2.1 j = (tEv μ g dd).2.1 j from f6 j e]
        exact x.jt (Int.le_refl _) ⟨a, b⟩ h3
  · refine ⟨fun i a b k => ?_, fun i a b c k => ?_, fun i a b k => ?_⟩
    · rw [fp 129 i (by decide)] at k
      obtain ⟨L', c, d⟩ := h.chn.lo i a b k
      rw [fp 132 i (by decide), fp 130 i (by decide)]
      refine ⟨L', c.same fun y hy => f6 y (dis i L' a b (Or.inl ⟨by omega, c⟩) y hy), fun y hy => ⟨(d y hy).1.same (Int.le_refl _) x.S G rfl, (d y hy).2.1, fun j x1 x2 x3 => ?_⟩⟩
      rw [fp 130 j (by decide)]; rw [fp 129 j (by decide)] at x3
      exact (d y hy).2.2 j x1 x2 x3
    · rw [fp 129 i (by decide)] at k
      obtain ⟨L', c', d⟩ := h.chn.nx i a b c k
      rw [fp 133 i (by decide), fp 130 i (by decide)]
      refine ⟨L', c'.same fun y hy => f6 y (dis i L' a b (Or.inr ⟨c, k, c'⟩) y hy), fun y hy => ⟨(d y hy).1.same (Int.le_refl _) x.S G rfl, (d y hy).2.1, fun j x1 x2 x3 => ?_⟩⟩
      rw [fp 130 j (by decide)]; rw [fp 129 j (by decide)] at x3
      exact (d y hy).2.2 j x1 x2 x3
    · rw [fp 129 i (by decide)] at k
      obtain ⟨L', c, d⟩ := h.chn.df i a b k
      rw [fp 132 i (by decide)]
      exact ⟨L', c.same fun y hy => f6 y (dis i L' a b (Or.inl ⟨by omega, c⟩) y hy), fun y hy => (d y hy).same (Int.le_refl _) x.S G rfl⟩
  · rw [fp 118 _ (by decide), fp 119 _ (by decide), fp 120 _ (by decide)]; exact h.defs x a b
/-- a chain grows by the step that was laid last -/
theorem x1.link {c i : Int} (h : x1 μ g Γ dd p (n + 1) hh ss dn pd q) (hn : 0 ≤ n ∧ n < 9000) (f : ∀ a j, ¬ (a = c ∧ j = i) → μ' a j = μ a j) (e : μ' c i = n) (i0 : 0 ≤ i ∧ i < (p.length : Int)) (hr : Γ.2.2.2.1 n = Γ.2.2.2.1 (n + 1)) (ht : μ 116 (9000 * g + n) = μ c i) (hk : (c = 132 ∧ (μ 129 i = 6 ∨ μ 129 i = 7) ∧ μ 115 (9000 * g + n) = 24 ∧ Γ.1 n = 0) ∨ (c = 133 ∧ μ 129 i = 7 ∧ μ 115 (9000 * g + n) = 25 ∧ Γ.1 n = 0) ∨ (c = 132 ∧ μ 129 i = 3 ∧ μ 115 (9000 * g + n) = 26 ∧ Γ.1 n = 1)) (hlt : μ 129 i ≠ 3 → μ 130 i < n ∧ ∀ j, i < j → j < (p.length : Int) → μ 129 j ≠ 6 ∧ μ 129 j ≠ 7 ∧ μ 129 j ≠ 21) (hq : c = 133 → i ≠ q) (hL : ∀ L, mCh μ g L (μ c i) → (∀ y ∈ L, y < n)) : x1 μ' g Γ dd p (n + 1) hh ss dn pd q := by
  have G : ∀ j, 0 ≤ j → j ≤ n + 1 → tQe Γ Γ j := fun _ _ _ => ⟨rfl, rfl, rfl, rfl, rfl⟩
  have hc : c = 132 ∨ c = 133 := by omega
  have fo : ∀ a j, a ≠ 132 → a ≠ 133 → μ' a j = μ a j := fun a j h1 h2 => f a j (by omega)
  have sx : xS μ μ' g (n + 1) 0 := ⟨fun j _ _ => fo 115 _ (by decide) (by decide), fun j _ _ => fo 116 _ (by decide) (by decide), fun a j ha => fo a j (by omega) (by omega), fun _ _ _ _ a b => by omega⟩
  have x := sx.x (dd := dd) G
  have r0 := (h.tr h.n0 (Int.le_refl _)).r0
  have mc : ∀ {L x}, mCh μ g L x → mCh μ' g L x := fun m => m.same fun y _ => fo 116 _ (by decide) (by decide)
  have kk : ∀ j, 0 ≤ j → j < (p.length : Int) → μ 129 j = 40 ∨ μ 129 j = 28 → j ≠ i := fun j _ _ a b => by subst b; omega
  have apm : ∀ {p : List aE}, aP μ p → (∀ j, 0 ≤ j → j < (p.length : Int) → (μ 129 j = 28 → μ' 132 j = μ 132 j) ∧ (μ 129 j = 28 ∨ μ 129 j = 3 → μ' 133 j = μ 133 j)) → aP μ' p := by
    intro p
    induction p with
    | nil => intro _ _; trivial
    | cons y r ih =>
      intro a b
      have l : ((y :: r).length : Int) = r.length + 1 := by simp
      refine ⟨?_, ih a.2 fun j j0 j1 => b j j0 (by omega)⟩
      obtain ⟨a1, a2, a3, a4, a5, a6, a7⟩ := a.1
      refine ⟨by rw [fo 129 _ (by decide) (by decide)]; exact a1, by rw [fo 130 _ (by decide) (by decide), fo 131 _ (by decide) (by decide)]; exact a2, by rw [fo 131 _ (by decide) (by decide)]; exact a3, by rw [fo 130 _ (by decide) (by decide)]; exact a4, by rw [fo 131 _ (by decide) (by decide)]; exact a5, fun k => ?_, fun k => ?_⟩
      · have z := b r.length (by omega) (by omega)
        rw [fo 131 _ (by decide) (by decide), z.1 (by rw [a1]; exact k), z.2 (Or.inl (by rw [a1]; exact k))]
        exact a6 k
      · rw [(b r.length (by omega) (by omega)).2 (Or.inr (by rw [a1]; exact k))]; exact a7 k
  refine ⟨h.n0, fun j a b => ?_, h.ch, h.cs, h.cr, h.base, fun k a b => by rw [fo 115 _ (by decide) (by decide)]; exact h.ns k a b, apm h.ap fun j j0 j1 => ⟨fun k => f 132 j (by have := kk j j0 j1 (Or.inr k); omega), fun k => f 133 j (fun z => by rw [z.2] at k; omega)⟩, eP.same x h.n0 (Int.le_refl _) rfl r0 h.ent (fun j a b => ⟨fo 130 j (by decide) (by decide), fo 131 j (by decide) (by decide), fun k => f 132 j (by have := kk j a b (Or.inl k); omega)⟩) (fun w => fo 134 w (by decide) (by decide)) h.ap, ⟨fun j a b k => ?_, fun j a b c' k => ?_, fun j a b k => ?_⟩, fun y a b => ?_, h.ddn⟩
  · obtain ⟨h1, h2⟩ := h.flat j a b
    refine ⟨x.k ⟨a, b⟩ (h.tr a (by omega)).r0 h1, fun go => ?_⟩
    have eS : (tEv μ' g dd).1 j = (tEv μ g dd).1 j := fo 115 _ (by decide) (by decide)
    rw [eS] at go
    rcases h2 go with h3 | h3
    · exact Or.inl h3
    · refine Or.inr ?_
      unfold tJ
      rw [eS, show (tEv μ' g dd).2.1 j = (tEv μ g dd).2.1 j from fo 116 _ (by decide) (by decide)]
      exact x.jt (Int.le_refl _) ⟨a, b⟩ h3
  · rw [fo 129 j (by decide) (by decide)] at k
    obtain ⟨L, m, d⟩ := h.chn.lo j a b k
    rw [fo 130 j (by decide) (by decide)]
    have d' : ∀ y ∈ L, pj (tEv μ' g dd) Γ (n + 1) y 24 0 ∧ μ 130 j < y ∧ ∀ u, j < u → u < (p.length : Int) → μ' 129 u = 6 ∨ μ' 129 u = 7 ∨ μ' 129 u = 21 → y < μ' 130 u := fun y hy => ⟨(d y hy).1.same (Int.le_refl _) x.S G rfl, (d y hy).2.1, fun u x1 x2 x3 => by
      rw [fo 130 u (by decide) (by decide)]; rw [fo 129 u (by decide) (by decide)] at x3
      exact (d y hy).2.2 u x1 x2 x3⟩
    by_cases ji : j = i ∧ c = 132
    · obtain ⟨ji, jc⟩ := ji
      subst ji
      have hk1 : μ 115 (9000 * g + n) = 24 ∧ Γ.1 n = 0 := by omega
      have lt := hlt (by omega)
      rw [jc] at e ht hL
      refine ⟨n :: L, ⟨e, hn.1, hn.2, hL L m, ?_⟩, fun y hy => ?_⟩
      · rw [fo 116 _ (by decide) (by decide), ht]; exact mc m
      · rcases List.mem_cons.mp hy with hy | hy
        · rw [hy]
          refine ⟨⟨hn.1, by omega, by rw [show (tEv μ' g dd).1 n = μ 115 (9000 * g + n) from fo 115 _ (by decide) (by decide)]; exact hk1.1, hk1.2, hr⟩, lt.1, fun u x1 x2 x3 => ?_⟩
          rw [fo 129 u (by decide) (by decide)] at x3
          have := lt.2 u x1 x2
          omega
        · exact d' y hy
    · refine ⟨L, ?_, d'⟩
      rw [f 132 j (by omega)]; exact mc m
  · rw [fo 129 j (by decide) (by decide)] at k
    obtain ⟨L, m, d⟩ := h.chn.nx j a b c' k
    rw [fo 130 j (by decide) (by decide)]
    have d' : ∀ y ∈ L, pj (tEv μ' g dd) Γ (n + 1) y 25 0 ∧ μ 130 j < y ∧ ∀ u, j < u → u < (p.length : Int) → μ' 129 u = 6 ∨ μ' 129 u = 7 ∨ μ' 129 u = 21 → y < μ' 130 u := fun y hy => ⟨(d y hy).1.same (Int.le_refl _) x.S G rfl, (d y hy).2.1, fun u x1 x2 x3 => by
      rw [fo 130 u (by decide) (by decide)]; rw [fo 129 u (by decide) (by decide)] at x3
      exact (d y hy).2.2 u x1 x2 x3⟩
    by_cases ji : j = i ∧ c = 133
    · obtain ⟨ji, jc⟩ := ji
      subst ji
      have hk1 : μ 115 (9000 * g + n) = 25 ∧ Γ.1 n = 0 := by omega
      have lt := hlt (by omega)
      rw [jc] at e ht hL
      refine ⟨n :: L, ⟨e, hn.1, hn.2, hL L m, ?_⟩, fun y hy => ?_⟩
      · rw [fo 116 _ (by decide) (by decide), ht]; exact mc m
      · rcases List.mem_cons.mp hy with hy | hy
        · rw [hy]
          refine ⟨⟨hn.1, by omega, by rw [show (tEv μ' g dd).1 n = μ 115 (9000 * g + n) from fo 115 _ (by decide) (by decide)]; exact hk1.1, hk1.2, hr⟩, lt.1, fun u x1 x2 x3 => ?_⟩
          rw [fo 129 u (by decide) (by decide)] at x3
          have := lt.2 u x1 x2
          omega
        · exact d' y hy
    · refine ⟨L, ?_, d'⟩
      rw [f 133 j (by omega)]; exact mc m
  · rw [fo 129 j (by decide) (by decide)] at k
    obtain ⟨L, m, d⟩ := h.chn.df j a b k
    have d' : ∀ y ∈ L, pj (tEv μ' g dd) Γ (n + 1) y 26 1 := fun y hy => (d y hy).same (Int.le_refl _) x.S G rfl
    by_cases ji : j = i ∧ c = 132
    · obtain ⟨ji, jc⟩ := ji
      subst ji
      have hk1 : μ 115 (9000 * g + n) = 26 ∧ Γ.1 n = 1 := by omega
      rw [jc] at e ht hL
      refine ⟨n :: L, ⟨e, hn.1, hn.2, hL L m, ?_⟩, fun y hy => ?_⟩
      · rw [fo 116 _ (by decide) (by decide), ht]; exact mc m
      · rcases List.mem_cons.mp hy with hy | hy
        · rw [hy]
          exact ⟨hn.1, by omega, by rw [show (tEv μ' g dd).1 n = μ 115 (9000 * g + n) from fo 115 _ (by decide) (by decide)]; exact hk1.1, hk1.2, hr⟩
        · exact d' y hy
    · refine ⟨L, ?_, d'⟩
      rw [f 132 j (by omega)]; exact mc m
  · rw [fo 118 _ (by decide) (by decide), fo 119 _ (by decide) (by decide), fo 120 _ (by decide) (by decide)]; exact h.defs y a b
end M37

/-! THE REFERENCE, part 38: the reader's invariant -/
section M38
/-- what the reader may write -/
def rdW (g c j : Int) : Prop := (c = 109 ∧ (j = 21 ∨ (27 ≤ j ∧ j ≤ 32) ∨ (38 ≤ j ∧ j ≤ 44) ∨ j = 46 ∨ j = 51)) ∨ (115 ≤ c ∧ c ≤ 117 ∧ 9000 * g ≤ j ∧ j < 9000 * g + 9000) ∨ (118 ≤ c ∧ c ≤ 120 ∧ 16 * g ≤ j ∧ j < 16 * g + 16) ∨ (c = 121 ∧ 8 * g ≤ j ∧ j < 8 * g + 8) ∨ (c = 122 ∧ 3000 * g ≤ j ∧ j < 3000 * g + 3000) ∨ ((c = 123 ∨ c = 124) ∧ j = g) ∨ (125 ≤ c ∧ c ≤ 137)
def fRd (g : Int) (μ μ' : ab_m) : Prop := ∀ c j, ¬ rdW g c j → μ' c j = μ c j
theorem fRd.trans {g : Int} {μ μ1 μ2 : ab_m} (h : fRd g μ μ1) (h2 : fRd g μ1 μ2) : fRd g μ μ2 := fun c j q => (h2 c j q).trans (h c j q)
end M38
/-- what both passes keep -/
def rI (K : Int → Int) (W g : Int) (μ0 μ : ab_m) (s : aS) : Prop := (aK K W) ∧ (∀ i, μ 111 i = K i) ∧ (μ 109 43 = 0) ∧ (aR μ s) ∧ (aW W s) ∧ (μ 109 20 = g) ∧ (g = 0 ∨ g = 1) ∧ (μ 109 22 = 0 ∨ μ 109 22 = 1) ∧ (fRd g μ0 μ) ∧ (∀ j, 0 ≤ j → j < 16 → 0 ≤ μ 121 j ∧ μ 121 j ≤ 100)
theorem rI.kk {K : Int → Int} {W g : Int} {μ0 μ : ab_m} {s : aS} (h'' : rI K W g μ0 μ s) : aK K W := h''.1
theorem rI.K {K : Int → Int} {W g : Int} {μ0 μ : ab_m} {s : aS} (h'' : rI K W g μ0 μ s) : ∀ i, μ 111 i = K i := h''.2.1
theorem rI.ft {K : Int → Int} {W g : Int} {μ0 μ : ab_m} {s : aS} (h'' : rI K W g μ0 μ s) : μ 109 43 = 0 := h''.2.2.1
theorem rI.r {K : Int → Int} {W g : Int} {μ0 μ : ab_m} {s : aS} (h'' : rI K W g μ0 μ s) : aR μ s := h''.2.2.2.1
theorem rI.w {K : Int → Int} {W g : Int} {μ0 μ : ab_m} {s : aS} (h'' : rI K W g μ0 μ s) : aW W s := h''.2.2.2.2.1
theorem rI.hf {K : Int → Int} {W g : Int} {μ0 μ : ab_m} {s : aS} (h'' : rI K W g μ0 μ s) : μ 109 20 = g := h''.2.2.2.2.2.1
theorem rI.g01 {K : Int → Int} {W g : Int} {μ0 μ : ab_m} {s : aS} (h'' : rI K W g μ0 μ s) : g = 0 ∨ g = 1 := h''.2.2.2.2.2.2.1
theorem rI.p01 {K : Int → Int} {W g : Int} {μ0 μ : ab_m} {s : aS} (h'' : rI K W g μ0 μ s) : μ 109 22 = 0 ∨ μ 109 22 = 1 := h''.2.2.2.2.2.2.2.1
theorem rI.fr {K : Int → Int} {W g : Int} {μ0 μ : ab_m} {s : aS} (h'' : rI K W g μ0 μ s) : fRd g μ0 μ := h''.2.2.2.2.2.2.2.2.1
theorem rI.rs {K : Int → Int} {W g : Int} {μ0 μ : ab_m} {s : aS} (h'' : rI K W g μ0 μ s) : ∀ j, 0 ≤ j → j < 16 → 0 ≤ μ 121 j ∧ μ 121 j ≤ 100 := h''.2.2.2.2.2.2.2.2.2
section M38
/-- a row of ANDs and ORs below B -/
def mBu (μ : ab_m) (B : Int) : List Int → Int → Prop
  | [], k => k = -1
  | b :: r, k => 0 ≤ k ∧ k < B ∧ μ 137 k = b ∧ (b = 0 ∨ b = 1) ∧ mBu μ B r (μ 136 k)
theorem mBu.bl {μ : ab_m} {B : Int} (hB : B ≤ 3002) : ∀ {L : List Int} {k : Int}, mBu μ B L k → mBl μ L k
  | [], _, h => h
  | _ :: _, _, ⟨a, b, c, d, e⟩ => ⟨a, by omega, c, d, e.bl hB⟩
theorem mBu.same {μ μ' : ab_m} {B B' : Int} (hB : B ≤ B') (h : ∀ c j, (c = 136 ∨ c = 137) → j < B → μ' c j = μ c j) : ∀ {L : List Int} {k : Int}, mBu μ B L k → mBu μ' B' L k
  | [], _, h => h
  | _ :: _, k, ⟨a, b, c, d, e⟩ => ⟨a, by omega, by rw [h 137 k (Or.inr rfl) b]; exact c, d, by rw [h 136 k (Or.inl rfl) b]; exact e.same hB h⟩
def sW (f : Int → Nat) : Nat → Nat
  | 0 => 0
  | n + 1 => sW f n + f n
theorem sW_mono {f : Int → Nat} {a b : Nat} (h : a ≤ b) : sW f a ≤ sW f b := by
  induction h with
  | refl => exact Nat.le_refl _
  | step _ ih => exact Nat.le_trans ih (Nat.le_add_right _ _)
theorem sW_one {f f' : Int → Nat} {w : Int} {n : Nat} (hw : 0 ≤ w ∧ w < n) (h1 : f' w = f w + 1) (h2 : ∀ x, x ≠ w → f' x = f x) : sW f' n = sW f n + 1 := by
  have lo : ∀ m : Nat, (m : Int) ≤ w → sW f' m = sW f m := by
    intro m
    induction m with
    | zero => intro _; rfl
    | succ m ih => intro h; unfold sW; rw [ih (by omega), h2 m (by omega)]
  induction n with
  | zero => omega
  | succ n ih =>
    unfold sW
    by_cases e : w = n
    · rw [lo n (by omega), ← e, h1]; omega
    · rw [ih (by omega), h2 n (by omega)]; omega
theorem sW_same {f f' : Int → Nat} {n : Nat} (h : ∀ x, f' x = f x) : sW f' n = sW f n := by rw [show f' = f from funext h]
end M38
/-- pass 0: what was laid so far -/
def rZ (K : Int → Int) (W : Int) (s0 : aS) (μ : ab_m) (s : aS) (G : Int → List Int) : Prop := (∀ F, aRest K s F → aRest K s0 fun w => G w ++ F w) ∧ (∀ w, 0 ≤ w → w ≤ W → mBu μ (μ 109 51) ((G w).filter fun b => decide (b < 2)).reverse (μ 135 w)) ∧ (∀ w b, b ∈ G w → 2 ≤ b → b = 2 + μ 134 w) ∧ (∀ w, s.2.1 ≤ w → G w = []) ∧ (∀ e ∈ s.2.2.2, e.1 = 28 → ∀ b ∈ G e.2.2.1, b < 2) ∧ (0 ≤ μ 109 51) ∧ (2 * μ 109 51 + (if s.1 = 3 then 1 else 0) ≤ s.2.1) ∧ ((sW (cF G) (W + 1).toNat : Int) = μ 109 51)
theorem rZ.acc {K : Int → Int} {W : Int} {s0 : aS} {μ : ab_m} {s : aS} {G : Int → List Int} (h'' : rZ K W s0 μ s G) : ∀ F, aRest K s F → aRest K s0 fun w => G w ++ F w := h''.1
theorem rZ.tb {K : Int → Int} {W : Int} {s0 : aS} {μ : ab_m} {s : aS} {G : Int → List Int} (h'' : rZ K W s0 μ s G) : ∀ w, 0 ≤ w → w ≤ W → mBu μ (μ 109 51) ((G w).filter fun b => decide (b < 2)).reverse (μ 135 w) := h''.2.1
theorem rZ.xc {K : Int → Int} {W : Int} {s0 : aS} {μ : ab_m} {s : aS} {G : Int → List Int} (h'' : rZ K W s0 μ s G) : ∀ w b, b ∈ G w → 2 ≤ b → b = 2 + μ 134 w := h''.2.2.1
theorem rZ.nw {K : Int → Int} {W : Int} {s0 : aS} {μ : ab_m} {s : aS} {G : Int → List Int} (h'' : rZ K W s0 μ s G) : ∀ w, s.2.1 ≤ w → G w = [] := h''.2.2.2.1
theorem rZ.np {K : Int → Int} {W : Int} {s0 : aS} {μ : ab_m} {s : aS} {G : Int → List Int} (h'' : rZ K W s0 μ s G) : ∀ e ∈ s.2.2.2, e.1 = 28 → ∀ b ∈ G e.2.2.1, b < 2 := h''.2.2.2.2.1
theorem rZ.b0 {K : Int → Int} {W : Int} {s0 : aS} {μ : ab_m} {s : aS} {G : Int → List Int} (h'' : rZ K W s0 μ s G) : 0 ≤ μ 109 51 := h''.2.2.2.2.2.1
theorem rZ.bm {K : Int → Int} {W : Int} {s0 : aS} {μ : ab_m} {s : aS} {G : Int → List Int} (h'' : rZ K W s0 μ s G) : 2 * μ 109 51 + (if s.1 = 3 then 1 else 0) ≤ s.2.1 := h''.2.2.2.2.2.2.1
theorem rZ.sm {K : Int → Int} {W : Int} {s0 : aS} {μ : ab_m} {s : aS} {G : Int → List Int} (h'' : rZ K W s0 μ s G) : (sW (cF G) (W + 1).toNat : Int) = μ 109 51 := h''.2.2.2.2.2.2.2
section M38
/-- what is still to be laid by entries of the pile -/
def pEn : List aE → Int
  | [] => 0
  | e :: r => (if e.1 = 4 ∨ e.1 = 5 ∨ e.1 = 6 ∨ e.1 = 40 ∨ e.1 = 41 then 1 else 0) + pEn r
def pDo : List aE → Int
  | [] => 0
  | e :: r => (if e.1 = 7 then 1 else if e.1 = 20 then -1 else 0) + pDo r
theorem pEn0 : ∀ p : List aE, 0 ≤ pEn p
  | [] => Int.le_refl _
  | e :: r => by have := pEn0 r; unfold pEn; split <;> omega
/-- blocks begin at names in order; those below all blocks are declared -/
def nB (μ : ab_m) (E : tE) : List aE → Int → Prop
  | [], b => ∀ i, 0 ≤ i → i < b → μ 126 i = 0 → E.2.2.2.2.1 (μ 127 i)
  | e :: r, b => if e.1 = 1 ∨ e.1 = 2 ∨ e.1 = 3 then 0 ≤ μ 130 r.length ∧ μ 130 r.length ≤ b ∧ nB μ E r (μ 130 r.length) else nB μ E r b
end M38
/-- the names -/
def nmI (μ : ab_m) (g : Int) (Γ : tQ) (E : tE) (p : List aE) (n at' : Int) : Prop := (0 ≤ μ 109 27 ∧ μ 109 27 ≤ at') ∧ (0 ≤ μ 109 30 ∧ μ 109 30 ≤ at') ∧ (0 ≤ μ 123 g ∧ μ 123 g ≤ at') ∧ (0 ≤ μ 109 31 ∧ μ 109 31 ≤ 8) ∧ (0 ≤ μ 109 32 ∧ μ 109 32 ≤ 15) ∧ (∀ i, 0 ≤ i → i < μ 109 27 → (μ 126 i = 0 → 0 ≤ μ 127 i ∧ μ 127 i < μ 109 30 ∧ tOk E Γ n (μ 127 i)) ∧ (μ 126 i = 1 → 0 ≤ μ 127 i ∧ μ 127 i < 8) ∧ (μ 126 i = 2 → 0 ≤ μ 127 i ∧ μ 127 i < μ 109 32)) ∧ (nB μ E p (μ 109 27)) ∧ (∀ x, E.2.2.2.2.1 x → 0 ≤ x ∧ x < μ 109 30)
theorem nmI.nm {μ : ab_m} {g : Int} {Γ : tQ} {E : tE} {p : List aE} {n at' : Int} (h'' : nmI μ g Γ E p n at') : 0 ≤ μ 109 27 ∧ μ 109 27 ≤ at' := h''.1
theorem nmI.it {μ : ab_m} {g : Int} {Γ : tQ} {E : tE} {p : List aE} {n at' : Int} (h'' : nmI μ g Γ E p n at') : 0 ≤ μ 109 30 ∧ μ 109 30 ≤ at' := h''.2.1
theorem nmI.dm {μ : ab_m} {g : Int} {Γ : tQ} {E : tE} {p : List aE} {n at' : Int} (h'' : nmI μ g Γ E p n at') : 0 ≤ μ 123 g ∧ μ 123 g ≤ at' := h''.2.2.1
theorem nmI.rw {μ : ab_m} {g : Int} {Γ : tQ} {E : tE} {p : List aE} {n at' : Int} (h'' : nmI μ g Γ E p n at') : 0 ≤ μ 109 31 ∧ μ 109 31 ≤ 8 := h''.2.2.2.1
theorem nmI.dn {μ : ab_m} {g : Int} {Γ : tQ} {E : tE} {p : List aE} {n at' : Int} (h'' : nmI μ g Γ E p n at') : 0 ≤ μ 109 32 ∧ μ 109 32 ≤ 15 := h''.2.2.2.2.1
theorem nmI.nk {μ : ab_m} {g : Int} {Γ : tQ} {E : tE} {p : List aE} {n at' : Int} (h'' : nmI μ g Γ E p n at') : ∀ i, 0 ≤ i → i < μ 109 27 → (μ 126 i = 0 → 0 ≤ μ 127 i ∧ μ 127 i < μ 109 30 ∧ tOk E Γ n (μ 127 i)) ∧ (μ 126 i = 1 → 0 ≤ μ 127 i ∧ μ 127 i < 8) ∧ (μ 126 i = 2 → 0 ≤ μ 127 i ∧ μ 127 i < μ 109 32) := h''.2.2.2.2.2.1
theorem nmI.nb {μ : ab_m} {g : Int} {Γ : tQ} {E : tE} {p : List aE} {n at' : Int} (h'' : nmI μ g Γ E p n at') : nB μ E p (μ 109 27) := h''.2.2.2.2.2.2.1
theorem nmI.dc {μ : ab_m} {g : Int} {Γ : tQ} {E : tE} {p : List aE} {n at' : Int} (h'' : nmI μ g Γ E p n at') : ∀ x, E.2.2.2.2.1 x → 0 ≤ x ∧ x < μ 109 30 := h''.2.2.2.2.2.2.2
section M38
def sQ (F : Int → List Int) (s : aS) : List Int := if s.1 = 3 then oN (cF F s.2.2.1) ++ sP F s.2.2.2 else sP F s.2.2.2
def hQ (s : aS) : Int := hP s.2.2.2 + if s.1 = 3 then 1 else 0
end M38
/-- pass 1 -/
def rO (K : Int → Int) (W g : Int) (μ : ab_m) (s : aS) (Γ : tQ) (F : Int → List Int) (dd : Int) (Ln : Int → Nat) : Prop := (x1 μ g Γ dd s.2.2.2 (μ 109 21) (hQ s) (sQ F s) (μ 109 32) (pN μ g (qP s.2.2.2) s.2.2.2.length) (qP s.2.2.2)) ∧ (aRest K s F) ∧ (∀ w, s.2.1 ≤ w → w ≤ W → ∃ bs, mBl μ bs (μ 135 w) ∧ bs.length = Ln w ∧ cF F w = Ln w) ∧ (∀ w b, b ∈ F w → 2 ≤ b → b = 2 + μ 134 w) ∧ (sW Ln (W + 1).toNat ≤ 1500) ∧ (μ 109 21 + pEn s.2.2.2 ≤ 2 * s.2.1 + sW Ln s.2.1.toNat) ∧ (2 * Γ.2.2.1 (μ 109 21) ≤ s.2.1 + pDo s.2.2.2 + 2 * sW Ln s.2.1.toNat) ∧ (nmI μ g Γ (tEv μ g dd) s.2.2.2 (μ 109 21) s.2.1) ∧ ((bK s.2.2.2 = 3 → dd = μ 109 32 + 1 ∧ μ 109 32 < 15) ∧ (bK s.2.2.2 ≠ 3 → dd = μ 109 32)) ∧ (bK s.2.2.2 = 1 → 0 ≤ μ 124 g ∧ μ 124 g ≤ μ 109 21 ∧ Γ.2.2.2.1 (μ 124 g) = μ 109 32 ∧ Γ.1 (μ 124 g) = 0 ∧ Γ.2.1 (μ 124 g) = [] ∧ Γ.2.2.2.2 (μ 124 g) = μ 124 g) ∧ (s.2.2.2 = [] → Γ.2.2.2.2 (μ 109 21) = μ 109 21)
theorem rO.x {K : Int → Int} {W g : Int} {μ : ab_m} {s : aS} {Γ : tQ} {F : Int → List Int} {dd : Int} {Ln : Int → Nat} (h'' : rO K W g μ s Γ F dd Ln) : x1 μ g Γ dd s.2.2.2 (μ 109 21) (hQ s) (sQ F s) (μ 109 32) (pN μ g (qP s.2.2.2) s.2.2.2.length) (qP s.2.2.2) := h''.1
theorem rO.rest {K : Int → Int} {W g : Int} {μ : ab_m} {s : aS} {Γ : tQ} {F : Int → List Int} {dd : Int} {Ln : Int → Nat} (h'' : rO K W g μ s Γ F dd Ln) : aRest K s F := h''.2.1
theorem rO.tb {K : Int → Int} {W g : Int} {μ : ab_m} {s : aS} {Γ : tQ} {F : Int → List Int} {dd : Int} {Ln : Int → Nat} (h'' : rO K W g μ s Γ F dd Ln) : ∀ w, s.2.1 ≤ w → w ≤ W → ∃ bs, mBl μ bs (μ 135 w) ∧ bs.length = Ln w ∧ cF F w = Ln w := h''.2.2.1
theorem rO.xc {K : Int → Int} {W g : Int} {μ : ab_m} {s : aS} {Γ : tQ} {F : Int → List Int} {dd : Int} {Ln : Int → Nat} (h'' : rO K W g μ s Γ F dd Ln) : ∀ w b, b ∈ F w → 2 ≤ b → b = 2 + μ 134 w := h''.2.2.2.1
theorem rO.tot {K : Int → Int} {W g : Int} {μ : ab_m} {s : aS} {Γ : tQ} {F : Int → List Int} {dd : Int} {Ln : Int → Nat} (h'' : rO K W g μ s Γ F dd Ln) : sW Ln (W + 1).toNat ≤ 1500 := h''.2.2.2.2.1
theorem rO.bu {K : Int → Int} {W g : Int} {μ : ab_m} {s : aS} {Γ : tQ} {F : Int → List Int} {dd : Int} {Ln : Int → Nat} (h'' : rO K W g μ s Γ F dd Ln) : μ 109 21 + pEn s.2.2.2 ≤ 2 * s.2.1 + sW Ln s.2.1.toNat := h''.2.2.2.2.2.1
theorem rO.bw {K : Int → Int} {W g : Int} {μ : ab_m} {s : aS} {Γ : tQ} {F : Int → List Int} {dd : Int} {Ln : Int → Nat} (h'' : rO K W g μ s Γ F dd Ln) : 2 * Γ.2.2.1 (μ 109 21) ≤ s.2.1 + pDo s.2.2.2 + 2 * sW Ln s.2.1.toNat := h''.2.2.2.2.2.2.1
theorem rO.nm {K : Int → Int} {W g : Int} {μ : ab_m} {s : aS} {Γ : tQ} {F : Int → List Int} {dd : Int} {Ln : Int → Nat} (h'' : rO K W g μ s Γ F dd Ln) : nmI μ g Γ (tEv μ g dd) s.2.2.2 (μ 109 21) s.2.1 := h''.2.2.2.2.2.2.2.1
theorem rO.b3 {K : Int → Int} {W g : Int} {μ : ab_m} {s : aS} {Γ : tQ} {F : Int → List Int} {dd : Int} {Ln : Int → Nat} (h'' : rO K W g μ s Γ F dd Ln) : (bK s.2.2.2 = 3 → dd = μ 109 32 + 1 ∧ μ 109 32 < 15) ∧ (bK s.2.2.2 ≠ 3 → dd = μ 109 32) := h''.2.2.2.2.2.2.2.2.1
theorem rO.b1 {K : Int → Int} {W g : Int} {μ : ab_m} {s : aS} {Γ : tQ} {F : Int → List Int} {dd : Int} {Ln : Int → Nat} (h'' : rO K W g μ s Γ F dd Ln) : bK s.2.2.2 = 1 → 0 ≤ μ 124 g ∧ μ 124 g ≤ μ 109 21 ∧ Γ.2.2.2.1 (μ 124 g) = μ 109 32 ∧ Γ.1 (μ 124 g) = 0 ∧ Γ.2.1 (μ 124 g) = [] ∧ Γ.2.2.2.2 (μ 124 g) = μ 124 g := h''.2.2.2.2.2.2.2.2.2.1
theorem rO.z0 {K : Int → Int} {W g : Int} {μ : ab_m} {s : aS} {Γ : tQ} {F : Int → List Int} {dd : Int} {Ln : Int → Nat} (h'' : rO K W g μ s Γ F dd Ln) : s.2.2.2 = [] → Γ.2.2.2.2 (μ 109 21) = μ 109 21 := h''.2.2.2.2.2.2.2.2.2.2
section M38
end M38
/-- the reader stands at s -/
def J (K : Int → Int) (W g : Int) (s0 : aS) (μ0 μ : ab_m) (s : aS) : Prop := (rI K W g μ0 μ s) ∧ (μ 109 22 = 0 → ∃ G, rZ K W s0 μ s G) ∧ (μ 109 22 = 1 → ∃ Γ F dd Ln, rO K W g μ s Γ F dd Ln)
theorem J.i {K : Int → Int} {W g : Int} {s0 : aS} {μ0 μ : ab_m} {s : aS} (h'' : J K W g s0 μ0 μ s) : rI K W g μ0 μ s := h''.1
theorem J.z {K : Int → Int} {W g : Int} {s0 : aS} {μ0 μ : ab_m} {s : aS} (h'' : J K W g s0 μ0 μ s) : μ 109 22 = 0 → ∃ G, rZ K W s0 μ s G := h''.2.1
theorem J.o {K : Int → Int} {W g : Int} {s0 : aS} {μ0 μ : ab_m} {s : aS} (h'' : J K W g s0 μ0 μ s) : μ 109 22 = 1 → ∃ Γ F dd Ln, rO K W g μ s Γ F dd Ln := h''.2.2
section M38
variable {K : Int → Int} {W g : Int} {s0 : aS} {μ0 μ μ' : ab_m} {s s' : aS} {Γ Γ' : tQ} {F : Int → List Int} {dd : Int} {Ln : Int → Nat} {G : Int → List Int}
/-- pass 0: nothing is laid -/
theorem rZ.go (h : rZ K W s0 μ s G) (hi : rI K W g μ0 μ s) (e : aNext K s = some (s', none)) (f : ∀ c j, c = 134 ∨ c = 135 ∨ c = 136 ∨ c = 137 ∨ (c = 109 ∧ j = 51) → μ' c j = μ c j) : rZ K W s0 μ' s' G := by
  have q := aNext_q hi.kk hi.w _ _ e
  have e51 := f 109 51 (by omega)
  refine ⟨fun F a => h.acc F (aRest.go e a), fun w a b => ?_, fun w b hb h2 => by rw [f 134 _ (by omega)]; exact h.xc w b hb h2, fun w a => h.nw w (by have := q.le; omega), fun x hx hk b hb => ?_, by rw [e51]; exact h.b0, ?_, by rw [e51]; exact h.sm⟩
  · rw [e51, f 135 _ (by omega)]; exact (h.tb w a b).same (Int.le_refl _) fun c j hc _ => f c j (by omega)
  · rcases q.p28 x hx hk with a | ⟨y, hy, y1, y2⟩
    · rw [h.nw _ a] at hb; cases hb
    · exact h.np y hy y2 b (by rw [y1]; exact hb)
  · rw [e51]
    have := h.bm
    have := q.le
    have := q.m3
    split
    · next m => rcases q.m3 m with a | a
                · rw [if_pos a] at *; omega
                · split at * <;> omega
    · split at * <;> omega
/-- pass 0: a call was read with c arguments -/
theorem rZ.cnt {w c : Int} (h : rZ K W s0 μ s G) (hi : rI K W g μ0 μ s) (e : aNext K s = some (s', some (w, c + 2))) (hc : 0 ≤ c) (hw : ∀ b ∈ G w, b < 2) (hp : ∀ x ∈ s'.2.2.2, x.1 = 28 → x.2.2.1 ≠ w) (e4 : μ' 134 w = c) (f : ∀ a j, (a = 134 ∧ j ≠ w) ∨ a = 135 ∨ a = 136 ∨ a = 137 ∨ (a = 109 ∧ j = 51) → μ' a j = μ a j) : rZ K W s0 μ' s' fun x => if x = w then G x ++ [c + 2] else G x := by
  have q := aNext_q hi.kk hi.w _ _ e
  have e51 := f 109 51 (by omega)
  have l := q.lay w (c + 2) rfl
  have fl : ∀ x, ((if x = w then G x ++ [c + 2] else G x).filter fun b => decide (b < 2)) = (G x).filter fun b => decide (b < 2) := fun x => by
    split
    · rw [List.filter_append]; simp; omega
    · rfl
  refine ⟨fun F a => ?_, fun x a b => ?_, fun x b hb h2 => ?_, fun x a => ?_, fun x hx hk b hb => ?_, by rw [e51]; exact h.b0, ?_, ?_⟩
  all_goals (try dsimp only at *)
  · have := h.acc _ (aRest.reg e a)
    refine Eq.mp (congrArg (aRest K s0) (funext fun x => ?_)) this
    split <;> simp
  · rw [e51, f 135 _ (by omega)]
    rw [fl]
    exact (h.tb x a b).same (Int.le_refl _) fun c j hc _ => f c j (by omega)
  · split at hb
    · next ex =>
      subst ex
      rcases List.mem_append.mp hb with hb | hb
      · have := hw b hb; omega
      · have : b = c + 2 := by simpa using hb
        rw [this, e4]; omega
    · next ex => rw [f 134 _ (by omega)]; exact h.xc x b hb h2
  · rw [if_neg (by have := l.2.2.1; omega)]
    exact h.nw x (by have := q.le; omega)
  · rw [if_neg (hp x hx hk)] at hb
    rcases q.p28 x hx hk with a | ⟨y, hy, y1, y2⟩
    · rw [h.nw _ a] at hb; cases hb
    · exact h.np y hy y2 b (by rw [y1]; exact hb)
  · rw [e51]
    have := h.bm
    have := q.le
    have := q.m3
    split
    · next m => rcases q.m3 m with a | a
                · rw [if_pos a] at *; omega
                · split at * <;> omega
    · split at * <;> omega
  · rw [e51, ← h.sm]
    rw [sW_same (f' := cF fun x => if x = w then G x ++ [c + 2] else G x) (f := cF G) fun x => by unfold cF; rw [fl]]
/-- pass 0: an AND or OR is laid -/
theorem rZ.lay {w b : Int} (h : rZ K W s0 μ s G) (hi : rI K W g μ0 μ s) (e : aNext K s = some (s', some (w, b))) (hb : b = 0 ∨ b = 1) (e7 : μ' 137 (μ 109 51) = b) (e6 : μ' 136 (μ 109 51) = μ 135 w) (e5 : μ' 135 w = μ 109 51) (e1 : μ' 109 51 = μ 109 51 + 1) (f : ∀ a j, a = 134 ∨ (a = 135 ∧ j ≠ w) ∨ ((a = 136 ∨ a = 137) ∧ j ≠ μ 109 51) → μ' a j = μ a j) : rZ K W s0 μ' s' fun x => if x = w then G x ++ [b] else G x := by
  have q := aNext_q hi.kk hi.w _ _ e
  have l := q.lay w b rfl
  have lm := l.2.2.2.2 (by omega)
  have b0 := h.b0
  have fl : ((G w ++ [b]).filter fun b => decide (b < 2)) = ((G w).filter fun b => decide (b < 2)) ++ [b] := by
    rw [List.filter_append]
    congr 1
    simp
    omega
  refine ⟨fun F a => ?_, fun x a c => ?_, fun x c hc h2 => ?_, fun x a => ?_, fun x hx hk c hc => ?_, by omega, ?_, ?_⟩
  all_goals (try dsimp only at *)
  · have := h.acc _ (aRest.reg e a)
    refine Eq.mp (congrArg (aRest K s0) (funext fun x => ?_)) this
    split <;> simp
  · rw [e1]
    split
    · next ex =>
      subst ex
      rw [fl, List.reverse_append]
      show mBu _ _ (b :: _) _
      rw [e5]
      refine ⟨b0, by omega, e7, hb, ?_⟩
      rw [e6]
      exact (h.tb x a c).same (by omega) fun c j hc hj => f c j (by omega)
    · next ex =>
      rw [f 135 _ (by omega)]
      exact (h.tb x a c).same (by omega) fun c j hc hj => f c j (by omega)
  · rw [f 134 _ (by omega)]
    split at hc
    · rcases List.mem_append.mp hc with hc | hc
      · exact h.xc x c hc h2
      · have : c = b := by simpa using hc
        omega
    · exact h.xc x c hc h2
  · rw [if_neg (by have := l.2.2.1; omega)]
    exact h.nw x (by have := q.le; omega)
  · have old : ∀ c ∈ G x.w, c < 2 := fun c hc => by
      rcases q.p28 x hx hk with a | ⟨y, hy, y1, y2⟩
      · rw [h.nw _ a] at hc; cases hc
      · exact h.np y hy y2 c (by rw [y1]; exact hc)
    split at hc
    · rcases List.mem_append.mp hc with hc | hc
      · exact old c hc
      · have : c = b := by simpa using hc
        omega
    · exact old c hc
  · rw [e1]
    have := h.bm
    rw [if_pos lm.1] at this
    rw [if_neg (by omega)]
    omega
  · rw [e1, ← h.sm]
    have W0 := hi.kk.1
    have wW := q.w.atW
    rw [sW_one (f' := cF fun x => if x = w then G x ++ [b] else G x) (f := cF G) (w := w) ⟨l.2.1, by omega⟩ (by unfold cF; dsimp only; rw [if_pos rfl, fl]; simp) fun x hx => by unfold cF; dsimp only; rw [if_neg hx]]
    omega
end M38

/-! THE REFERENCE, part 39: how the reader's invariant goes on -/
section M39
variable {K : Int → Int} {W g : Int} {s0 : aS} {μ0 μ μ1 μ' : ab_m} {s s' : aS} {Γ Γ' : tQ} {F : Int → List Int} {dd : Int} {Ln : Int → Nat} {G : Int → List Int}
end M39
/-- a fault was found -/
def rFt (g : Int) (μ0 μ : ab_m) : Prop := (fRd g μ0 μ) ∧ (μ 109 39 = 5) ∧ (1 ≤ μ 109 43 ∧ μ 109 43 ≤ 6) ∧ (0 ≤ μ 109 44 ∧ μ 109 44 < 3002) ∧ (∀ j, 0 ≤ j → j < 16 → 0 ≤ μ 121 j ∧ μ 121 j ≤ 100)
theorem rFt.fr {g : Int} {μ0 μ : ab_m} (h'' : rFt g μ0 μ) : fRd g μ0 μ := h''.1
theorem rFt.m5 {g : Int} {μ0 μ : ab_m} (h'' : rFt g μ0 μ) : μ 109 39 = 5 := h''.2.1
theorem rFt.ft {g : Int} {μ0 μ : ab_m} (h'' : rFt g μ0 μ) : 1 ≤ μ 109 43 ∧ μ 109 43 ≤ 6 := h''.2.2.1
theorem rFt.fw {g : Int} {μ0 μ : ab_m} (h'' : rFt g μ0 μ) : 0 ≤ μ 109 44 ∧ μ 109 44 < 3002 := h''.2.2.2.1
theorem rFt.rs {g : Int} {μ0 μ : ab_m} (h'' : rFt g μ0 μ) : ∀ j, 0 ≤ j → j < 16 → 0 ≤ μ 121 j ∧ μ 121 j ≤ 100 := h''.2.2.2.2
section M39
variable {K : Int → Int} {W g : Int} {s0 : aS} {μ0 μ μ1 μ' : ab_m} {s s' : aS} {Γ Γ' : tQ} {F : Int → List Int} {dd : Int} {Ln : Int → Nat} {G : Int → List Int}
theorem rI.fault (h : rI K W g μ0 μ s) (f : fRd g μ μ1) (f1 : ∀ j, μ1 121 j = μ 121 j) (m : mFl μ1 μ') : rFt g μ0 μ' := by
  obtain ⟨m1, m2, m3, m4, m5, m6⟩ := m
  refine ⟨h.fr.trans (f.trans fun c j q => m1 c j fun w => q (Or.inl ?_)), m2, ⟨m3, m4⟩, ⟨m5, m6⟩, fun j a b => ?_⟩
  · exact ⟨w.1, by omega⟩
  · rw [m1 121 j (by omega), f1 j]; exact h.rs j a b
theorem rI.go {r : Option (Int × Int)} (h : rI K W g μ0 μ s) (e : aNext K s = some (s', r)) (f : fRd g μ μ') (f1 : ∀ j, 0 ≤ j → j < 16 → μ' 121 j = μ 121 j ∨ (0 ≤ μ' 121 j ∧ μ' 121 j ≤ 100)) (f3 : μ' 109 43 = μ 109 43) (hr : aR μ' s') : rI K W g μ0 μ' s' := by
  refine ⟨h.kk, fun i => ?_, by rw [f3]; exact h.ft, hr, (aNext_q h.kk h.w _ _ e).w, ?_, h.g01, ?_, h.fr.trans f, fun j a b => ?_⟩
  · rw [f 111 i (by unfold rdW; omega)]; exact h.K i
  · rw [f 109 20 (by unfold rdW; omega)]; exact h.hf
  · rw [f 109 22 (by unfold rdW; omega)]; exact h.p01
  · rcases f1 j a b with q | q
    · rw [q]; exact h.rs j a b
    · exact q
theorem nB.same {E E' : tE} (hD : ∀ x, E.2.2.2.2.1 x → E'.2.2.2.2.1 x) (h6 : ∀ i, μ' 126 i = μ 126 i ∧ μ' 127 i = μ 127 i) : ∀ {p : List aE} {b : Int}, nB μ E p b → (∀ i, 0 ≤ i → i < (p.length : Int) → μ' 130 i = μ 130 i) → nB μ' E' p b
  | [], b, h, _ => fun i a c d => by rw [(h6 i).2]; rw [(h6 i).1] at d; exact hD _ (h i a c d)
  | e :: r, b, h, hp => by
    have l : ((e :: r).length : Int) = r.length + 1 := by simp
    unfold nB at h ⊢
    rw [hp r.length (by omega) (by omega)]
    split at h
    · next q => rw [if_pos q]; exact ⟨h.1, h.2.1, h.2.2.same hD h6 fun i a c => hp i a (by omega)⟩
    · next q => rw [if_neg q]; exact h.same hD h6 fun i a c => hp i a (by omega)
/-- the names stay -/
theorem nmI.same {p p' : List aE} {n n' a a' : Int} (h : nmI μ g Γ (tEv μ g dd) p n a) (x : tX (tEv μ g dd) (tEv μ' g dd) Γ Γ' n) (hn0 : 0 ≤ n) (hn : n ≤ n') (hr : Γ'.2.2.2.1 n' = Γ.2.2.2.1 n) (r0 : 0 ≤ Γ.2.2.2.1 n) (f : ∀ c j, c = 126 ∨ c = 127 ∨ c = 123 ∨ (c = 109 ∧ (j = 30 ∨ j = 31 ∨ j = 32)) → μ' c j = μ c j) (fn : 0 ≤ μ' 109 27 ∧ μ' 109 27 ≤ μ 109 27) (hD : ∀ x, (tEv μ' g dd).2.2.2.2.1 x → (tEv μ g dd).2.2.2.2.1 x) (ha : a ≤ a') (hb : nB μ' (tEv μ' g dd) p' (μ' 109 27)) : nmI μ' g Γ' (tEv μ' g dd) p' n' a' := by
  have e0 := f 109 30 (by omega)
  have e1 := f 109 31 (by omega)
  have e2 := f 109 32 (by omega)
  have h1 := h.nm
  have h2 := h.it
  have h3 := h.dm
  refine ⟨⟨fn.1, by omega⟩, by rw [e0]; omega, by rw [f 123 g (by omega)]; omega, by rw [e1]; exact h.rw, by rw [e2]; exact h.dn, fun i i0 i1 => ?_, hb, fun y hy => by rw [e0]; exact h.dc y (hD y hy)⟩
  obtain ⟨k0, k1, k2⟩ := h.nk i i0 (by omega)
  rw [f 126 i (by omega), f 127 i (by omega), e0, e2]
  refine ⟨fun q => ⟨(k0 q).1, (k0 q).2.1, ?_⟩, k1, k2⟩
  have gr := (x.G n hn0 (Int.le_refl _)).2.2.2.1
  exact (x.ok ⟨hn0, Int.le_refl _⟩ r0 (k0 q).2.2).up hn (by rw [hr, gr])
/-- how tables stay -/
theorem rO.tbs (h : rO K W g μ s Γ F dd Ln) (ft : ∀ c j, c = 134 ∨ c = 135 ∨ c = 136 ∨ c = 137 → μ' c j = μ c j) {a : Int} (ha : s.2.1 ≤ a) : ∀ w, a ≤ w → w ≤ W → ∃ bs, mBl μ' bs (μ' 135 w) ∧ bs.length = Ln w ∧ cF F w = Ln w := fun w a1 a2 => by
  obtain ⟨bs, b1, b2⟩ := h.tb w (by omega) a2
  exact ⟨bs, by rw [ft 135 w (by omega)]; exact b1.same fun c j hc => ft c j (by omega), b2⟩
/-- a turn of pass 1 that lays no word -/
theorem rO.fin {pd : Int → Prop} (h : rO K W g μ s Γ F dd Ln) (hi : rI K W g μ0 μ s) (e : aNext K s = some (s', none)) (x' : x1 μ' g Γ' dd s'.2.2.2 (μ' 109 21) (hQ s') (sQ F s') (μ' 109 32) pd (qP s'.2.2.2)) (hpd : ∀ k, 0 ≤ k → k < μ' 109 21 → tGo (μ' 115 (9000 * g + k)) → pd k → pN μ' g (qP s'.2.2.2) s'.2.2.2.length k ∨ tJ (tEv μ' g dd) Γ' (μ' 109 21) k) (ft : ∀ c j, c = 134 ∨ c = 135 ∨ c = 136 ∨ c = 137 → μ' c j = μ c j) (bu : μ' 109 21 + pEn s'.2.2.2 ≤ 2 * s'.2.1 + sW Ln s'.2.1.toNat) (bw : 2 * Γ'.2.2.1 (μ' 109 21) ≤ s'.2.1 + pDo s'.2.2.2 + 2 * sW Ln s'.2.1.toNat) (nm : nmI μ' g Γ' (tEv μ' g dd) s'.2.2.2 (μ' 109 21) s'.2.1) (f : μ' 109 32 = μ 109 32 ∧ μ' 124 g = μ 124 g) (bk : bK s'.2.2.2 = bK s.2.2.2) (Gk : ∀ j, 0 ≤ j → j ≤ μ 109 21 → tQe Γ Γ' j) (hn : μ 109 21 ≤ μ' 109 21) (ne : s'.2.2.2 ≠ []) : rO K W g μ' s' Γ' F dd Ln := by
  obtain ⟨F', r', eF⟩ := h.rest.next e
  have eF : F = F' := eF
  subst eF
  refine ⟨x'.more hpd, r', h.tbs ft (aNext_q hi.kk hi.w _ _ e).le, fun w b hb h2 => by rw [ft 134 w (by omega)]; exact h.xc w b hb h2, h.tot, bu, bw, nm, by rw [bk, f.1]; exact h.b3, fun q => ?_, fun q => absurd q ne⟩
  rw [bk] at q
  obtain ⟨b1, b2, b3, b4, b5, b6⟩ := h.b1 q
  obtain ⟨g1, g2, g3, g4, g5⟩ := Gk _ b1 b2
  rw [f.1, f.2]
  exact ⟨b1, by omega, by rw [g4]; exact b3, by rw [g1]; exact b4, by rw [g2]; exact b5, by rw [g5]; exact b6⟩
/-- steps that may still be laid -/
theorem rO.room (h : rO K W g μ s Γ F dd Ln) (hi : rI K W g μ0 μ s) : μ 109 21 + pEn s.2.2.2 ≤ 7500 ∧ (sW Ln s.2.1.toNat : Int) ≤ 1500 := by
  have := h.bu
  have := h.tot
  have := hi.w.atW
  have := hi.w.at0
  have := hi.kk.2.1
  have : sW Ln s.2.1.toNat ≤ sW Ln (W + 1).toNat := sW_mono (by omega)
  omega
theorem sW_at {a b : Int} (h0 : 0 ≤ a) (h : a ≤ b) : (sW Ln a.toNat : Int) ≤ sW Ln b.toNat := by
  have := sW_mono (f := Ln) (show a.toNat ≤ b.toNat by omega)
  omega
theorem sW_1 {a b : Int} (h0 : 0 ≤ a) (h : a < b) : (sW Ln a.toNat : Int) + Ln a ≤ sW Ln b.toNat := by
  have : sW Ln a.toNat + Ln (a.toNat : Int) ≤ sW Ln b.toNat := sW_mono (f := Ln) (show a.toNat + 1 ≤ b.toNat by omega)
  rw [Int.toNat_of_nonneg h0] at this
  omega
end M39

