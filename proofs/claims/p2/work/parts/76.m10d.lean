/-! THE REFERENCE, part 66: readDef -/
section M66
variable {X : jm_X} {d : Nat} {P : Int → ab_m → Prop} {K : Int → Int} {W g : Int} {s0 : aS} {μ0 μ ν ν' : ab_m} {s s' : aS} {Γ Γ' : tQ} {F F' : Int → List Int} {dd : Int} {Ln : Int → Nat} {G : Int → List Int} {a k n : Int} {many : Int} {e : aE}
theorem c_R_opens (h0 : ν 109 43 = 0) (ha : 0 ≤ ν 109 40 ∧ ν 109 40 < 3002) (h1 : ∀ ν', mF1 41 ν ν' → P 1 ν') (hF : ∀ ν', mFl ν ν' → P 0 ν') : jj_mM_opens X (d + 1) 0 (ab_la [109]) [] ν P :=
  bk_mM_opens_0 rfl ⟨fun _ ν1 e => h1 ν1 (by rw [e]; exact mF1.mu), fun _ => c_mM_fail h0 (by decide) ha hF⟩
theorem c_R_takeOpen (h0 : ν 109 43 = 0) (ha : 0 ≤ ν 109 40 ∧ ν 109 40 < 3002) (h1 : ν 111 (ν 109 40) = k → ∀ ν', (∀ c j, ¬ (c = 109 ∧ (j = 40 ∨ j = 41)) → ν' c j = ν c j) → ν' 109 40 = ν 109 40 + 1 → P 1 ν') (hF : ∀ ν', mFl ν ν' → P 0 ν') : jj_mM_takeOpen X (d + 2) 0 (ab_la [109, k]) [] ν P := by
  refine bk_mM_takeOpen_0 rfl ⟨ha, fun q => c_R_opens h0 ha (fun ν1 f1 => ⟨fun _ ν4 e4 => ?_, fun w => absurd w (by decide)⟩) (fun ν1 f1 => ⟨fun w => absurd rfl w, fun _ => hF ν1 f1⟩), fun _ => c_mM_misfit h0 ha hF⟩
  have g : ν1 109 40 = ν 109 40 := f1 109 40 (by omega)
  refine h1 q ν4 (fun c j z => ?_) ?_
  · rw [e4, ab_mud, if_neg (by omega)]; exact f1 c j (by omega)
  · rw [e4, ab_mud, if_pos ⟨rfl, rfl⟩, g]; exact ab_wi (by omega) (by omega)
theorem c_R_takeClose (h0 : ν 109 43 = 0) (ha : 0 ≤ ν 109 40 ∧ ν 109 40 < 3002) (h1 : ν 111 (ν 109 40) = k → ∀ ν', (∀ c j, ¬ (c = 109 ∧ (j = 40 ∨ j = 41)) → ν' c j = ν c j) → ν' 109 40 = ν 109 40 + 1 → P 1 ν') (hF : ∀ ν', mFl ν ν' → P 0 ν') : jj_mM_takeClose X (d + 3) 0 (ab_la [109, k]) [] ν P := by
  refine bk_mM_takeClose_0 rfl ?_
  refine c_mM_take h0 ha (fun q ν1 f1 e1 => ⟨fun _ ν4 e4 => ?_, fun w => absurd w (by decide)⟩) (fun ν1 f1 => ⟨fun w => absurd rfl w, fun _ => hF ν1 f1⟩)
  refine h1 q ν4 (fun c j z => ?_) ?_
  · rw [e4, ab_mud, if_neg (by omega)]; exact f1 c j (by omega)
  · rw [e4, ab_mud, if_neg (by omega)]; exact e1
end M66
/-- a def's list is being read -/
def dL (W g : Int) (μ : ab_m) (s : aS) (ν : ab_m) (a many : Int) : Prop := (fRd g μ ν) ∧ (ν 109 40 = a) ∧ (s.2.1 + 3 + many ≤ a) ∧ (a ≤ W) ∧ (ν 109 39 = 0) ∧ (ν 109 38 = 1) ∧ (ν 129 0 = 3 ∧ ν 130 0 = μ 109 27 ∧ ν 132 0 = -1 ∧ ν 133 0 = s.2.1 + 1) ∧ (ν 109 43 = 0) ∧ (∀ c j, c = 134 ∨ c = 135 ∨ c = 136 ∨ c = 137 ∨ (c = 109 ∧ j = 51) → ν c j = μ c j) ∧ (∀ j, ν 121 j = μ 121 j) ∧ (∀ c j, (115 ≤ c ∧ c ≤ 118) ∨ c = 120 ∨ (122 ≤ c ∧ c ≤ 124) ∨ (c = 109 ∧ (j = 21 ∨ j = 31 ∨ j = 32)) ∨ (c = 119 ∧ j ≠ 16 * g + μ 109 32) → ν c j = μ c j) ∧ (0 ≤ many) ∧ (μ 109 22 = 1 → many ≤ 6 ∧ ν 109 27 = μ 109 27 + many ∧ ν 109 30 = μ 109 30 + many ∧ ν 119 (16 * g + μ 109 32) = μ 109 30 ∧ (∀ i, 0 ≤ i → i < μ 109 27 → ν 126 i = μ 126 i ∧ ν 127 i = μ 127 i) ∧ ∀ i, μ 109 27 ≤ i → i < μ 109 27 + many → ν 126 i = 0 ∧ ν 127 i = μ 109 30 + (i - μ 109 27))
theorem dL.fr {W g : Int} {μ : ab_m} {s : aS} {ν : ab_m} {a many : Int} (h'' : dL W g μ s ν a many) : fRd g μ ν := h''.1
theorem dL.at' {W g : Int} {μ : ab_m} {s : aS} {ν : ab_m} {a many : Int} (h'' : dL W g μ s ν a many) : ν 109 40 = a := h''.2.1
theorem dL.ge {W g : Int} {μ : ab_m} {s : aS} {ν : ab_m} {a many : Int} (h'' : dL W g μ s ν a many) : s.2.1 + 3 + many ≤ a := h''.2.2.1
theorem dL.le {W g : Int} {μ : ab_m} {s : aS} {ν : ab_m} {a many : Int} (h'' : dL W g μ s ν a many) : a ≤ W := h''.2.2.2.1
theorem dL.md {W g : Int} {μ : ab_m} {s : aS} {ν : ab_m} {a many : Int} (h'' : dL W g μ s ν a many) : ν 109 39 = 0 := h''.2.2.2.2.1
theorem dL.ln {W g : Int} {μ : ab_m} {s : aS} {ν : ab_m} {a many : Int} (h'' : dL W g μ s ν a many) : ν 109 38 = 1 := h''.2.2.2.2.2.1
theorem dL.pl {W g : Int} {μ : ab_m} {s : aS} {ν : ab_m} {a many : Int} (h'' : dL W g μ s ν a many) : ν 129 0 = 3 ∧ ν 130 0 = μ 109 27 ∧ ν 132 0 = -1 ∧ ν 133 0 = s.2.1 + 1 := h''.2.2.2.2.2.2.1
theorem dL.ft {W g : Int} {μ : ab_m} {s : aS} {ν : ab_m} {a many : Int} (h'' : dL W g μ s ν a many) : ν 109 43 = 0 := h''.2.2.2.2.2.2.2.1
theorem dL.tb {W g : Int} {μ : ab_m} {s : aS} {ν : ab_m} {a many : Int} (h'' : dL W g μ s ν a many) : ∀ c j, c = 134 ∨ c = 135 ∨ c = 136 ∨ c = 137 ∨ (c = 109 ∧ j = 51) → ν c j = μ c j := h''.2.2.2.2.2.2.2.2.1
theorem dL.rs {W g : Int} {μ : ab_m} {s : aS} {ν : ab_m} {a many : Int} (h'' : dL W g μ s ν a many) : ∀ j, ν 121 j = μ 121 j := h''.2.2.2.2.2.2.2.2.2.1
theorem dL.nf {W g : Int} {μ : ab_m} {s : aS} {ν : ab_m} {a many : Int} (h'' : dL W g μ s ν a many) : ∀ c j, (115 ≤ c ∧ c ≤ 118) ∨ c = 120 ∨ (122 ≤ c ∧ c ≤ 124) ∨ (c = 109 ∧ (j = 21 ∨ j = 31 ∨ j = 32)) ∨ (c = 119 ∧ j ≠ 16 * g + μ 109 32) → ν c j = μ c j := h''.2.2.2.2.2.2.2.2.2.2.1
theorem dL.mn {W g : Int} {μ : ab_m} {s : aS} {ν : ab_m} {a many : Int} (h'' : dL W g μ s ν a many) : 0 ≤ many := h''.2.2.2.2.2.2.2.2.2.2.2.1
theorem dL.one {W g : Int} {μ : ab_m} {s : aS} {ν : ab_m} {a many : Int} (h'' : dL W g μ s ν a many) : μ 109 22 = 1 → many ≤ 6 ∧ ν 109 27 = μ 109 27 + many ∧ ν 109 30 = μ 109 30 + many ∧ ν 119 (16 * g + μ 109 32) = μ 109 30 ∧ (∀ i, 0 ≤ i → i < μ 109 27 → ν 126 i = μ 126 i ∧ ν 127 i = μ 127 i) ∧ ∀ i, μ 109 27 ≤ i → i < μ 109 27 + many → ν 126 i = 0 ∧ ν 127 i = μ 109 30 + (i - μ 109 27) := h''.2.2.2.2.2.2.2.2.2.2.2.2
section M66
variable {X : jm_X} {d : Nat} {P : Int → ab_m → Prop} {K : Int → Int} {W g : Int} {s0 : aS} {μ0 μ ν ν' : ab_m} {s s' : aS} {Γ Γ' : tQ} {F F' : Int → List Int} {dd : Int} {Ln : Int → Nat} {G : Int → List Int} {a k n : Int} {many : Int} {e : aE}
/-- fields alone -/
theorem dL.fld {a' : Int} (u : dL W g μ s ν a many) (f : ∀ c j, ¬ (c = 109 ∧ (j = 40 ∨ j = 41)) → ν' c j = ν c j) (h : ν' 109 40 = a') (ge : a ≤ a') (le : a' ≤ W) : dL W g μ s ν' a' many :=
  ⟨fun c j z => (f c j fun y => z (by unfold rdW; omega)).trans (u.fr c j z), h, by have := u.ge; omega, le, by rw [f 109 39 (by omega)]; exact u.md, by rw [f 109 38 (by omega)]; exact u.ln, by rw [f 129 0 (by omega), f 130 0 (by omega), f 132 0 (by omega), f 133 0 (by omega)]; exact u.pl, by rw [f 109 43 (by omega)]; exact u.ft, fun c j z => by rw [f c j (by omega)]; exact u.tb c j z, fun j => by rw [f 121 j (by omega)]; exact u.rs j, fun c j z => by rw [f c j (by omega)]; exact u.nf c j z, u.mn, fun w => by
    obtain ⟨o1, o2, o3, o4, o5, o6⟩ := u.one w
    exact ⟨o1, by rw [f 109 27 (by omega)]; exact o2, by rw [f 109 30 (by omega)]; exact o3, by rw [f 119 _ (by omega)]; exact o4, fun i x y => by rw [f 126 i (by omega), f 127 i (by omega)]; exact o5 i x y, fun i x y => by rw [f 126 i (by omega), f 127 i (by omega)]; exact o6 i x y⟩⟩
/-- one more of the list, pass 1 -/
theorem dL.add (u : dL W g μ s ν a many) (w : μ 109 22 = 1) (h27 : 0 ≤ μ 109 27) (h6 : many ≠ 6) (n4 : uN ν ν') {ν9 : ab_m} (e9 : ν9 = ab_mu ν' 109 40 (a + 1)) (le : a + 1 ≤ W) : dL W g μ s ν9 (a + 1) (many + 1) := by
  obtain ⟨o1, o2, o3, o4, o5, o6⟩ := u.one w
  have ge := u.ge
  have mn := u.mn
  have f : ∀ c j, ¬ (125 ≤ c ∧ c ≤ 128 ∧ j = ν 109 27) → ¬ (c = 109 ∧ (j = 27 ∨ j = 30 ∨ j = 40)) → ν9 c j = ν c j := fun c j z1 z2 => by rw [e9, ab_mud, if_neg (by omega)]; exact n4.f c j z1 (by omega)
  refine ⟨fun c j z => (f c j (fun y => z (by unfold rdW; omega)) (fun y => z (by unfold rdW; omega))).trans (u.fr c j z), by rw [e9, ab_mud, if_pos ⟨rfl, rfl⟩], by omega, le, by rw [f 109 39 (by omega) (by omega)]; exact u.md, by rw [f 109 38 (by omega) (by omega)]; exact u.ln, by rw [f 129 0 (by omega) (by omega), f 130 0 (by omega) (by omega), f 132 0 (by omega) (by omega), f 133 0 (by omega) (by omega)]; exact u.pl, by rw [f 109 43 (by omega) (by omega)]; exact u.ft, fun c j z => by rw [f c j (by omega) (by omega)]; exact u.tb c j z, fun j => by rw [f 121 j (by omega) (by omega)]; exact u.rs j, fun c j z => by rw [f c j (by omega) (by omega)]; exact u.nf c j z, by omega, fun _ => ⟨by omega, ?_, ?_, by rw [f 119 _ (by omega) (by omega)]; exact o4, fun i x y => by rw [f 126 i (by omega) (by omega), f 127 i (by omega) (by omega)]; exact o5 i x y, fun i x y => ?_⟩⟩
  · rw [e9, ab_mud, if_neg (by omega), n4.n]; omega
  · rw [e9, ab_mud, if_neg (by omega), n4.i]; omega
  · by_cases ei : i = ν 109 27
    · subst ei
      rw [e9, ab_mud, if_neg (by omega), ab_mud, if_neg (by omega), n4.k, n4.o]
      exact ⟨rfl, by omega⟩
    · rw [f 126 i (by omega) (by omega), f 127 i (by omega) (by omega)]; exact o6 i x (by omega)
/-- a def begins -/
theorem x1.newDef {hh : Int} (h : x1 μ g Γ dd [] n 0 [] dd (fun _ => False) hh) (fS : ∀ j, 0 ≤ j → j < n → ν 115 (9000 * g + j) = μ 115 (9000 * g + j)) (fT : ∀ j, 0 ≤ j → j < n → ν 116 (9000 * g + j) = μ 116 (9000 * g + j)) (fd : ∀ c x, c = 118 ∨ c = 119 ∨ c = 120 → 0 ≤ x → x < dd → ν c (16 * g + x) = μ c (16 * g + x)) (hD : ∀ y, (tEv μ g dd).2.2.2.2.1 y → (tEv ν g (dd + 1)).2.2.2.2.1 y) (am : aM ν 0 e) (ek : e.1 = 3) (c3 : ν 132 0 = -1) (d0 : 0 ≤ dd) (s1 : ν 118 (16 * g + dd) = n) (z0 : Γ.2.2.2.2 n = n) (l1 : 0 ≤ ν 120 (16 * g + dd) ∧ ν 120 (16 * g + dd) ≤ 6 ∧ 0 ≤ ν 119 (16 * g + dd) ∧ ν 119 (16 * g + dd) + ν 120 (16 * g + dd) ≤ 3002) : x1 ν g Γ (dd + 1) [e] n 0 [] dd (fun _ => False) (-1) := by
  have G : ∀ j, 0 ≤ j → j ≤ n → tQe Γ Γ j := fun _ _ _ => ⟨rfl, rfl, rfl, rfl, rfl⟩
  have x : tX (tEv μ g dd) (tEv ν g (dd + 1)) Γ Γ n := ⟨fS, fun j a b _ => fT j a b, G, by show dd ≤ dd + 1; omega, fun y y0 y1 => ⟨fd 120 y (by omega) y0 y1, fd 119 y (by omega) y0 y1⟩, hD⟩
  have n0 := h.n0
  have k3 : ν 129 0 = 3 := by rw [← ek]; exact am.1
  refine ⟨n0, fun k a b => ?_, h.ch, h.cs, h.cr, h.base, fun k a b => by rw [fS k a b]; exact h.ns k a b, ⟨am, trivial⟩, ⟨eF_n (by omega), trivial⟩, ⟨fun i a b z => ?_, fun i a b c z => ?_, fun i a b z => ⟨[], ?_, fun y hy => by cases hy⟩⟩, fun y a b => ?_, Or.inr rfl⟩
  · obtain ⟨h1, h2⟩ := h.flat k a b
    refine ⟨x.k ⟨a, b⟩ (h.tr a (by omega)).r0 h1, fun go => ?_⟩
    have eS : (tEv ν g (dd + 1)).1 k = (tEv μ g dd).1 k := fS k a b
    rw [eS] at go
    rcases h2 go with h3 | h3
    · exact h3.elim
    · refine Or.inr ?_
      unfold tJ
      rw [eS, show (tEv ν g (dd + 1)).2.1 k = (tEv μ g dd).2.1 k from fT k a b]
      exact x.jt (Int.le_refl _) ⟨a, b⟩ h3
  · have : i = 0 := by simp at b; omega
    subst this; omega
  · have : i = 0 := by simp at b; omega
    subst this; omega
  · have : i = 0 := by simp at b; omega
    subst this; rw [c3]; exact mCh_nil
  · by_cases ey : y = dd
    · subst ey
      rw [s1]
      exact ⟨n0, Int.le_refl _, h.cr, h.ch, h.cs, z0, l1⟩
    · rw [fd 118 y (by omega) a (by omega), fd 119 y (by omega) a (by omega), fd 120 y (by omega) a (by omega)]
      exact h.defs y a (by omega)
end M66

