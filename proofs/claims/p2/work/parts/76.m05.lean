/-! THE REFERENCE, part 40: a walk through one of the reader's methods -/
section M40
end M40
/-- from μ the walk came to ν: word a, mode m, operand o, pile p (the lowest kp entries are μ's), k steps more, wv openings more -/
def V (g : Int) (μ : ab_m) (Γ : tQ) (dd : Int) (ν : ab_m) (a m o : Int) (p : List aE) (kp k wv hh : Int) (ss : List Int) (ex : Int → Prop) (q : Int) : Prop := (fRd g μ ν) ∧ (ν 109 40 = a) ∧ (ν 109 39 = m) ∧ (ν 109 46 = o) ∧ (ν 109 38 = p.length) ∧ (aP ν p) ∧ (ν 109 43 = 0) ∧ (∀ c j, c = 134 ∨ c = 135 ∨ c = 136 ∨ c = 137 ∨ (c = 109 ∧ j = 51) → ν c j = μ c j) ∧ (∀ j, ν 121 j = μ 121 j) ∧ (∀ c j, (118 ≤ c ∧ c ≤ 120) ∨ (122 ≤ c ∧ c ≤ 124) ∨ c = 126 ∨ c = 127 ∨ (c = 109 ∧ (j = 27 ∨ j = 30 ∨ j = 31 ∨ j = 32)) → ν c j = μ c j) ∧ (∀ i, 0 ≤ i → i < kp → ν 130 i = μ 130 i) ∧ (μ 109 20 = g) ∧ (∀ j, 0 ≤ j → j < μ 109 21 → ν 115 (9000 * g + j) = μ 115 (9000 * g + j) ∧ (¬ tGo (μ 115 (9000 * g + j)) → ν 116 (9000 * g + j) = μ 116 (9000 * g + j))) ∧ (μ 109 22 = 1 → ∃ Γ', x1 ν g Γ' dd p (μ 109 21 + k) hh ss (μ 109 32) (fun j => pN ν g q p.length j ∨ ex j) q ∧ ν 109 21 = μ 109 21 + k ∧ (∀ j, 0 ≤ j → j ≤ μ 109 21 → tQe Γ Γ' j) ∧ Γ'.2.2.1 (μ 109 21 + k) = Γ.2.2.1 (μ 109 21) + wv)
theorem V.fr {g : Int} {μ : ab_m} {Γ : tQ} {dd : Int} {ν : ab_m} {a m o : Int} {p : List aE} {kp k wv hh : Int} {ss : List Int} {ex : Int → Prop} {q : Int} (h'' : V g μ Γ dd ν a m o p kp k wv hh ss ex q) : fRd g μ ν := h''.1
theorem V.at' {g : Int} {μ : ab_m} {Γ : tQ} {dd : Int} {ν : ab_m} {a m o : Int} {p : List aE} {kp k wv hh : Int} {ss : List Int} {ex : Int → Prop} {q : Int} (h'' : V g μ Γ dd ν a m o p kp k wv hh ss ex q) : ν 109 40 = a := h''.2.1
theorem V.md {g : Int} {μ : ab_m} {Γ : tQ} {dd : Int} {ν : ab_m} {a m o : Int} {p : List aE} {kp k wv hh : Int} {ss : List Int} {ex : Int → Prop} {q : Int} (h'' : V g μ Γ dd ν a m o p kp k wv hh ss ex q) : ν 109 39 = m := h''.2.2.1
theorem V.op {g : Int} {μ : ab_m} {Γ : tQ} {dd : Int} {ν : ab_m} {a m o : Int} {p : List aE} {kp k wv hh : Int} {ss : List Int} {ex : Int → Prop} {q : Int} (h'' : V g μ Γ dd ν a m o p kp k wv hh ss ex q) : ν 109 46 = o := h''.2.2.2.1
theorem V.ln {g : Int} {μ : ab_m} {Γ : tQ} {dd : Int} {ν : ab_m} {a m o : Int} {p : List aE} {kp k wv hh : Int} {ss : List Int} {ex : Int → Prop} {q : Int} (h'' : V g μ Γ dd ν a m o p kp k wv hh ss ex q) : ν 109 38 = p.length := h''.2.2.2.2.1
theorem V.ap {g : Int} {μ : ab_m} {Γ : tQ} {dd : Int} {ν : ab_m} {a m o : Int} {p : List aE} {kp k wv hh : Int} {ss : List Int} {ex : Int → Prop} {q : Int} (h'' : V g μ Γ dd ν a m o p kp k wv hh ss ex q) : aP ν p := h''.2.2.2.2.2.1
theorem V.ft {g : Int} {μ : ab_m} {Γ : tQ} {dd : Int} {ν : ab_m} {a m o : Int} {p : List aE} {kp k wv hh : Int} {ss : List Int} {ex : Int → Prop} {q : Int} (h'' : V g μ Γ dd ν a m o p kp k wv hh ss ex q) : ν 109 43 = 0 := h''.2.2.2.2.2.2.1
theorem V.tb {g : Int} {μ : ab_m} {Γ : tQ} {dd : Int} {ν : ab_m} {a m o : Int} {p : List aE} {kp k wv hh : Int} {ss : List Int} {ex : Int → Prop} {q : Int} (h'' : V g μ Γ dd ν a m o p kp k wv hh ss ex q) : ∀ c j, c = 134 ∨ c = 135 ∨ c = 136 ∨ c = 137 ∨ (c = 109 ∧ j = 51) → ν c j = μ c j := h''.2.2.2.2.2.2.2.1
theorem V.rs {g : Int} {μ : ab_m} {Γ : tQ} {dd : Int} {ν : ab_m} {a m o : Int} {p : List aE} {kp k wv hh : Int} {ss : List Int} {ex : Int → Prop} {q : Int} (h'' : V g μ Γ dd ν a m o p kp k wv hh ss ex q) : ∀ j, ν 121 j = μ 121 j := h''.2.2.2.2.2.2.2.2.1
theorem V.nf {g : Int} {μ : ab_m} {Γ : tQ} {dd : Int} {ν : ab_m} {a m o : Int} {p : List aE} {kp k wv hh : Int} {ss : List Int} {ex : Int → Prop} {q : Int} (h'' : V g μ Γ dd ν a m o p kp k wv hh ss ex q) : ∀ c j, (118 ≤ c ∧ c ≤ 120) ∨ (122 ≤ c ∧ c ≤ 124) ∨ c = 126 ∨ c = 127 ∨ (c = 109 ∧ (j = 27 ∨ j = 30 ∨ j = 31 ∨ j = 32)) → ν c j = μ c j := h''.2.2.2.2.2.2.2.2.2.1
theorem V.kp {g : Int} {μ : ab_m} {Γ : tQ} {dd : Int} {ν : ab_m} {a m o : Int} {p : List aE} {kp k wv hh : Int} {ss : List Int} {ex : Int → Prop} {q : Int} (h'' : V g μ Γ dd ν a m o p kp k wv hh ss ex q) : ∀ i, 0 ≤ i → i < kp → ν 130 i = μ 130 i := h''.2.2.2.2.2.2.2.2.2.2.1
theorem V.hf {g : Int} {μ : ab_m} {Γ : tQ} {dd : Int} {ν : ab_m} {a m o : Int} {p : List aE} {kp k wv hh : Int} {ss : List Int} {ex : Int → Prop} {q : Int} (h'' : V g μ Γ dd ν a m o p kp k wv hh ss ex q) : μ 109 20 = g := h''.2.2.2.2.2.2.2.2.2.2.2.1
theorem V.tx {g : Int} {μ : ab_m} {Γ : tQ} {dd : Int} {ν : ab_m} {a m o : Int} {p : List aE} {kp k wv hh : Int} {ss : List Int} {ex : Int → Prop} {q : Int} (h'' : V g μ Γ dd ν a m o p kp k wv hh ss ex q) : ∀ j, 0 ≤ j → j < μ 109 21 → ν 115 (9000 * g + j) = μ 115 (9000 * g + j) ∧ (¬ tGo (μ 115 (9000 * g + j)) → ν 116 (9000 * g + j) = μ 116 (9000 * g + j)) := h''.2.2.2.2.2.2.2.2.2.2.2.2.1
theorem V.one {g : Int} {μ : ab_m} {Γ : tQ} {dd : Int} {ν : ab_m} {a m o : Int} {p : List aE} {kp k wv hh : Int} {ss : List Int} {ex : Int → Prop} {q : Int} (h'' : V g μ Γ dd ν a m o p kp k wv hh ss ex q) : μ 109 22 = 1 → ∃ Γ', x1 ν g Γ' dd p (μ 109 21 + k) hh ss (μ 109 32) (fun j => pN ν g q p.length j ∨ ex j) q ∧ ν 109 21 = μ 109 21 + k ∧ (∀ j, 0 ≤ j → j ≤ μ 109 21 → tQe Γ Γ' j) ∧ Γ'.2.2.1 (μ 109 21 + k) = Γ.2.2.1 (μ 109 21) + wv := h''.2.2.2.2.2.2.2.2.2.2.2.2.2
section M40
variable {K : Int → Int} {W g : Int} {s0 : aS} {μ0 μ ν ν' : ab_m} {s s' : aS} {Γ Γ' : tQ} {F : Int → List Int} {dd : Int} {Ln : Int → Nat} {G : Int → List Int} {a m o : Int} {p : List aE} {kp k wv hh : Int} {ss : List Int} {ex : Int → Prop} {q : Int}
theorem J.get (h : J K W g s0 μ0 μ s) : ∃ Γ F dd Ln G, (μ 109 22 = 1 → rO K W g μ s Γ F dd Ln) ∧ (μ 109 22 = 0 → rZ K W s0 μ s G) := by
  rcases h.i.p01 with e | e
  · obtain ⟨G, z⟩ := h.z e
    exact ⟨⟨fun _ => 0, fun _ => [], fun _ => 0, fun _ => 0, fun _ => 0⟩, fun _ => [], 0, fun _ => 0, G, fun w => by omega, fun _ => z⟩
  · obtain ⟨Γ, F, dd, Ln, o⟩ := h.o e
    exact ⟨Γ, F, dd, Ln, fun _ => [], fun _ => o, fun w => by omega⟩
theorem J.v0 (h : J K W g s0 μ0 μ s) (ho : μ 109 22 = 1 → rO K W g μ s Γ F dd Ln) : V g μ Γ dd μ s.2.1 s.1 (μ 109 46) s.2.2.2 s.2.2.2.length 0 0 (hQ s) (sQ F s) (fun _ => False) (qP s.2.2.2) := by
  obtain ⟨r1, r2, r3, r4, r5⟩ := h.i.r
  refine ⟨fun _ _ _ => rfl, r2, r1, rfl, r4, r5, h.i.ft, fun _ _ _ => rfl, fun _ => rfl, fun _ _ _ => rfl, fun _ _ _ => rfl, h.i.hf, fun _ _ _ => ⟨rfl, fun _ => rfl⟩, fun w => ⟨Γ, ?_, by omega, fun _ _ _ => ⟨rfl, rfl, rfl, rfl, rfl⟩, by simp⟩⟩
  rw [Int.add_zero]
  exact (ho w).x.more fun _ _ _ _ z => Or.inl (Or.inl z)
/-- fields alone -/
theorem V.fld {a' m' o' : Int} (v : V g μ Γ dd ν a m o p kp k wv hh ss ex q) (f : ∀ c j, ¬ (c = 109 ∧ (j = 39 ∨ j = 40 ∨ j = 41 ∨ j = 42 ∨ j = 46)) → ν' c j = ν c j) (ha : ν' 109 40 = a') (hm : ν' 109 39 = m') (ho : ν' 109 46 = o') : V g μ Γ dd ν' a' m' o' p kp k wv hh ss ex q := by
  have fx : ∀ n m, xS ν ν' g n m := fun n m => ⟨fun j _ _ => f 115 _ (by omega), fun j _ _ => f 116 _ (by omega), fun c j _ => f c j (by omega), fun c j _ _ _ _ => f c j (by omega)⟩
  refine ⟨fun c j z => (f c j fun w => z (Or.inl ⟨w.1, by omega⟩)).trans (v.fr c j z), ha, hm, ho, by rw [f 109 38 (by omega)]; exact v.ln, v.ap.same fun c i _ _ _ _ => f c i (by omega), by rw [f 109 43 (by omega)]; exact v.ft, fun c j z => by rw [f c j (by omega)]; exact v.tb c j z, fun j => by rw [f 121 j (by omega)]; exact v.rs j, fun c j z => by rw [f c j (by omega)]; exact v.nf c j z, fun i x y => by rw [f 130 i (by omega)]; exact v.kp i x y, v.hf, fun j x y => by rw [f 115 _ (by omega), f 116 _ (by omega)]; exact v.tx j x y, fun w => ?_⟩
  obtain ⟨Γ', x, n, G, ww⟩ := v.one w
  refine ⟨Γ', (x.frame (fx _ _)).more fun j _ _ _ z => ?_, by rw [f 109 21 (by omega)]; exact n, G, ww⟩
  rcases z with z | z
  · exact Or.inl (Or.inl (pN.same x.chn (fun j _ _ _ => f 116 _ (by omega)) (fun i _ _ => ⟨f 129 i (by omega), f 130 i (by omega), f 131 i (by omega), f 132 i (by omega), f 133 i (by omega)⟩) z))
  · exact Or.inl (Or.inr z)
/-- one more step -/
theorem V.step {kd t ot h' : Int} {s1 : List Int} (v : V g μ Γ dd ν a m o p kp k wv hh ss ex q) (h1 : μ 109 22 = 1) (st : mSp ν ν' kd t ot) (hn : 0 ≤ μ 109 21 + k ∧ μ 109 21 + k < 9000) (mv : tMv kd (tAr (tEv ν g dd) kd t) hh ss = some (h', s1)) (vk : ∀ Γ', x1 ν g Γ' dd p (μ 109 21 + k) hh ss (μ 109 32) (fun j => pN ν g q p.length j ∨ ex j) q → (∀ j, 0 ≤ j → j ≤ μ 109 21 → tQe Γ Γ' j) → tVk (tEv ν g dd) Γ' (μ 109 21 + k) kd t) (n30 : kd ≠ 30) (hk : 0 ≤ k) : V g μ Γ dd ν' a m o p kp (k + 1) (wv + tPu kd) h' s1 (fun j => ex j ∨ (tGo kd ∧ j = μ 109 21 + k)) q ∧ ν' 115 (9000 * g + (μ 109 21 + k)) = kd ∧ ν' 116 (9000 * g + (μ 109 21 + k)) = t := by
  obtain ⟨Γ', x, n, G, ww⟩ := v.one h1
  have hg : ν 109 20 = g := by rw [v.fr 109 20 (by unfold rdW; omega)]; exact v.hf
  obtain ⟨Γ2, x2, w2, G2⟩ := x.step st hg n mv (vk Γ' x G) n30
  obtain ⟨m1, m2, m3, m4, m5⟩ := st
  rw [hg, n] at m1 m3 m4
  have f : ∀ c j, c ≠ 115 → c ≠ 116 → c ≠ 117 → ¬ (c = 109 ∧ j = 21) → ν' c j = ν c j := fun c j z1 z2 z3 z4 => m1 c j (by omega) z4
  refine ⟨⟨fun c j z => ?_, by rw [f 109 40 (by omega) (by omega) (by omega) (by omega)]; exact v.at', by rw [f 109 39 (by omega) (by omega) (by omega) (by omega)]; exact v.md, by rw [f 109 46 (by omega) (by omega) (by omega) (by omega)]; exact v.op, by rw [f 109 38 (by omega) (by omega) (by omega) (by omega)]; exact v.ln, x2.ap, by rw [f 109 43 (by omega) (by omega) (by omega) (by omega)]; exact v.ft, fun c j z => by rw [f c j (by omega) (by omega) (by omega) (by omega)]; exact v.tb c j z, fun j => by rw [f 121 j (by omega) (by omega) (by omega) (by omega)]; exact v.rs j, fun c j z => by rw [f c j (by omega) (by omega) (by omega) (by omega)]; exact v.nf c j z, fun i x y => by rw [f 130 i (by omega) (by omega) (by omega) (by omega)]; exact v.kp i x y, v.hf, fun j x y => by rw [m1 115 _ (by omega) (by omega), m1 116 _ (by omega) (by omega)]; exact v.tx j x y, fun _ => ⟨Γ2, ?_, by rw [m2, n]; omega, fun j j0 j1 => ?_, ?_⟩⟩, m3, m4⟩
  · rw [m1 c j (fun w => z (Or.inr (Or.inl ⟨w.1, w.2.1, by omega, by omega⟩))) (fun w => z (Or.inl ⟨w.1, Or.inl w.2⟩))]
    exact v.fr c j z
  · rw [show μ 109 21 + (k + 1) = μ 109 21 + k + 1 by omega]
    refine x2.more fun j j0 j1 _ z => ?_
    rcases z with (z | z) | z
    · refine Or.inl (Or.inl (pN.same x.chn (fun j y1 y2 _ => ?_) (fun i _ _ => ⟨f 129 i (by omega) (by omega) (by omega) (by omega), f 130 i (by omega) (by omega) (by omega) (by omega), f 131 i (by omega) (by omega) (by omega) (by omega), f 132 i (by omega) (by omega) (by omega) (by omega), f 133 i (by omega) (by omega) (by omega) (by omega)⟩) z))
      exact m1 116 _ (by omega) (by omega)
    · exact Or.inl (Or.inr (Or.inl z))
    · exact Or.inl (Or.inr (Or.inr z))
  · obtain ⟨e1, e2, e3, e4, e5⟩ := G j j0 j1
    obtain ⟨d1, d2, d3, d4, d5⟩ := G2 j j0 (by omega)
    exact ⟨d1.trans e1, d2.trans e2, d3.trans e3, d4.trans e4, d5.trans e5⟩
  · rw [show μ 109 21 + (k + 1) = μ 109 21 + k + 1 by omega, w2, ww]; omega
/-- an entry comes to lie on top; f: what else stays -/
theorem V.put {e : aE} {ex' : Int → Prop} {kp' : Int} (v : V g μ Γ dd ν a m o p kp k wv hh ss ex q) (f : ∀ c j : Int, ¬ (129 ≤ c ∧ c ≤ 133 ∧ j = p.length) → ¬ (c = 109 ∧ (j = 38 ∨ j = 28 ∨ j = 29)) → ν' c j = ν c j) (l : ν' 109 38 = p.length + 1) (am : aM ν' p.length e) (hk : kp' ≤ kp ∧ kp' ≤ p.length) (one : μ 109 22 = 1 → ∀ Γ', x1 ν g Γ' dd p (μ 109 21 + k) hh ss (μ 109 32) (fun j => pN ν g q p.length j ∨ ex j) q → (∀ j, 0 ≤ j → j ≤ μ 109 21 → tQe Γ Γ' j) → eF ν' (tEv ν' g dd) Γ' (μ 109 21 + k) e p p.length ∧ (e.1 = 3 ∨ e.1 = 6 ∨ e.1 = 7 → ν' 132 p.length = -1) ∧ (e.1 = 7 → ν' 133 p.length = -1) ∧ (e.1 = 6 ∨ e.1 = 7 ∨ e.1 = 21 → cL ν g q p.length (ν' 130 p.length)) ∧ ∀ j, ex j → pE ν' g q p.length j ∨ ex' j) : V g μ Γ dd ν' a m o (e :: p) kp' k wv hh ss ex' q := by
  have fx : ∀ n, xS ν ν' g n p.length := fun n => ⟨fun j _ _ => f 115 _ (by omega) (by omega), fun j _ _ => f 116 _ (by omega) (by omega), fun c j _ => f c j (by omega) (by omega), fun c j _ _ _ _ => f c j (by omega) (by omega)⟩
  have ll : ((e :: p).length : Int) = p.length + 1 := by simp
  refine ⟨fun c j z => ?_, by rw [f 109 40 (by omega) (by omega)]; exact v.at', by rw [f 109 39 (by omega) (by omega)]; exact v.md, by rw [f 109 46 (by omega) (by omega)]; exact v.op, by rw [l, ll], ⟨am, v.ap.same fun c i _ _ y z => f c i (by omega) (by omega)⟩, by rw [f 109 43 (by omega) (by omega)]; exact v.ft, fun c j z => by rw [f c j (by omega) (by omega)]; exact v.tb c j z, fun j => by rw [f 121 j (by omega) (by omega)]; exact v.rs j, fun c j z => by rw [f c j (by omega) (by omega)]; exact v.nf c j z, fun i x y => by rw [f 130 i (by omega) (by omega)]; exact v.kp i x (by omega), v.hf, fun j x y => by rw [f 115 _ (by omega) (by omega), f 116 _ (by omega) (by omega)]; exact v.tx j x y, fun w => ?_⟩
  · rw [f c j (fun w => z (by unfold rdW; omega)) (fun w => z (by unfold rdW; omega))]; exact v.fr c j z
  · obtain ⟨Γ', x, n, G, ww⟩ := v.one w
    obtain ⟨o1, o2, o3, o4, o5⟩ := one w Γ' x G
    have y := x.put (fx _) am o1 o2 o3 o4
    refine ⟨Γ', y.more fun j _ _ _ z => ?_, by rw [f 109 21 (by omega) (by omega)]; exact n, G, ww⟩
    rcases z with z | z
    · obtain ⟨i, i0, i1, pe⟩ := pN.same x.chn (fun j _ _ _ => f 116 _ (by omega) (by omega)) (fun i _ _ => ⟨f 129 i (by omega) (by omega), f 130 i (by omega) (by omega), f 131 i (by omega) (by omega), f 132 i (by omega) (by omega), f 133 i (by omega) (by omega)⟩) z
      exact Or.inl (Or.inl ⟨i, i0, by omega, pe⟩)
    · rcases o5 j z with z | z
      · exact Or.inl (Or.inl ⟨p.length, by omega, by omega, z⟩)
      · exact Or.inl (Or.inr z)
/-- what waits is told, or said otherwise -/
theorem V.more {ex' : Int → Prop} (v : V g μ Γ dd ν a m o p kp k wv hh ss ex q) (h : μ 109 22 = 1 → ∀ Γ', x1 ν g Γ' dd p (μ 109 21 + k) hh ss (μ 109 32) (fun j => pN ν g q p.length j ∨ ex j) q → (∀ j, 0 ≤ j → j ≤ μ 109 21 → tQe Γ Γ' j) → ∀ j, 0 ≤ j → j < μ 109 21 + k → ex j → ex' j ∨ tJ (tEv ν g dd) Γ' (μ 109 21 + k) j) : V g μ Γ dd ν a m o p kp k wv hh ss ex' q := by
  refine ⟨v.fr, v.at', v.md, v.op, v.ln, v.ap, v.ft, v.tb, v.rs, v.nf, v.kp, v.hf, v.tx, fun w => ?_⟩
  obtain ⟨Γ', x, n, G, ww⟩ := v.one w
  refine ⟨Γ', x.more fun j j0 j1 _ z => ?_, n, G, ww⟩
  rcases z with z | z
  · exact Or.inl (Or.inl z)
  · rcases h w Γ' x G j j0 j1 z with y | y
    · exact Or.inl (Or.inr y)
    · exact Or.inr y
/-- the entry on top goes; what it waited for waits on -/
theorem V.pop {e : aE} {kp' : Int} (v : V g μ Γ dd ν a m o (e :: p) kp k wv hh ss ex q) (f : ∀ c j, ¬ (c = 109 ∧ j = 38) → ν' c j = ν c j) (l : ν' 109 38 = p.length) (hk : kp' ≤ kp) : V g μ Γ dd ν' a m o p kp' k wv hh ss (fun j => ex j ∨ pE ν g q p.length j) q := by
  have fx : ∀ n m, xS ν ν' g n m := fun n m => ⟨fun j _ _ => f 115 _ (by omega), fun j _ _ => f 116 _ (by omega), fun c j _ => f c j (by omega), fun c j _ _ _ _ => f c j (by omega)⟩
  have ll : ((e :: p).length : Int) = p.length + 1 := by simp
  refine ⟨fun c j z => (f c j fun w => z (Or.inl ⟨w.1, by omega⟩)).trans (v.fr c j z), by rw [f 109 40 (by omega)]; exact v.at', by rw [f 109 39 (by omega)]; exact v.md, by rw [f 109 46 (by omega)]; exact v.op, l, v.ap.2.same fun c i _ _ _ _ => f c i (by omega), by rw [f 109 43 (by omega)]; exact v.ft, fun c j z => by rw [f c j (by omega)]; exact v.tb c j z, fun j => by rw [f 121 j (by omega)]; exact v.rs j, fun c j z => by rw [f c j (by omega)]; exact v.nf c j z, fun i x y => by rw [f 130 i (by omega)]; exact v.kp i x (by omega), v.hf, fun j x y => by rw [f 115 _ (by omega), f 116 _ (by omega)]; exact v.tx j x y, fun w => ?_⟩
  obtain ⟨Γ', x, n, G, ww⟩ := v.one w
  refine ⟨Γ', (x.frame (fx _ _)).pop.more fun j _ _ _ z => ?_, by rw [f 109 21 (by omega)]; exact n, G, ww⟩
  rcases z with ⟨i, i0, i1, pe⟩ | z
  · by_cases e1 : i = p.length
    · subst e1; exact Or.inl (Or.inr (Or.inr pe))
    · obtain ⟨u, u0, u1, pe⟩ := pN.same x.pop.chn (fun j _ _ _ => f 116 _ (by omega)) (fun i _ _ => ⟨f 129 i (by omega), f 130 i (by omega), f 131 i (by omega), f 132 i (by omega), f 133 i (by omega)⟩) (show pN ν g q p.length j from ⟨i, i0, by omega, pe⟩)
      exact Or.inl (Or.inl ⟨u, u0, u1, pe⟩)
  · exact Or.inl (Or.inr (Or.inl z))
/-- a jump that waits is told -/
theorem V.tell {y t : Int} (v : V g μ Γ dd ν a m o p kp k wv hh ss ex q) (f : ∀ c j, ¬ (c = 116 ∧ j = 9000 * g + y) → ν' c j = ν c j) (hy : 0 ≤ y ∧ y < μ 109 21 + k ∧ y < 9000) (hS : ν 115 (9000 * g + y) = 7 ∨ ν 115 (9000 * g + y) = 15 ∨ ν 115 (9000 * g + y) = 16 ∨ ν 115 (9000 * g + y) = 19) (hx : pN ν g q p.length y ∨ ex y) : V g μ Γ dd ν' a m o p kp k wv hh ss ex q := by
  refine ⟨fun c j z => (f c j fun w => z (Or.inr (Or.inl ⟨by omega, by omega, by omega, by omega⟩))).trans (v.fr c j z), by rw [f 109 40 (by omega)]; exact v.at', by rw [f 109 39 (by omega)]; exact v.md, by rw [f 109 46 (by omega)]; exact v.op, by rw [f 109 38 (by omega)]; exact v.ln, v.ap.same fun c i _ _ _ _ => f c i (by omega), by rw [f 109 43 (by omega)]; exact v.ft, fun c j z => by rw [f c j (by omega)]; exact v.tb c j z, fun j => by rw [f 121 j (by omega)]; exact v.rs j, fun c j z => by rw [f c j (by omega)]; exact v.nf c j z, fun i x y => by rw [f 130 i (by omega)]; exact v.kp i x (by omega), v.hf, fun j x y' => ⟨by rw [f 115 _ (by omega)]; exact (v.tx j x y').1, fun z => by rw [f 116 _ (fun w => z (by rw [← (v.tx j x y').1, show j = y by omega]; unfold tGo; omega))]; exact (v.tx j x y').2 z⟩, fun w => ?_⟩
  obtain ⟨Γ', x, n, G, ww⟩ := v.one w
  have kk : ∀ j, (tEv ν g dd).1 j = 24 ∨ (tEv ν g dd).1 j = 25 ∨ (tEv ν g dd).1 j = 26 → j ≠ y := fun j z e => by
    rw [e] at z
    have z : ν 115 (9000 * g + y) = 24 ∨ ν 115 (9000 * g + y) = 25 ∨ ν 115 (9000 * g + y) = 26 := z
    omega
  refine ⟨Γ', (x.tell (t := t) f ⟨hy.1, hy.2.1⟩ hS hx).more fun j _ _ _ z => ?_, by rw [f 109 21 (by omega)]; exact n, G, ww⟩
  rcases z with z | z
  · exact Or.inl (Or.inl (pN.same x.chn (fun j _ _ hj => f 116 _ (by have := kk j hj; omega)) (fun i _ _ => ⟨f 129 i (by omega), f 130 i (by omega), f 131 i (by omega), f 132 i (by omega), f 133 i (by omega)⟩) z))
  · exact Or.inl (Or.inr z)
/-- a chain that waits is told -/
theorem V.chain {L : List Int} (v : V g μ Γ dd ν a m o p kp k wv hh ss ex q) (f : ∀ c j, ¬ (c = 116 ∧ ∃ y ∈ L, j = 9000 * g + y) → ν' c j = ν c j) (hL : ∀ y ∈ L, ex y ∧ tGo (ν 115 (9000 * g + y)) ∧ 0 ≤ y ∧ y < 9000) (dis : ∀ i L', 0 ≤ i → i < (p.length : Int) → cA ν g q i L' → ∀ y ∈ L', ¬ y ∈ L) : V g μ Γ dd ν' a m o p kp k wv hh ss ex q := by
  have fp : ∀ c i, c ≠ 116 → ν' c i = ν c i := fun c i hc => f c i fun w => hc w.1
  refine ⟨fun c j z => (f c j fun ⟨w, y, hy, e⟩ => z (Or.inr (Or.inl ⟨by omega, by omega, by have := hL y hy; omega, by have := hL y hy; omega⟩))).trans (v.fr c j z), by rw [fp 109 40 (by omega)]; exact v.at', by rw [fp 109 39 (by omega)]; exact v.md, by rw [fp 109 46 (by omega)]; exact v.op, by rw [fp 109 38 (by omega)]; exact v.ln, v.ap.same fun c i _ _ _ _ => fp c i (by omega), by rw [fp 109 43 (by omega)]; exact v.ft, fun c j z => by rw [fp c j (by omega)]; exact v.tb c j z, fun j => by rw [fp 121 j (by omega)]; exact v.rs j, fun c j z => by rw [fp c j (by omega)]; exact v.nf c j z, fun i x y => by rw [fp 130 i (by omega)]; exact v.kp i x (by omega), v.hf, fun j x y' => ⟨by rw [fp 115 _ (by decide)]; exact (v.tx j x y').1, fun z => by rw [f 116 _ (fun ⟨_, u, hu, e⟩ => z (by rw [← (v.tx j x y').1, show j = u by omega]; exact (hL u hu).2.1))]; exact (v.tx j x y').2 z⟩, fun w => ?_⟩
  obtain ⟨Γ', x, n, G, ww⟩ := v.one w
  have f6 : ∀ j, ¬ j ∈ L → ν' 116 (9000 * g + j) = ν 116 (9000 * g + j) := fun j hj => f 116 _ fun ⟨_, y, hy, e⟩ => hj (by rw [show j = y by omega]; exact hy)
  refine ⟨Γ', (x.chain f (fun y hy => ⟨Or.inr (hL y hy).1, (hL y hy).2.1⟩) dis).more fun j _ _ _ z => ?_, by rw [fp 109 21 (by omega)]; exact n, G, ww⟩
  rcases z with ⟨i, i0, i1, pe⟩ | z
  · refine Or.inl (Or.inl ⟨i, i0, i1, ?_⟩)
    unfold pE
    rw [fp 129 i (by decide), fp 130 i (by decide), fp 131 i (by decide), fp 132 i (by decide), fp 133 i (by decide)]
    rcases pe with pe | pe | pe | ⟨u1, L', u2, u3⟩ | ⟨u0, u1, L', u2, u3⟩
    · exact Or.inl pe
    · exact Or.inr (Or.inl pe)
    · exact Or.inr (Or.inr (Or.inl pe))
    · exact Or.inr (Or.inr (Or.inr (Or.inl ⟨u1, L', u2.same fun y hy => f6 y (dis i L' i0 i1 (Or.inl ⟨u1, u2⟩) y hy), u3⟩)))
    · exact Or.inr (Or.inr (Or.inr (Or.inr ⟨u0, u1, L', u2.same fun y hy => f6 y (dis i L' i0 i1 (Or.inr ⟨u0, u1, u2⟩) y hy), u3⟩)))
  · exact Or.inl (Or.inr z)
/-- another DO is past its test -/
theorem V.qch {q' : Int} {ex' : Int → Prop} (v : V g μ Γ dd ν a m o p kp k wv hh ss ex q) (hq : ∀ i, 0 ≤ i → i < (p.length : Int) → i ≠ q' → i ≠ q) (hx : ∀ j, ex j → ex' j) (h : ∀ i, 0 ≤ i → i < (p.length : Int) → i ≠ q → ν 129 i = 7 → i ≠ q' ∨ ∀ L, mCh ν g L (ν 133 i) → ∀ j ∈ L, ex' j) : V g μ Γ dd ν a m o p kp k wv hh ss ex' q' := by
  refine ⟨v.fr, v.at', v.md, v.op, v.ln, v.ap, v.ft, v.tb, v.rs, v.nf, v.kp, v.hf, v.tx, fun w => ?_⟩
  obtain ⟨Γ', x, n, G, ww⟩ := v.one w
  refine ⟨Γ', (x.qq hq).more fun j j0 j1 _ z => ?_, n, G, ww⟩
  rcases z with ⟨i, i0, i1, pe⟩ | z
  · rcases pe with pe | pe | pe | pe | ⟨u0, u1, L, u2, u3⟩
    · exact Or.inl (Or.inl ⟨i, i0, by omega, Or.inl pe⟩)
    · exact Or.inl (Or.inl ⟨i, i0, by omega, Or.inr (Or.inl pe)⟩)
    · exact Or.inl (Or.inl ⟨i, i0, by omega, Or.inr (Or.inr (Or.inl pe))⟩)
    · exact Or.inl (Or.inl ⟨i, i0, by omega, Or.inr (Or.inr (Or.inr (Or.inl pe)))⟩)
    · rcases h i i0 i1 u0 u1 with u4 | u4
      · exact Or.inl (Or.inl ⟨i, i0, by omega, Or.inr (Or.inr (Or.inr (Or.inr ⟨u4, u1, L, u2, u3⟩)))⟩)
      · exact Or.inl (Or.inr (u4 L u2 j u3))
  · exact Or.inl (Or.inr (hx j z))
/-- the walk is over -/
theorem V.fin (v : V g μ Γ dd ν s'.2.1 s'.1 o s'.2.2.2 kp k wv (hQ s') (sQ F s') (fun _ => False) (qP s'.2.2.2)) (hJ : J K W g s0 μ0 μ s) (hO : μ 109 22 = 1 → rO K W g μ s Γ F dd Ln) (hZ : μ 109 22 = 0 → rZ K W s0 μ s G) (e : aNext K s = some (s', none)) (ho : s'.1 = 3 → o = s'.2.2.1) (k0 : 0 ≤ k) (bu : μ 109 22 = 1 → k + pEn s'.2.2.2 + sW Ln s.2.1.toNat ≤ pEn s.2.2.2 + 2 * (s'.2.1 - s.2.1) + sW Ln s'.2.1.toNat) (bw : μ 109 22 = 1 → 2 * wv + pDo s.2.2.2 + 2 * sW Ln s.2.1.toNat ≤ s'.2.1 - s.2.1 + pDo s'.2.2.2 + 2 * sW Ln s'.2.1.toNat) (nb : μ 109 22 = 1 → nB ν (tEv ν g dd) s'.2.2.2 (μ 109 27)) (bk : bK s'.2.2.2 = bK s.2.2.2) (ne : s'.2.2.2 ≠ []) : J K W g s0 μ0 ν s' ∧ aMs W s' < aMs W s := by
  have aq := aNext_q hJ.i.kk hJ.i.w _ _ e
  have e22 : ν 109 22 = μ 109 22 := v.fr 109 22 (by unfold rdW; omega)
  have ri : rI K W g μ0 ν s' := hJ.i.go e v.fr (fun j _ _ => Or.inl (v.rs j)) (by rw [v.ft, hJ.i.ft]) ⟨v.md, v.at', fun m3 => by rw [v.op]; exact ho m3, v.ln, v.ap⟩
  refine ⟨⟨ri, fun w => ⟨G, ?_⟩, fun w => ?_⟩, aq.ms⟩
  · exact (hZ (by rw [← e22]; exact w)).go hJ.i e v.tb
  · rw [e22] at w
    have O := hO w
    obtain ⟨Γ', x, n, Gk, ww⟩ := v.one w
    have e32 := v.nf 109 32 (by omega)
    have e27 := v.nf 109 27 (by omega)
    have n0 := O.x.n0
    have b1 := bu w
    have b2 := bw w
    have b3 := O.bu
    have b4 := O.bw
    have r0 := (O.x.tr n0 (Int.le_refl _)).r0
    have hr : Γ'.2.2.2.1 (μ 109 21 + k) = Γ.2.2.2.1 (μ 109 21) := by rw [x.cr, O.x.cr]
    refine ⟨Γ', F, dd, Ln, O.fin hJ.i e (pd := fun j => pN ν g (qP s'.2.2.2) s'.2.2.2.length j ∨ False) ?_ (fun j _ _ _ z => Or.inl (z.elim id False.elim)) (fun c j z => v.tb c j (by omega)) ?_ ?_ ?_ ⟨e32, v.nf 124 g (by omega)⟩ bk Gk (by omega) ne⟩
    · rw [n, e32]; exact x
    · rw [n]; omega
    · rw [n, ww]; omega
    · rw [n]
      refine O.nm.same ?_ n0 (by omega) hr r0 (fun c j z => v.nf c j (by omega)) ?_ ?_ (by have := aq.le; omega) ?_
      · exact ⟨fun j j0 j1 => (v.tx j j0 j1).1, fun j j0 j1 z => (v.tx j j0 j1).2 z, Gk, Int.le_refl _, fun y _ _ => ⟨v.nf 120 _ (by omega), v.nf 119 _ (by omega)⟩, fun y hy => by
          obtain ⟨i, i0, i1, i2⟩ := hy
          exact ⟨i, i0, by rw [v.nf 123 g (by omega)]; exact i1, by rw [v.nf 122 _ (by omega)]; exact i2⟩⟩
      · rw [e27]; have := O.nm.nm; omega
      · intro y hy
        obtain ⟨i, i0, i1, i2⟩ := hy
        exact ⟨i, i0, by rw [← v.nf 123 g (by omega)]; exact i1, by rw [← v.nf 122 _ (by omega)]; exact i2⟩
      · rw [e27]; exact nb w
end M40

/-! THE REFERENCE, part 41: the reader's small methods on a walk -/
section M41
variable {X : jm_X} {d : Nat} {P : Int → ab_m → Prop} {K : Int → Int} {W g : Int} {s0 : aS} {μ0 μ ν ν' : ab_m} {s s' : aS} {Γ Γ' : tQ} {F : Int → List Int} {dd : Int} {Ln : Int → Nat} {G : Int → List Int} {a m o : Int} {p : List aE} {kp k wv hh : Int} {ss : List Int} {ex : Int → Prop} {q : Int}
theorem V.zero {k' wv' hh' : Int} {ss' : List Int} {ex' : Int → Prop} {q' : Int} (v : V g μ Γ dd ν a m o p kp k wv hh ss ex q) (h0 : μ 109 22 ≠ 1) : V g μ Γ dd ν a m o p kp k' wv' hh' ss' ex' q' :=
  ⟨v.fr, v.at', v.md, v.op, v.ln, v.ap, v.ft, v.tb, v.rs, v.nf, v.kp, v.hf, v.tx, fun w => absurd w h0⟩
theorem V.Kk (v : V g μ Γ dd ν a m o p kp k wv hh ss ex q) (hi : rI K W g μ0 μ s) (i : Int) : ν 111 i = K i := by rw [v.fr 111 i (by unfold rdW; omega)]; exact hi.K i
theorem V.ps (v : V g μ Γ dd ν a m o p kp k wv hh ss ex q) : ν 109 22 = μ 109 22 := v.fr 109 22 (by unfold rdW; omega)
theorem V.h20 (v : V g μ Γ dd ν a m o p kp k wv hh ss ex q) : ν 109 20 = g := by rw [v.fr 109 20 (by unfold rdW; omega)]; exact v.hf
theorem V.f1 {j v1 : Int} (v : V g μ Γ dd ν a m o p kp k wv hh ss ex q) (e : ν' = ab_mu ν 109 j v1) (hj : j = 41 ∨ j = 42) : V g μ Γ dd ν' a m o p kp k wv hh ss ex q := by
  subst e
  refine v.fld (fun c i z => by rw [ab_mud, if_neg (by omega)]) ?_ ?_ ?_
  · rw [ab_mud, if_neg (by omega)]; exact v.at'
  · rw [ab_mud, if_neg (by omega)]; exact v.md
  · rw [ab_mud, if_neg (by omega)]; exact v.op
theorem V.fa {v1 : Int} (v : V g μ Γ dd ν a m o p kp k wv hh ss ex q) (e : ν' = ab_mu ν 109 40 v1) : V g μ Γ dd ν' v1 m o p kp k wv hh ss ex q := by
  subst e
  refine v.fld (fun c i z => by rw [ab_mud, if_neg (by omega)]) ?_ ?_ ?_
  · rw [ab_mud, if_pos ⟨rfl, rfl⟩]
  · rw [ab_mud, if_neg (by omega)]; exact v.md
  · rw [ab_mud, if_neg (by omega)]; exact v.op
theorem V.fm {v1 : Int} (v : V g μ Γ dd ν a m o p kp k wv hh ss ex q) (e : ν' = ab_mu ν 109 39 v1) : V g μ Γ dd ν' a v1 o p kp k wv hh ss ex q := by
  subst e
  refine v.fld (fun c i z => by rw [ab_mud, if_neg (by omega)]) ?_ ?_ ?_
  · rw [ab_mud, if_neg (by omega)]; exact v.at'
  · rw [ab_mud, if_pos ⟨rfl, rfl⟩]
  · rw [ab_mud, if_neg (by omega)]; exact v.op
theorem V.fo {v1 : Int} (v : V g μ Γ dd ν a m o p kp k wv hh ss ex q) (e : ν' = ab_mu ν 109 46 v1) : V g μ Γ dd ν' a m v1 p kp k wv hh ss ex q := by
  subst e
  refine v.fld (fun c i z => by rw [ab_mud, if_neg (by omega)]) ?_ ?_ ?_
  · rw [ab_mud, if_neg (by omega)]; exact v.at'
  · rw [ab_mud, if_neg (by omega)]; exact v.md
  · rw [ab_mud, if_pos ⟨rfl, rfl⟩]
/-- the next word -/
theorem V.fa1 (v : V g μ Γ dd ν a m o p kp k wv hh ss ex q) (ha : 0 ≤ a ∧ a < 3002) (e : ν' = ab_mu ν 109 40 (ab_w (ν 109 40 + 1))) : V g μ Γ dd ν' (a + 1) m o p kp k wv hh ss ex q := by
  rw [v.at', show ab_w (a + 1) = a + 1 from ab_wi (by omega) (by omega)] at e
  exact v.fa e
theorem c_V_fail {kf w : Int} (hi : rI K W g μ0 μ s) (v : V g μ Γ dd ν a m o p kp k wv hh ss ex q) (hk : 1 ≤ kf ∧ kf ≤ 6) (hw : 0 ≤ w ∧ w < 3002) (hF : ∀ ν', rFt g μ0 ν' → P 0 ν') : jj_mM_fail X d 0 (ab_la [109, kf, w]) [] ν P :=
  c_mM_fail v.ft hk hw fun _ m => hF _ (hi.fault v.fr v.rs m)
theorem c_V_misfit (hi : rI K W g μ0 μ s) (v : V g μ Γ dd ν a m o p kp k wv hh ss ex q) (ha : 0 ≤ a ∧ a < 3002) (hF : ∀ ν', rFt g μ0 ν' → P 0 ν') : jj_mM_misfit X (d + 1) 0 (ab_la [109]) [] ν P :=
  c_mM_misfit v.ft (by rw [v.at']; exact ha) fun _ m => hF _ (hi.fault v.fr v.rs m)
theorem c_V_take {kd : Int} (hi : rI K W g μ0 μ s) (v : V g μ Γ dd ν a m o p kp k wv hh ss ex q) (ha : 0 ≤ a ∧ a < 3002) (h1 : K a = kd → ∀ ν', V g μ Γ dd ν' (a + 1) m o p kp k wv hh ss ex q → P 1 ν') (hF : ∀ ν', rFt g μ0 ν' → P 0 ν') : jj_mM_take X (d + 2) 0 (ab_la [109, kd]) [] ν P := by
  refine bk_mM_take_0 rfl ⟨by rw [v.at']; exact ha, fun e ν1 e1 => ?_, fun _ => c_V_misfit hi v ha hF⟩
  rw [v.at', v.Kk hi] at e
  exact h1 e ν1 (v.fa1 ha e1)
theorem c_V_opens (hi : rI K W g μ0 μ s) (v : V g μ Γ dd ν a m o p kp k wv hh ss ex q) (ha : 0 ≤ a ∧ a < 3002) (h1 : ∀ ν', V g μ Γ dd ν' a m o p kp k wv hh ss ex q → P 1 ν') (hF : ∀ ν', rFt g μ0 ν' → P 0 ν') : jj_mM_opens X (d + 1) 0 (ab_la [109]) [] ν P :=
  bk_mM_opens_0 rfl ⟨fun _ ν1 e => h1 ν1 (v.f1 e (Or.inl rfl)), fun _ => c_V_fail hi v (by decide) (by rw [v.at']; exact ha) hF⟩
theorem c_V_takeOpen {kd : Int} (hi : rI K W g μ0 μ s) (v : V g μ Γ dd ν a m o p kp k wv hh ss ex q) (ha : 0 ≤ a ∧ a < 3002) (h1 : K a = kd → ∀ ν', V g μ Γ dd ν' (a + 1) m o p kp k wv hh ss ex q → P 1 ν') (hF : ∀ ν', rFt g μ0 ν' → P 0 ν') : jj_mM_takeOpen X (d + 2) 0 (ab_la [109, kd]) [] ν P := by
  refine bk_mM_takeOpen_0 rfl ⟨by rw [v.at']; exact ha, fun e => c_V_opens hi v ha (fun ν1 v1 => ⟨fun _ ν4 e4 => ?_, fun w => absurd w (by decide)⟩) (fun ν1 f1 => ⟨fun w => absurd rfl w, fun _ => hF ν1 f1⟩), fun _ => c_V_misfit hi v ha hF⟩
  have e : ν 111 (ν 109 40) = kd := e
  rw [v.at', v.Kk hi] at e
  exact h1 e ν4 (v1.fa1 ha e4)
theorem c_V_takeClose {kd : Int} (hi : rI K W g μ0 μ s) (v : V g μ Γ dd ν a m o p kp k wv hh ss ex q) (ha : 0 ≤ a ∧ a < 3002) (h1 : K a = kd → ∀ ν', V g μ Γ dd ν' (a + 1) m o p kp k wv hh ss ex q → P 1 ν') (hF : ∀ ν', rFt g μ0 ν' → P 0 ν') : jj_mM_takeClose X (d + 3) 0 (ab_la [109, kd]) [] ν P := by
  refine bk_mM_takeClose_0 rfl ?_
  refine c_V_take hi v ha (fun e ν1 v1 => ⟨fun _ ν4 e4 => ?_, fun w => absurd w (by decide)⟩) (fun ν1 f1 => ⟨fun w => absurd rfl w, fun _ => hF ν1 f1⟩)
  exact h1 e ν4 (v1.f1 e4 (Or.inl rfl))
/-- a step, in pass 1 one more -/
theorem c_V_step {kd t h' : Int} {s1 : List Int} (hi : rI K W g μ0 μ s) (v : V g μ Γ dd ν a m o p kp k wv hh ss ex q) (hn : μ 109 22 = 1 → 0 ≤ μ 109 21 ∧ μ 109 21 + k < 9000) (hk : 0 ≤ k) (n30 : kd ≠ 30) (mv : μ 109 22 = 1 → tMv kd (tAr (tEv ν g dd) kd t) hh ss = some (h', s1)) (vk : μ 109 22 = 1 → ∀ Γ', x1 ν g Γ' dd p (μ 109 21 + k) hh ss (μ 109 32) (fun j => pN ν g q p.length j ∨ ex j) q → (∀ j, 0 ≤ j → j ≤ μ 109 21 → tQe Γ Γ' j) → tVk (tEv ν g dd) Γ' (μ 109 21 + k) kd t) (hP : ∀ ν' r, V g μ Γ dd ν' a m o p kp (k + 1) (wv + tPu kd) h' s1 (fun j => ex j ∨ (tGo kd ∧ j = μ 109 21 + k)) q → (∀ c j, c ≠ 115 → c ≠ 116 → c ≠ 117 → c ≠ 109 → ν' c j = ν c j) → (μ 109 22 = 1 → r = μ 109 21 + k ∧ ν' 109 21 = μ 109 21 + k + 1 ∧ ν' 115 (9000 * g + (μ 109 21 + k)) = kd ∧ ν' 116 (9000 * g + (μ 109 21 + k)) = t) → P r ν') : jj_mM_step X d 0 (ab_la [109, kd, t]) [] ν P := by
  rcases hi.p01 with h0 | h1
  · exact c_mM_step0 (by rw [v.ps]; exact h0) (hP ν 0 (v.zero (by omega)) (fun _ _ _ _ _ _ => rfl) fun w => by omega)
  · obtain ⟨Γ', x, n, -⟩ := v.one h1
    refine c_mM_step (by rw [v.ps]; exact h1) (by rw [v.h20]; exact hi.g01) (by rw [n]; have := hn h1; omega) fun ν1 m1 => ?_
    have hn := hn h1
    obtain ⟨v1, e1, e2⟩ := v.step h1 m1 (by omega) (mv h1) (vk h1) n30 hk
    rw [n]
    exact hP ν1 _ v1 (fun c j a1 a2 a3 a4 => m1.1 c j (by omega) (by omega)) fun _ => ⟨rfl, by rw [m1.2.1, n], e1, e2⟩
/-- kinds that are told nothing of weight -/
theorem tVk_n {E : tE} {n kd t : Int} (h : kd ≠ 2 ∧ kd ≠ 3 ∧ kd ≠ 4 ∧ kd ≠ 5 ∧ kd ≠ 9 ∧ kd ≠ 11 ∧ kd ≠ 12 ∧ kd ≠ 13 ∧ kd ≠ 28 ∧ kd ≠ 26) : tVk E Γ n kd t :=
  ⟨fun w => by omega, fun w => by omega, fun w => by omega, fun w => by omega, fun w => by omega, fun w => by omega, fun w => by omega⟩
theorem c_V_begun (hi : rI K W g μ0 μ s) (v : V g μ Γ dd ν a m o p kp k wv hh ss ex q) (hn : μ 109 22 = 1 → 0 ≤ μ 109 21 ∧ μ 109 21 + k < 9000) (hk : 0 ≤ k) (hP : ∀ ν', V g μ Γ dd ν' a m o p kp (k + 1) wv hh ss ex q → (∀ c j, c ≠ 115 → c ≠ 116 → c ≠ 117 → c ≠ 109 → ν' c j = ν c j) → (μ 109 22 = 1 → ν' 109 21 = μ 109 21 + k + 1 ∧ ν' 115 (9000 * g + (μ 109 21 + k)) = 14) → P 0 ν') : jj_mM_begun X (d + 1) 0 (ab_la [109]) [] ν P := by
  refine bk_mM_begun_0 rfl fun ν1 e1 => ?_
  refine c_V_step hi (v.f1 e1 (Or.inr rfl)) hn hk (by decide) (h' := hh) (s1 := ss) (fun _ => rfl) (fun _ _ _ _ => tVk_n (by decide)) fun ν' r v' f e => ?_
  refine hP ν' ?_ (fun c j a1 a2 a3 a4 => by rw [f c j a1 a2 a3 a4, e1, ab_mud, if_neg (by omega)]) fun w => ⟨(e w).2.1, (e w).2.2.1⟩
  have v2 := v'.more (ex' := ex) fun _ _ _ _ j _ _ z => Or.inl (z.elim id fun z => absurd z.1 (by unfold tGo; decide))
  rw [show wv + tPu 14 = wv by rw [show tPu 14 = 0 from rfl]; omega] at v2
  exact v2
/-- an entry is pushed -/
theorem c_V_push {e : aE} {ex' : Int → Prop} {kd x y : Int} (hi : rI K W g μ0 μ s) (v : V g μ Γ dd ν a m o p kp k wv hh ss ex q) (hl : (p.length : Int) < 3010) (hk : kp ≤ p.length) (am : ∀ ν', mPu ν ν' kd x y → aM ν' p.length e) (one : μ 109 22 = 1 → ∀ ν' Γ', mPu ν ν' kd x y → x1 ν g Γ' dd p (μ 109 21 + k) hh ss (μ 109 32) (fun j => pN ν g q p.length j ∨ ex j) q → (∀ j, 0 ≤ j → j ≤ μ 109 21 → tQe Γ Γ' j) → eF ν' (tEv ν' g dd) Γ' (μ 109 21 + k) e p p.length ∧ (e.1 = 6 ∨ e.1 = 7 ∨ e.1 = 21 → cL ν g q p.length x) ∧ ∀ j, ex j → pE ν' g q p.length j ∨ ex' j) (hP : ∀ ν', V g μ Γ dd ν' a m o (e :: p) kp k wv hh ss ex' q → mPu ν ν' kd x y → P 0 ν') : jj_mM_push X d 0 (ab_la [109, kd, x, y]) [] ν P := by
  refine c_mM_push (by rw [v.ln]; omega) fun ν1 m1 => hP ν1 ?_ m1
  have m := m1
  obtain ⟨q1, q2, q3, q4, q5, q6, q7⟩ := m1
  rw [v.ln] at q1 q2 q3 q4 q5 q6 q7
  refine v.put (fun c j z1 z2 => q1 c j z1 (by omega)) q2 (am ν1 m) ⟨Int.le_refl _, hk⟩ fun w Γ' x' G' => ?_
  obtain ⟨o1, o2, o3⟩ := one w ν1 Γ' m x' G'
  exact ⟨o1, fun _ => q6, fun _ => q7, fun z => by rw [q4]; exact o2 z, o3⟩
end M41

/-! THE REFERENCE, part 42: readTold, readTested, readRead -/
section M42
variable {X : jm_X} {d : Nat} {P : Int → ab_m → Prop} {K : Int → Int} {W g : Int} {s0 : aS} {μ0 μ ν ν' : ab_m} {s s' : aS} {Γ Γ' : tQ} {F : Int → List Int} {dd : Int} {Ln : Int → Nat} {G : Int → List Int} {a m o : Int} {p : List aE} {kp k wv hh : Int} {ss : List Int} {ex : Int → Prop} {q : Int}
theorem sP_cons {e : aE} {r : List aE} : sP F (e :: r) = if e.1 = 22 then 6 :: (sP F r).tail else sO F e ++ sP F r := rfl
theorem hP_cons {e : aE} {r : List aE} : hP (e :: r) = (if e.1 = 40 ∧ ¬ (e.2.1 = 206 ∨ e.2.1 = 207) then 1 else if e.1 = 28 then e.2.2.2 else if e.1 = 27 then 1 else 0) + hP r := rfl
theorem pEn_cons {e : aE} {r : List aE} : pEn (e :: r) = (if e.1 = 4 ∨ e.1 = 5 ∨ e.1 = 6 ∨ e.1 = 40 ∨ e.1 = 41 then 1 else 0) + pEn r := rfl
theorem pDo_cons {e : aE} {r : List aE} : pDo (e :: r) = (if e.1 = 7 then 1 else if e.1 = 20 then -1 else 0) + pDo r := rfl
theorem qP_cons {e : aE} {r : List aE} : qP (e :: r) = if e.1 = 22 then (r.length : Int) - 1 else qP r := rfl
theorem V.nb {b : Int} {p0 : List aE} (v : V g μ Γ dd ν a m o p kp k wv hh ss ex q) (h : nB μ (tEv μ g dd) p0 b) (hl : (p0.length : Int) ≤ kp) : nB ν (tEv ν g dd) p0 b :=
  h.same (fun x hx => by
    obtain ⟨i, i0, i1, i2⟩ := hx
    exact ⟨i, i0, by rw [v.nf 123 g (by omega)]; exact i1, by rw [v.nf 122 _ (by omega)]; exact i2⟩) (fun i => ⟨v.nf 126 i (by omega), v.nf 127 i (by omega)⟩) fun i i0 i1 => v.kp i i0 (by omega)
theorem nB_cons {E : tE} {e : aE} {b : Int} (he : e.1 ≠ 1 ∧ e.1 ≠ 2 ∧ e.1 ≠ 3) (h : nB μ E p b) : nB μ E (e :: p) b := by
  unfold nB
  rw [if_neg (by omega)]
  exact h
theorem aPs.ne {p : List aE} (h : aPs p) : p ≠ [] := fun e => by rw [e] at h; exact h
/-- an entry was pushed on a pile of statements, and an operand comes -/
theorem V.toX {e : aE} (v : V g μ Γ dd ν a 2 o (e :: s.2.2.2) s.2.2.2.length k wv hh ss (fun _ => False) (qP s.2.2.2)) (hJ : J K W g s0 μ0 μ s) (hO : μ 109 22 = 1 → rO K W g μ s Γ F dd Ln) (hZ : μ 109 22 = 0 → rZ K W s0 μ s G) (hm : s.1 = 1) (en : aNext K s = some ((2, a, s.2.2.1, e :: s.2.2.2), none)) (k0 : 0 ≤ k) (he : (e.1 = 20 ∨ e.1 = 21 ∨ e.1 = 25 ∨ e.1 = 26 ∨ e.1 = 29 ∨ e.1 = 30) ∨ (e.1 = 28 ∧ e.2.1 = 1 ∧ e.2.2.2 = 0)) (h1 : hh = hQ s) (h2 : ss = if e.1 = 21 then 3 :: sQ F s else sQ F s) (ha : s.2.1 ≤ a) (bu : k ≤ 2 * (a - s.2.1)) (bw : 2 * wv + 1 ≤ a - s.2.1 ∨ (e.1 ≠ 20 ∧ 2 * wv ≤ a - s.2.1)) : J K W g s0 μ0 ν (2, a, s.2.2.1, e :: s.2.2.2) ∧ aMs W (2, a, s.2.2.1, e :: s.2.2.2) < aMs W s := by
  have hp := hJ.i.w.m1 (Or.inl hm)
  have at0 := hJ.i.w.at0
  have sl : μ 109 22 = 1 → (sW Ln s.2.1.toNat : Int) ≤ sW Ln a.toNat := fun _ => sW_at at0 ha
  refine V.fin (kp := s.2.2.2.length) (k := k) (wv := wv) (o := o) ?_ hJ hO hZ en (fun w => absurd w (show ¬ (2 : Int) = 3 by decide)) k0 (fun w => ?_) (fun w => ?_) (fun w => nB_cons (by omega) (v.nb (hO w).nm.nb (Int.le_refl _))) (bK_cons hp.ne) (List.cons_ne_nil _ _)
  · have e1 : hQ (2, a, s.2.2.1, e :: s.2.2.2) = hh := by
      rw [h1]
      unfold hQ
      dsimp only
      rw [hP_cons, if_neg (show ¬ (e.1 = 40 ∧ _) by omega), if_neg (show ¬ (2 : Int) = 3 by decide), if_neg (show ¬ s.1 = 3 by omega)]
      split
      · omega
      · rw [if_neg (by omega)]; omega
    have e2 : sQ F (2, a, s.2.2.1, e :: s.2.2.2) = ss := by
      rw [h2]
      unfold sQ
      dsimp only
      rw [if_neg (show ¬ (2 : Int) = 3 by decide), if_neg (show ¬ s.1 = 3 by omega), sP_cons, if_neg (show ¬ e.1 = 22 by omega)]
      unfold sO
      rw [if_neg (by omega), if_neg (by omega), if_neg (by omega)]
      split
      · rfl
      · rw [if_neg (by omega), if_neg (by omega)]; rfl
    have e3 : qP (e :: s.2.2.2) = qP s.2.2.2 := by show (if e.1 = 22 then _ else _) = _; rw [if_neg (by omega)]
    rw [e1, e2]
    show V _ _ _ _ _ _ _ _ (e :: s.2.2.2) _ _ _ _ _ _ (qP (e :: s.2.2.2))
    rw [e3]
    exact v
  · show k + pEn (e :: s.2.2.2) + _ ≤ _ + 2 * (a - s.2.1) + _
    rw [pEn_cons, if_neg (by omega)]
    have := sl w
    show k + (0 + pEn s.2.2.2) + (sW Ln s.2.1.toNat : Int) ≤ pEn s.2.2.2 + 2 * (a - s.2.1) + (sW Ln a.toNat : Int)
    omega
  · have := sl w
    show 2 * wv + pDo s.2.2.2 + 2 * (sW Ln s.2.1.toNat : Int) ≤ a - s.2.1 + ((if e.1 = 7 then 1 else if e.1 = 20 then -1 else 0) + pDo s.2.2.2) + 2 * (sW Ln a.toNat : Int)
    rw [if_neg (by omega)]
    split <;> omega
/-- how much room there is -/
theorem J.room (hJ : J K W g s0 μ0 μ s) (hO : μ 109 22 = 1 → rO K W g μ s Γ F dd Ln) : μ 109 22 = 1 → 0 ≤ μ 109 21 ∧ μ 109 21 + 1500 ≤ 9000 := fun w => by
  have := (hO w).room hJ.i
  have := (hO w).x.n0
  have := pEn0 s.2.2.2
  omega
theorem J.at' (hJ : J K W g s0 μ0 μ s) : 0 ≤ s.2.1 ∧ s.2.1 ≤ 3000 ∧ s.2.1 ≤ W := by
  have := hJ.i.w.at0
  have := hJ.i.w.atW
  have := hJ.i.kk.2.1
  omega
theorem J.len (hJ : J K W g s0 μ0 μ s) : (s.2.2.2.length : Int) ≤ 3001 := by
  have := hJ.i.w.len
  have := hJ.at'
  omega
theorem aM_n {i : Int} {e : aE} (h : ν 129 i = e.1) (hk : e.1 ≠ 40 ∧ e.1 ≠ 41 ∧ e.1 ≠ 23 ∧ e.1 ≠ 24 ∧ e.1 ≠ 28 ∧ e.1 ≠ 3) : aM ν i e := ⟨h, fun w => by omega, fun w => by omega, fun w => by omega, fun w => by omega, fun w => by omega, fun w => by omega⟩
theorem mPu.kd {x y : Int} (h : mPu ν ν' m x y) (l : ν 109 38 = p.length) : ν' 129 p.length = m ∧ ν' 130 p.length = x ∧ ν' 131 p.length = y := by
  obtain ⟨q1, q2, q3, q4, q5, q6, q7⟩ := h
  rw [l] at q3 q4 q5
  exact ⟨q3, q4, q5⟩
theorem c_rd_readTold {kd : Int} (hJ : J K W g s0 μ0 μ s) (hm : s.1 = 1) (hk : K s.2.1 = kd) (h19 : kd = 19 ∨ kd = 17) (hF : ∀ ν', rFt g μ0 ν' → P 0 ν') (hN : ∀ ν' s', J K W g s0 μ0 ν' s' ∧ aMs W s' < aMs W s → P 0 ν') : jj_mM_readTold X (d + 2) 0 (ab_la [109, kd]) [] μ P := by
  obtain ⟨Γ, F, dd, Ln, G, hO, hZ⟩ := hJ.get
  have v0 := hJ.v0 hO
  have at0 := hJ.at'
  have room := hJ.room hO
  have len := hJ.len
  have s31 : ∀ l, l 0 = 109 → l 1 = kd → (μ 109 22 = 1 → kd = 19 → bK s.2.2.2 = 3) → jj_mM_readTold X (d + 2) 31 l [] μ P := by
    intro l l0 l1 hb
    refine bk_mM_readTold_31 l0 ?_
    simp only [l1]
    refine c_V_begun hJ.i v0 (fun w => by have := room w; omega) (by decide) fun ν1 v1 _ _ ν4 e4 => ?_
    have v4 := v1.fa1 ⟨at0.1, by omega⟩ e4
    refine ⟨fun n19 => ?_, fun y19 => ?_⟩
    · have k17 : K s.2.1 = 17 := by omega
      refine c_V_push (e := ⟨30, 0, 0, 0⟩) (ex' := fun _ => False) hJ.i v4 (by omega) (Int.le_refl _) (fun ν' m => aM_n (m.kd v4.ln).1 (by decide)) (fun w ν' Γ' m x G' => ⟨eF_n (by decide), fun z => absurd z (by decide), fun j z => z.elim⟩) fun ν5 v5 _ ν8 e8 => hN _ _ (V.toX (v5.fm e8) hJ hO hZ hm ?_ (by decide) (by decide) rfl rfl (by omega) (by omega) (by omega))
      simp [aNext, aStat, hm, k17]
    · have k19 : K s.2.1 = 19 := by omega
      refine c_V_push (e := ⟨29, 0, 0, 0⟩) (ex' := fun _ => False) hJ.i v4 (by omega) (Int.le_refl _) (fun ν' m => aM_n (m.kd v4.ln).1 (by decide)) (fun w ν' Γ' m x G' => ⟨eF_29 rfl (hb w y19), fun z => absurd z (by decide), fun j z => z.elim⟩) fun ν5 v5 _ ν8 e8 => hN _ _ (V.toX (v5.fm e8) hJ hO hZ hm ?_ (by decide) (by decide) rfl rfl (by omega) (by omega) (by omega))
      simp [aNext, aStat, hm, k19]
  refine bk_mM_readTold_0 rfl ⟨fun n1 => s31 _ rfl rfl fun w => absurd w n1, fun w1 => ⟨fun n19 => s31 _ rfl rfl fun _ w => absurd w n19, fun y19 => ?_⟩⟩
  have hp := hJ.i.w.m1 (Or.inl hm)
  refine c_mM_isInDef (by rw [v0.ln]; omega) (fun i i0 i1 i2 => ⟨fun _ => s31 _ rfl rfl fun _ _ => ?_, fun w => absurd w (by decide)⟩) (fun _ => ⟨fun w => absurd rfl w, fun _ => c_V_fail hJ.i v0 (by decide) (by rw [v0.at']; omega) hF⟩)
  rw [v0.ln] at i1
  have key : ∀ {p : List aE}, aPs p → aP μ p → i < (p.length : Int) → bK p = 3 := by
    intro p
    induction p with
    | nil => intro h; exact h.elim
    | cons e r ih =>
      intro h ha hl
      have l : ((e :: r).length : Int) = r.length + 1 := by simp
      have h' := h
      rcases h with ⟨h, hr⟩ | ⟨h, hr⟩
      · rw [hr] at hl ha ⊢
        have : i = 0 := by simp at hl; omega
        have := ha.1.1
        show e.1 = 3
        rw [← this]
        subst i
        exact i2
      · rw [bK_cons hr.ne]
        by_cases e1 : i = r.length
        · have := ha.1.1
          rw [← e1, i2] at this
          omega
        · exact ih hr ha.2 (by omega)
  exact key hp v0.ap i1
end M42

/-! THE REFERENCE, part 43: readTested, readRead -/
section M43
variable {X : jm_X} {d : Nat} {P : Int → ab_m → Prop} {K : Int → Int} {W g : Int} {s0 : aS} {μ0 μ ν ν' : ab_m} {s s' : aS} {Γ Γ' : tQ} {F : Int → List Int} {dd : Int} {Ln : Int → Nat} {G : Int → List Int} {a m o : Int} {p : List aE} {kp k wv hh : Int} {ss : List Int} {ex : Int → Prop} {q : Int}
/-- statements go on with the same pile -/
theorem V.toS (v : V g μ Γ dd ν a m o s.2.2.2 s.2.2.2.length k wv (hQ s) (sQ F s) (fun _ => False) (qP s.2.2.2)) (hJ : J K W g s0 μ0 μ s) (hO : μ 109 22 = 1 → rO K W g μ s Γ F dd Ln) (hZ : μ 109 22 = 0 → rZ K W s0 μ s G) (hm : s.1 = 1) (hm' : m = 1 ∨ m = 4) (en : aNext K s = some ((m, a, s.2.2.1, s.2.2.2), none)) (k0 : 0 ≤ k) (ha : s.2.1 ≤ a) (bu : k ≤ 2 * (a - s.2.1)) (bw : 2 * wv ≤ a - s.2.1) : J K W g s0 μ0 ν (m, a, s.2.2.1, s.2.2.2) ∧ aMs W (m, a, s.2.2.1, s.2.2.2) < aMs W s := by
  have hp := hJ.i.w.m1 (Or.inl hm)
  have at0 := hJ.i.w.at0
  have sl : μ 109 22 = 1 → (sW Ln s.2.1.toNat : Int) ≤ sW Ln a.toNat := fun _ => sW_at at0 ha
  refine V.fin (kp := s.2.2.2.length) (k := k) (wv := wv) (o := o) ?_ hJ hO hZ en (fun w => by have w : m = 3 := w; omega) k0 (fun w => ?_) (fun w => ?_) (fun w => v.nb (hO w).nm.nb (Int.le_refl _)) rfl hp.ne
  · have e1 : hQ (m, a, s.2.2.1, s.2.2.2) = hQ s := by
      unfold hQ
      dsimp only
      rw [if_neg (show ¬ m = 3 by omega), if_neg (show ¬ s.1 = 3 by omega)]
    have e2 : sQ F (m, a, s.2.2.1, s.2.2.2) = sQ F s := by
      unfold sQ
      dsimp only
      rw [if_neg (show ¬ m = 3 by omega), if_neg (show ¬ s.1 = 3 by omega)]
    rw [e1, e2]
    exact v
  · have := sl w
    show k + pEn s.2.2.2 + (sW Ln s.2.1.toNat : Int) ≤ pEn s.2.2.2 + 2 * (a - s.2.1) + (sW Ln a.toNat : Int)
    omega
  · have := sl w
    show 2 * wv + pDo s.2.2.2 + 2 * (sW Ln s.2.1.toNat : Int) ≤ a - s.2.1 + pDo s.2.2.2 + 2 * (sW Ln a.toNat : Int)
    omega
theorem V.toTX (v : V g μ Γ dd ν a m o p kp k wv hh ss ex q) (Gk : ∀ j, 0 ≤ j → j ≤ μ 109 21 → tQe Γ Γ' j) : tX (tEv μ g dd) (tEv ν g dd) Γ Γ' (μ 109 21) :=
  ⟨fun j j0 j1 => (v.tx j j0 j1).1, fun j j0 j1 z => (v.tx j j0 j1).2 z, Gk, Int.le_refl _, fun y _ _ => ⟨v.nf 120 _ (by omega), v.nf 119 _ (by omega)⟩, fun y hy => by
    obtain ⟨i, i0, i1, i2⟩ := hy
    exact ⟨i, i0, by rw [v.nf 123 g (by omega)]; exact i1, by rw [v.nf 122 _ (by omega)]; exact i2⟩⟩
theorem V.ok {x : Int} {pd : Int → Prop} (v : V g μ Γ dd ν a m o p kp k wv hh ss ex q) (hO : rO K W g μ s Γ F dd Ln) (k0 : 0 ≤ k) (x' : x1 ν g Γ' dd p (μ 109 21 + k) hh ss (μ 109 32) pd q) (Gk : ∀ j, 0 ≤ j → j ≤ μ 109 21 → tQe Γ Γ' j) (h : tOk (tEv μ g dd) Γ (μ 109 21) x) : tOk (tEv ν g dd) Γ' (μ 109 21 + k) x := by
  have n0 := hO.x.n0
  have t := v.toTX Gk
  have gr := (Gk _ n0 (Int.le_refl _)).2.2.2.1
  exact (t.ok ⟨n0, Int.le_refl _⟩ (hO.x.tr n0 (Int.le_refl _)).r0 h).up (by omega) (by rw [x'.cr, gr, hO.x.cr])
theorem c_V_meaning {w kd : Int} (hi : rI K W g μ0 μ s) (hO : μ 109 22 = 1 → rO K W g μ s Γ F dd Ln) (v : V g μ Γ dd ν a m o p kp k wv hh ss ex q) (hw : 0 ≤ w ∧ w < 3002) (hP : ∀ r, (μ 109 22 = 1 → ∃ i, 0 ≤ i ∧ i < μ 109 27 ∧ μ 126 i = kd ∧ r = μ 127 i) → P r ν) (hF : ∀ r ν', rFt g μ0 ν' → P r ν') : jj_mM_meaning X (d + 1) 0 (ab_la [109, w, kd]) [] ν P := by
  rcases hi.p01 with h0 | h1
  · exact c_mM_meaning0 (by rw [v.ps]; exact h0) (hP 0 fun w => by omega)
  · have nm := (hO h1).nm.nm
    have at0 := hi.w.atW
    have W3 := hi.kk.2.1
    have e27 := v.nf 109 27 (by omega)
    refine c_mM_meaning (by rw [v.ps]; exact h1) v.ft hw (by rw [e27]; omega) (fun i i0 i1 i2 => hP _ fun _ => ⟨i, i0, by omega, by rw [← v.nf 126 i (by omega)]; exact i2, v.nf 127 i (by omega)⟩) fun ν' m' => hF _ _ (hi.fault v.fr v.rs m')
/-- the step that was laid last -/
theorem x1.last {n kd : Int} {dn : Int} {pd : Int → Prop} (x : x1 ν g Γ dd p (n + 1) hh ss dn pd q) (n0 : 0 ≤ n) (hS : ν 115 (9000 * g + n) = kd) (hk : kd ≠ 29 ∧ kd ≠ 30) : tMv kd (tAr (tEv ν g dd) kd (ν 116 (9000 * g + n))) (Γ.1 n) (Γ.2.1 n) = some (hh, ss) ∧ Γ.2.2.2.1 n = Γ.2.2.2.1 (n + 1) := by
  have f := (x.flat n n0 (by omega)).1.1
  rw [show (tEv ν g dd).1 n = kd from hS, show (tEv ν g dd).2.1 n = ν 116 (9000 * g + n) from rfl] at f
  rcases f with f | f | ⟨f1, f2, f3, f4⟩
  · exact absurd f.1 hk.1
  · exact absurd f.1 hk.2
  · rw [x.ch, x.cs] at f1
    exact ⟨f1, f3.symm⟩
theorem c_rd_readTested {kd : Int} (hJ : J K W g s0 μ0 μ s) (hm : s.1 = 1) (hk : K s.2.1 = kd) (h14 : kd = 14 ∨ kd = 21) (hF : ∀ ν', rFt g μ0 ν' → P 0 ν') (hN : ∀ ν' s', J K W g s0 μ0 ν' s' ∧ aMs W s' < aMs W s → P 0 ν') : jj_mM_readTested X (d + 3) 0 (ab_la [109, kd]) [] μ P := by
  obtain ⟨Γ, F, dd, Ln, G, hO, hZ⟩ := hJ.get
  have at0 := hJ.at'
  have room := hJ.room hO
  have len := hJ.len
  have a0 : 0 ≤ s.2.1 ∧ s.2.1 < 3002 := by omega
  have a1 : 0 ≤ s.2.1 + 1 ∧ s.2.1 + 1 < 3002 := by omega
  have hp := hJ.i.w.m1 (Or.inl hm)
  refine bk_mM_readTested_0 rfl (c_V_opens hJ.i (hJ.v0 hO) a0 (fun ν1 v1 => ⟨fun _ => ?_, fun w => absurd w (by decide)⟩) (fun ν1 f1 => ⟨fun w => absurd rfl w, fun _ => hF ν1 f1⟩))
  refine c_V_begun hJ.i v1 (fun w => by have := room w; omega) (by decide) fun ν4 v4 _ e14 ν7 e7 => ?_
  have v7 := v4.fa1 a0 e7
  have e7' : μ 109 22 = 1 → ν7 115 (9000 * g + (μ 109 21 + 0)) = 14 := fun w => by rw [e7, ab_mud, if_neg (by omega)]; exact (e14 w).2
  refine c_V_takeOpen hJ.i v7 a1 (fun k40 ν8 v8 => ⟨fun _ => ?_, fun w => absurd w (by decide)⟩) (fun ν1 f1 => ⟨fun w => absurd rfl w, fun _ => hF ν1 f1⟩)
  refine ⟨fun n14 => ?_, fun y14 => ?_⟩
  · have n14 : kd ≠ 14 := n14
    have k21 : K s.2.1 = 21 := by omega
    refine bk_mM_readTested_46 rfl ⟨fun _ => ?_, fun w => absurd w n14⟩
    refine c_V_step hJ.i v8 (fun w => by have := room w; omega) (by decide) (by decide) (h' := hQ s) (s1 := 3 :: sQ F s) (fun _ => rfl) (fun _ _ _ _ => tVk_n (by decide)) fun ν9 r v9 _ e9 => ?_
    have v9' := v9.more (ex' := fun _ => False) fun _ _ _ _ j _ _ z => z.elim (fun z => z.elim) fun z => absurd z.1 (by unfold tGo; decide)
    refine c_V_push (e := ⟨21, 0, 0, 0⟩) (ex' := fun _ => False) hJ.i v9' (by omega) (Int.le_refl _) (fun ν' m => aM_n (m.kd v9'.ln).1 (by decide)) (fun w ν' Γ' m x G' => ?_) fun ν5 v5 _ ν6 e6 => hN _ _ (V.toX (v5.fm e6) hJ hO hZ hm ?_ (by decide) (by decide) rfl rfl (by omega) (by omega) (Or.inr ⟨by decide, by rw [show tPu 18 = 1 from rfl]; omega⟩))
    · obtain ⟨r1, r2, r3, r4⟩ := e9 w
      have rm := room w
      have k130 := (m.kd v9'.ln).2.1
      refine ⟨eF_21 rfl ?_, fun _ => ?_, fun j z => z.elim⟩
      · rw [k130, r1]
        have la := x1.last (n := μ 109 21 + (0 + 1)) (by rw [show μ 109 21 + (0 + 1) + 1 = μ 109 21 + (0 + 1 + 1) by omega]; exact x) (by omega) r3 (by decide)
        have k2 : Γ'.1 (μ 109 21 + (0 + 1)) = hQ s ∧ Γ'.2.2.2.1 (μ 109 21 + (0 + 1)) = Γ'.2.2.2.1 (μ 109 21 + (0 + 1) + 1) := by
          have this : some (Γ'.1 (μ 109 21 + (0 + 1)), 3 :: Γ'.2.1 (μ 109 21 + (0 + 1))) = some (hQ s, 3 :: sQ F s) := la.1
          injection this with this
          injection this with t1 t2
          exact ⟨t1, la.2⟩
        rw [show μ 109 21 + (0 + 1 + 1) = μ 109 21 + (0 + 1) + 1 by omega]
        refine ⟨by omega, by omega, ?_, ?_, k2.2⟩
        · show ν' 115 _ = 18
          rw [m.1 115 _ (by omega) (by omega)]; exact r3
        · rw [k2.1]; unfold hQ; rw [hp.h0, if_neg (by omega)]; rfl
      · rw [r1]
        intro i i0 i1 L a n3 y hy
        have sy := x.chn.S i0 i1 a hy
        have : y ≠ μ 109 21 + (0 + 1) := fun e => by
          rw [e, show (tEv ν9 g dd).1 (μ 109 21 + (0 + 1)) = 18 from r3] at sy
          omega
        omega
    · simp [aNext, aStat, hm, k21, k40] <;> omega
  · have y14 : kd = 14 := y14
    have k14 : K s.2.1 = 14 := by omega
    refine bk_mM_readTested_46 rfl ⟨fun w => absurd y14 w, fun _ => ?_⟩
    refine c_V_push (e := ⟨20, 0, 0, 0⟩) (ex' := fun _ => False) hJ.i v8 (by omega) (Int.le_refl _) (fun ν' m => aM_n (m.kd v8.ln).1 (by decide)) (fun w ν' Γ' m x G' => ⟨eF_n (by decide), fun z => absurd z (by decide), fun j z => z.elim⟩) fun ν5 v5 _ ν6 e6 => hN _ _ (V.toX (v5.fm e6) hJ hO hZ hm ?_ (by decide) (by decide) rfl rfl (by omega) (by omega) (by omega))
    simp [aNext, aStat, hm, k14, k40] <;> omega
theorem c_rd_readRead (hJ : J K W g s0 μ0 μ s) (hm : s.1 = 1) (hk : K s.2.1 = 18) (hF : ∀ ν', rFt g μ0 ν' → P 0 ν') (hN : ∀ ν' s', J K W g s0 μ0 ν' s' ∧ aMs W s' < aMs W s → P 0 ν') : jj_mM_readRead X (d + 3) 0 (ab_la [109]) [] μ P := by
  obtain ⟨Γ, F, dd, Ln, G, hO, hZ⟩ := hJ.get
  have at0 := hJ.at'
  have room := hJ.room hO
  have a0 : 0 ≤ s.2.1 ∧ s.2.1 < 3002 := by omega
  have l1 := aK_lt hJ.i.kk at0.1 at0.2.2 hk (by decide)
  have W3 := hJ.i.kk.2.1
  have a1 : 0 ≤ s.2.1 + 1 ∧ s.2.1 + 1 < 3002 := by omega
  refine bk_mM_readRead_0 rfl fun ν1 e1 => ?_
  have v1 := (hJ.v0 hO).fa1 a0 e1
  rw [v1.at', v1.Kk hJ.i]
  refine ⟨a1, fun kn => ?_, fun _ => c_V_misfit hJ.i v1 a1 fun ν' f => hF ν' f⟩
  have l2 := aK_lt hJ.i.kk a1.1 l1 kn (by decide)
  have a2 : 0 ≤ s.2.1 + 1 + 1 ∧ s.2.1 + 1 + 1 < 3002 := by omega
  refine c_V_meaning hJ.i hO v1 a1 (fun r hr => ⟨fun _ => ?_, fun w => ?_⟩) (fun r ν' f => ⟨fun w => absurd f.m5 w, fun _ => hF ν' f⟩)
  · refine c_V_begun hJ.i v1 (fun w => by have := room w; omega) (by decide) fun ν5 v5 _ _ => ?_
    refine c_V_step hJ.i v5 (fun w => by have := room w; omega) (by decide) (by decide) (h' := hQ s) (s1 := sQ F s) (fun _ => rfl) (fun w Γ' x Gk => ?_) fun ν8 r8 v8 _ _ ν11 e11 => ?_
    · obtain ⟨i, i0, i1, i2, i3⟩ := hr w
      have nk := ((hO w).nm.nk i i0 i1).1 i2
      have it := (hO w).nm.it
      rw [← i3] at nk
      exact ⟨fun z => by omega, fun z => by omega, fun z => by omega, fun z => by omega, fun _ => by omega, fun _ => v5.ok (hO w) (by decide) x Gk nk.2.2, fun z => by omega⟩
    · have v8' := v8.more (ex' := fun _ => False) fun _ _ _ _ j _ _ z => z.elim (fun z => z.elim) fun z => absurd z.1 (by unfold tGo; decide)
      have v11 := v8'.fa1 a1 e11
      refine c_V_take hJ.i v11 a2 (fun k59 ν12 v12 => ⟨fun w => absurd w (by decide), fun _ ν15 e15 => hN _ _ (V.toS (v12.fm e15) hJ hO hZ hm (Or.inr rfl) ?_ (by decide) (by omega) (by omega) (by rw [show tPu 28 = 0 from rfl]; omega))⟩) (fun ν' f => ⟨fun _ => hF ν' f, fun w => absurd rfl w⟩)
      have k59 : K (s.2.1 + 2) = 59 := by rw [show s.2.1 + 2 = s.2.1 + 1 + 1 by omega]; exact k59
      rw [show s.2.1 + 1 + 1 + 1 = s.2.1 + 3 by omega]
      simp [aNext, aStat, hm, hk, kn, k59]
  · rw [v1.md] at w; omega
end M43

