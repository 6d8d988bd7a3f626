/-! THE REFERENCE, part 44: readLeave -/
section M44
variable {X : jm_X} {d : Nat} {P : Int → ab_m → Prop} {K : Int → Int} {W g : Int} {s0 : aS} {μ0 μ ν ν' : ab_m} {s s' : aS} {Γ Γ' : tQ} {F : Int → List Int} {dd : Int} {Ln : Int → Nat} {G : Int → List Int} {a m o : Int} {p : List aE} {kp k wv hh : Int} {ss : List Int} {ex : Int → Prop} {q : Int}
theorem eP.at' {E : tE} {n i : Int} : ∀ {p : List aE}, eP μ E Γ n p → aP μ p → 0 ≤ i → i < (p.length : Int) → ∃ e r, (r.length : Int) = i ∧ e.1 = μ 129 i ∧ eF μ E Γ n e r i
  | [], _, _, a, b => by simp at b; omega
  | e :: r, h, ha, a, b => by
    have l : ((e :: r).length : Int) = r.length + 1 := by simp
    by_cases e1 : i = r.length
    · subst e1; exact ⟨e, r, rfl, ha.1.1.symm, h.1⟩
    · exact eP.at' h.2 ha.2 a (by omega)
theorem aPs.loop {i : Int} : ∀ {p : List aE}, aPs p → aP μ p → 0 ≤ i → i < (p.length : Int) → μ 129 i = 6 ∨ μ 129 i = 7 → 4 ∈ sP F p ∨ 5 ∈ sP F p
  | [], h, _, _, _, _ => h.elim
  | e :: r, h, ha, a, b, k => by
    have l : ((e :: r).length : Int) = r.length + 1 := by simp
    have ke := h.k e (List.mem_cons_self ..)
    rw [sP_cons, if_neg (show ¬ e.1 = 22 by omega)]
    by_cases e1 : i = r.length
    · subst e1
      rw [ha.1.1] at k
      unfold sO
      rw [if_neg (by omega)]
      rcases k with k | k
      · rw [if_pos k]; exact Or.inl (List.mem_append_left _ (List.mem_singleton.mpr rfl))
      · rw [if_neg (by omega), if_pos k]; exact Or.inr (List.mem_append_left _ (List.mem_singleton.mpr rfl))
    · have hr : aPs r := by
        rcases h with ⟨-, h⟩ | ⟨-, h⟩
        · exfalso; rw [h] at b e1; simp at b e1; omega
        · exact h
      rcases hr.loop ha.2 a (by omega) k with z | z
      · exact Or.inl (List.mem_append_right _ z)
      · exact Or.inr (List.mem_append_right _ z)
theorem aPs.n6 : ∀ {p : List aE}, aPs p → ¬ 6 ∈ sP F p
  | [], h => h.elim
  | e :: r, h => by
    have ke := h.k e (List.mem_cons_self ..)
    rw [sP_cons, if_neg (show ¬ e.1 = 22 by omega)]
    intro z
    rcases List.mem_append.mp z with z | z
    · exact sO6 z
    · rcases h with ⟨-, h⟩ | ⟨-, h⟩
      · rw [h] at z; exact absurd z List.not_mem_nil
      · exact h.n6 z
theorem aPs.qm : ∀ {p : List aE}, aPs p → qP p = -1
  | [], h => h.elim
  | e :: r, h => by
    have ke := h.k e (List.mem_cons_self ..)
    rw [qP_cons, if_neg (by omega)]
    rcases h with ⟨-, h⟩ | ⟨-, h⟩
    · rw [h]; rfl
    · exact h.qm
set_option maxHeartbeats 2000000 in
/-- a chain grows by the step that was laid last -/
theorem V.link {c i : Int} (v : V g μ Γ dd ν a m o p kp (k + 1) wv hh ss (fun j => ex j ∨ j = μ 109 21 + k) q) (hn : 0 ≤ μ 109 21 + k ∧ μ 109 21 + k < 9000) (f : ∀ b j, ¬ (b = c ∧ j = i) → ν' b j = ν b j) (e : ν' c i = μ 109 21 + k) (i0 : 0 ≤ i ∧ i < (p.length : Int)) (w : μ 109 22 = 1) (ht : ν 116 (9000 * g + (μ 109 21 + k)) = ν c i) (hk : (c = 132 ∧ (ν 129 i = 6 ∨ ν 129 i = 7) ∧ ν 115 (9000 * g + (μ 109 21 + k)) = 24) ∨ (c = 133 ∧ ν 129 i = 7 ∧ ν 115 (9000 * g + (μ 109 21 + k)) = 25 ∧ i ≠ q) ∨ (c = 132 ∧ ν 129 i = 3 ∧ ν 115 (9000 * g + (μ 109 21 + k)) = 26)) (hh0 : hh = 0) (hlt : ν 129 i ≠ 3 → ν 130 i < μ 109 21 + k ∧ ∀ j, i < j → j < (p.length : Int) → ν 129 j ≠ 6 ∧ ν 129 j ≠ 7 ∧ ν 129 j ≠ 21) : V g μ Γ dd ν' a m o p kp (k + 1) wv hh ss ex q := by
  have hc : c = 132 ∨ c = 133 := by omega
  have fo : ∀ b j, b ≠ 132 → b ≠ 133 → ν' b j = ν b j := fun b j z1 z2 => f b j (by omega)
  obtain ⟨Γ', x, n, G, ww⟩ := v.one w
  have x' : x1 ν g Γ' dd p (μ 109 21 + k + 1) hh ss (μ 109 32) (fun j => pN ν g q p.length j ∨ (ex j ∨ j = μ 109 21 + k)) q := by
    rw [show μ 109 21 + k + 1 = μ 109 21 + (k + 1) by omega]; exact x
  have ne26 : ν 115 (9000 * g + (μ 109 21 + k)) = 24 ∨ ν 115 (9000 * g + (μ 109 21 + k)) = 25 → Γ'.1 (μ 109 21 + k) = 0 := fun z => by
    have la := x'.last hn.1 rfl (by omega)
    rcases z with z | z <;> rw [z] at la
    · have l1 : (if (4 ∈ Γ'.2.1 (μ 109 21 + k) ∨ 5 ∈ Γ'.2.1 (μ 109 21 + k)) ∧ ¬ 6 ∈ Γ'.2.1 (μ 109 21 + k) then some (Γ'.1 (μ 109 21 + k), Γ'.2.1 (μ 109 21 + k)) else none) = some (hh, ss) := la.1
      split at l1
      · injection l1 with l1; injection l1 with l1 l2; omega
      · cases l1
    · have l1 : (if (4 ∈ Γ'.2.1 (μ 109 21 + k) ∨ 5 ∈ Γ'.2.1 (μ 109 21 + k)) ∧ ¬ 6 ∈ Γ'.2.1 (μ 109 21 + k) then some (Γ'.1 (μ 109 21 + k), Γ'.2.1 (μ 109 21 + k)) else none) = some (hh, ss) := la.1
      split at l1
      · injection l1 with l1; injection l1 with l1 l2; omega
      · cases l1
  have e26 : ν 115 (9000 * g + (μ 109 21 + k)) = 26 → Γ'.1 (μ 109 21 + k) = 1 := fun z => by
    have la := x'.last hn.1 z (by decide)
    have l1 : (if 1 ≤ Γ'.1 (μ 109 21 + k) then some (Γ'.1 (μ 109 21 + k) - 1, Γ'.2.1 (μ 109 21 + k)) else none) = some (hh, ss) := la.1
    split at l1
    · injection l1 with l1; injection l1 with l1 l2; omega
    · cases l1
  have hr : Γ'.2.2.2.1 (μ 109 21 + k) = Γ'.2.2.2.1 (μ 109 21 + k + 1) := (x'.last hn.1 rfl (by omega)).2
  have chS : ∀ L, mCh ν g L (ν c i) → ∀ y ∈ L, y < μ 109 21 + k := fun L hL y hy => by
    have z : cA ν g q i L := by
      rcases hk with z | z | z
      · rw [z.1] at hL; exact Or.inl ⟨by omega, hL⟩
      · rw [z.1] at hL; exact Or.inr ⟨z.2.2.2, z.2.1, hL⟩
      · rw [z.1] at hL; exact Or.inl ⟨by omega, hL⟩
    have sy := x'.chn.S i0.1 i0.2 z hy
    have nn : y ≠ μ 109 21 + k := fun e => by
      subst e
      have hL0 := hL
      cases L with
      | nil => cases hy
      | cons y0 r =>
        -- the head of the chain is told by the last step: the last step itself isn't in it
        obtain ⟨c1, c2, c3, c4, c5⟩ := hL0
        have mem : ∀ {L : List Int} {x : Int}, mCh ν g L x → (μ 109 21 + k) ∈ L → mCh ν g L x → ∃ L2, mCh ν g L2 (ν 116 (9000 * g + (μ 109 21 + k))) ∧ ∀ z ∈ L2, z < μ 109 21 + k := by
          intro L
          induction L with
          | nil => intro x _ h; cases h
          | cons u r ih =>
            intro x h1 h2 _
            obtain ⟨d1, d2, d3, d4, d5⟩ := h1
            rcases List.mem_cons.mp h2 with h2 | h2
            · rw [h2]; exact ⟨r, d5, d4⟩
            · exact ih d5 h2 d5
        obtain ⟨L2, m1, m2⟩ := mem hL hy hL
        rw [ht] at m1
        have := m1.uniq hL
        rw [this] at m2
        have := m2 _ hy
        omega
    omega
  have y := x'.link hn f e i0 hr ht (by
    rcases hk with z | z | z
    · exact Or.inl ⟨z.1, z.2.1, z.2.2, ne26 (by omega)⟩
    · exact Or.inr (Or.inl ⟨z.1, z.2.1, z.2.2.1, ne26 (by omega)⟩)
    · exact Or.inr (Or.inr ⟨z.1, z.2.1, z.2.2, e26 z.2.2⟩)) hlt (fun z => by omega) chS
  refine ⟨fun b j z => (f b j fun w => z (by unfold rdW; omega)).trans (v.fr b j z), by rw [fo 109 40 (by decide) (by decide)]; exact v.at', by rw [fo 109 39 (by decide) (by decide)]; exact v.md, by rw [fo 109 46 (by decide) (by decide)]; exact v.op, by rw [fo 109 38 (by decide) (by decide)]; exact v.ln, y.ap, by rw [fo 109 43 (by decide) (by decide)]; exact v.ft, fun b j z => by rw [fo b j (by omega) (by omega)]; exact v.tb b j z, fun j => by rw [fo 121 j (by decide) (by decide)]; exact v.rs j, fun b j z => by rw [fo b j (by omega) (by omega)]; exact v.nf b j z, fun i x y => by rw [fo 130 i (by decide) (by decide)]; exact v.kp i x y, v.hf, fun j x y => by rw [fo 115 _ (by decide) (by decide), fo 116 _ (by decide) (by decide)]; exact v.tx j x y, fun _ => ⟨Γ', ?_, by rw [fo 109 21 (by decide) (by decide)]; exact n, G, ww⟩⟩
  rw [show μ 109 21 + (k + 1) = μ 109 21 + k + 1 by omega]
  -- where the chain is now
  have new : ∀ L, mCh ν g L (ν c i) → mCh ν' g ((μ 109 21 + k) :: L) (ν' c i) := fun L hL => by
    refine ⟨e, hn.1, hn.2, chS L hL, ?_⟩
    rw [fo 116 _ (by decide) (by decide), ht]
    exact hL.same fun y _ => fo 116 _ (by decide) (by decide)
  have mc : ∀ {L x}, mCh ν g L x → mCh ν' g L x := fun m => m.same fun y _ => fo 116 _ (by decide) (by decide)
  have ownL : ∃ L, mCh ν g L (ν c i) := by
    rcases hk with z | z | z
    · obtain ⟨L, hL, -⟩ := x'.chn.lo i i0.1 i0.2 z.2.1; rw [z.1]; exact ⟨L, hL⟩
    · obtain ⟨L, hL, -⟩ := x'.chn.nx i i0.1 i0.2 z.2.2.2 z.2.1; rw [z.1]; exact ⟨L, hL⟩
    · obtain ⟨L, hL, -⟩ := x'.chn.df i i0.1 i0.2 z.2.1; rw [z.1]; exact ⟨L, hL⟩
  have own : ∀ L, mCh ν g L (ν c i) → ∀ j, j = μ 109 21 + k ∨ j ∈ L → pE ν' g q i j := fun L hL j hj => by
    have hj' : j ∈ (μ 109 21 + k) :: L := List.mem_cons.mpr hj
    have nl := new L hL
    rcases hk with z | z | z
    · rw [z.1] at nl; exact Or.inr (Or.inr (Or.inr (Or.inl ⟨by rw [fo 129 i (by decide) (by decide)]; omega, _, nl, hj'⟩)))
    · rw [z.1] at nl; exact Or.inr (Or.inr (Or.inr (Or.inr ⟨z.2.2.2, by rw [fo 129 i (by decide) (by decide)]; omega, _, nl, hj'⟩)))
    · rw [z.1] at nl; exact Or.inr (Or.inr (Or.inr (Or.inl ⟨by rw [fo 129 i (by decide) (by decide)]; omega, _, nl, hj'⟩)))
  refine y.more fun j _ _ _ z => ?_
  rcases z with ⟨u, u0, u1, pe⟩ | z | z
  · refine Or.inl (Or.inl ⟨u, u0, u1, ?_⟩)
    by_cases ui : u = i
    · subst ui
      rcases pe with pe | pe | pe | ⟨p1, L, p2, p3⟩ | ⟨p0, p1, L, p2, p3⟩
      · exact Or.inl (by rw [fo 129 u (by decide) (by decide), fo 130 u (by decide) (by decide)]; exact pe)
      · exact Or.inr (Or.inl (by rw [fo 129 u (by decide) (by decide), fo 131 u (by decide) (by decide)]; exact pe))
      · exfalso; omega
      · by_cases c2 : c = 132
        · rw [← c2] at p2; exact own L p2 j (Or.inr p3)
        · exact Or.inr (Or.inr (Or.inr (Or.inl ⟨by rw [fo 129 u (by decide) (by decide)]; exact p1, L, by rw [f 132 u (by omega)]; exact mc p2, p3⟩)))
      · by_cases c2 : c = 133
        · rw [← c2] at p2; exact own L p2 j (Or.inr p3)
        · exact Or.inr (Or.inr (Or.inr (Or.inr ⟨p0, by rw [fo 129 u (by decide) (by decide)]; exact p1, L, by rw [f 133 u (by omega)]; exact mc p2, p3⟩)))
    · unfold pE
      rw [fo 129 u (by decide) (by decide), fo 130 u (by decide) (by decide), fo 131 u (by decide) (by decide), f 132 u (by omega), f 133 u (by omega)]
      rcases pe with pe | pe | pe | ⟨p1, L, p2, p3⟩ | ⟨p0, p1, L, p2, p3⟩
      · exact Or.inl pe
      · exact Or.inr (Or.inl pe)
      · exact Or.inr (Or.inr (Or.inl pe))
      · exact Or.inr (Or.inr (Or.inr (Or.inl ⟨p1, L, mc p2, p3⟩)))
      · exact Or.inr (Or.inr (Or.inr (Or.inr ⟨p0, p1, L, mc p2, p3⟩)))
  · exact Or.inl (Or.inr z)
  · obtain ⟨L, hL⟩ := ownL
    exact Or.inl (Or.inl ⟨i, i0.1, i0.2, own L hL j (Or.inl z)⟩)
end M44
