/-! THE REFERENCE, part 70: goOver, read -/
section M70
variable {X : jm_X} {d : Nat} {P : Int → ab_m → Prop} {K : Int → Int} {W g : Int} {μ μ' ν : ab_m} {G : Int → List Int}
def aS0 : aS := ⟨0, 0, 0, []⟩
theorem aW0 (h : 0 ≤ W) : aW W aS0 := ⟨Int.le_refl _, h, by show (0 : Int) ≤ 0 + 1; decide, by decide, fun _ => rfl, fun z => absurd z (by decide), fun z => absurd z (by decide), fun z => absurd z (by decide)⟩
/-- what a pass begins with -/
theorem c_rd_start (hk : aK K W) (hK : ∀ i, ν 111 i = K i) (h43 : ν 109 43 = 0) (h20 : ν 109 20 = g) (g01 : g = 0 ∨ g = 1) (p01 : ν 109 22 = 0 ∨ ν 109 22 = 1) (rs : ∀ j, 0 ≤ j → j < 16 → 0 ≤ ν 121 j ∧ ν 121 j ≤ 100) (z : ν 109 22 = 0 → ν 109 51 = 0 ∧ ∀ w, 0 ≤ w → w ≤ W → ν 135 w = -1) (o : ν 109 22 = 1 → aRest K aS0 G ∧ (∀ w, 0 ≤ w → w ≤ W → mBl ν ((G w).filter fun b => decide (b < 2)).reverse (ν 135 w)) ∧ (∀ w b, b ∈ G w → 2 ≤ b → b = 2 + ν 134 w) ∧ sW (cF G) (W + 1).toNat ≤ 1500) (hF : ∀ ν', rFt g ν ν' → P 0 ν') (hE : ∀ ν', rEd K W g aS0 ν ν' → P 0 ν') : jj_mM_goOver X (d + 7) 0 (ab_la [109]) [] ν P := by
  refine bk_mM_goOver_0 rfl fun ν1 e1 ν2 e2 ν3 e3 ν4 e4 ν5 e5 ν6 e6 ν7 e7 ν8 e8 ν9 e9 ν10 e10 ν11 e11 => ?_
  have F : ∀ j v, ∀ (α β : ab_m), β = ab_mu α 109 j v → β 109 j = v := fun j v α β h => by rw [h, ab_mud, if_pos ⟨rfl, rfl⟩]
  have Q : ∀ j v c i, ∀ (α β : ab_m), β = ab_mu α 109 j v → ¬ (c = 109 ∧ i = j) → β c i = α c i := fun j v c i α β h z => by rw [h, ab_mud, if_neg z]
  have f11 : ∀ c i, ¬ (c = 109 ∧ (i = 40 ∨ i = 38 ∨ i = 41 ∨ i = 42 ∨ (27 ≤ i ∧ i ≤ 32) ∨ i = 21)) → ν11 c i = ν c i := fun c i y => by
    rw [Q 21 0 c i _ _ e11 (by omega), Q 32 0 c i _ _ e10 (by omega), Q 31 0 c i _ _ e9 (by omega), Q 30 0 c i _ _ e8 (by omega), Q 29 0 c i _ _ e7 (by omega), Q 28 0 c i _ _ e6 (by omega), Q 27 0 c i _ _ e5 (by omega), Q 42 0 c i _ _ e4 (by omega), Q 41 0 c i _ _ e3 (by omega), Q 38 0 c i _ _ e2 (by omega), Q 40 0 c i _ _ e1 (by omega)]
  have v21 : ν11 109 21 = 0 := F 21 0 _ _ e11
  have v32 : ν11 109 32 = 0 := by rw [Q 21 0 _ _ _ _ e11 (by omega)]; exact F 32 0 _ _ e10
  have v31 : ν11 109 31 = 0 := by rw [Q 21 0 _ _ _ _ e11 (by omega), Q 32 0 _ _ _ _ e10 (by omega)]; exact F 31 0 _ _ e9
  have v30 : ν11 109 30 = 0 := by rw [Q 21 0 _ _ _ _ e11 (by omega), Q 32 0 _ _ _ _ e10 (by omega), Q 31 0 _ _ _ _ e9 (by omega)]; exact F 30 0 _ _ e8
  have v27 : ν11 109 27 = 0 := by rw [Q 21 0 _ _ _ _ e11 (by omega), Q 32 0 _ _ _ _ e10 (by omega), Q 31 0 _ _ _ _ e9 (by omega), Q 30 0 _ _ _ _ e8 (by omega), Q 29 0 _ _ _ _ e7 (by omega), Q 28 0 _ _ _ _ e6 (by omega)]; exact F 27 0 _ _ e5
  have v38 : ν11 109 38 = 0 := by rw [Q 21 0 _ _ _ _ e11 (by omega), Q 32 0 _ _ _ _ e10 (by omega), Q 31 0 _ _ _ _ e9 (by omega), Q 30 0 _ _ _ _ e8 (by omega), Q 29 0 _ _ _ _ e7 (by omega), Q 28 0 _ _ _ _ e6 (by omega), Q 27 0 _ _ _ _ e5 (by omega), Q 42 0 _ _ _ _ e4 (by omega), Q 41 0 _ _ _ _ e3 (by omega)]; exact F 38 0 _ _ e2
  have v40 : ν11 109 40 = 0 := by rw [Q 21 0 _ _ _ _ e11 (by omega), Q 32 0 _ _ _ _ e10 (by omega), Q 31 0 _ _ _ _ e9 (by omega), Q 30 0 _ _ _ _ e8 (by omega), Q 29 0 _ _ _ _ e7 (by omega), Q 28 0 _ _ _ _ e6 (by omega), Q 27 0 _ _ _ _ e5 (by omega), Q 42 0 _ _ _ _ e4 (by omega), Q 41 0 _ _ _ _ e3 (by omega), Q 38 0 _ _ _ _ e2 (by omega)]; exact F 40 0 _ _ e1
  clear e1 e2 e3 e4 e5 e6 e7 e8 e9 e10 e11
  rw [f11 109 20 (by omega), h20]
  refine ⟨by omega, fun ν12 e12 ν13 e13 => ?_⟩
  have f : ∀ c i, ¬ (c = 109 ∧ (i = 40 ∨ i = 38 ∨ i = 39 ∨ i = 41 ∨ i = 42 ∨ (27 ≤ i ∧ i ≤ 32) ∨ i = 21)) → ¬ (c = 123 ∧ i = g) → ν13 c i = ν c i := fun c i y1 y2 => by
    rw [e13, ab_mud, if_neg (by omega), e12, ab_mud, if_neg y2]; exact f11 c i (by omega)
  have w : ∀ i, i ≠ 39 → ν13 109 i = ν11 109 i := fun i y => by rw [e13, ab_mud, if_neg (by omega), e12, mu_ne (by decide)]
  have w39 : ν13 109 39 = 0 := by rw [e13, ab_mud, if_pos ⟨rfl, rfl⟩]
  have w123 : ν13 123 g = 0 := by rw [e13, ab_mud, if_neg (by omega), e12, ab_mud, if_pos ⟨rfl, rfl⟩]
  have W0 := hk.1
  have W3 := hk.2.1
  refine c_rd_go _ (s := aS0) rfl rfl ⟨⟨hk, fun i => by rw [f 111 i (by omega) (by omega)]; exact hK i, by rw [f 109 43 (by omega) (by omega)]; exact h43, ⟨w39, by rw [w 40 (by decide)]; exact v40, fun y => absurd y (by decide), by rw [w 38 (by decide)]; exact v38, trivial⟩, aW0 W0, by rw [f 109 20 (by omega) (by omega)]; exact h20, g01, by rw [f 109 22 (by omega) (by omega)]; exact p01, fun c i y => f c i (fun u => y (by unfold rdW; omega)) (fun u => y (by unfold rdW; omega)), fun j a b => by rw [f 121 j (by omega) (by omega)]; exact rs j a b⟩, fun p0 => ⟨fun _ => [], ?_⟩, fun p1 => ?_⟩ hF hE
  · rw [f 109 22 (by omega) (by omega)] at p0
    obtain ⟨z1, z2⟩ := z p0
    have e51 : ν13 109 51 = 0 := by rw [f 109 51 (by omega) (by omega)]; exact z1
    refine ⟨fun F' a => ?_, fun w a b => ?_, fun _ _ hb => (by cases hb), fun _ _ => rfl, fun _ hx => (by cases hx), by rw [e51]; exact Int.le_refl _, by rw [e51]; decide, ?_⟩
    · exact a
    · show mBu ν13 _ [] _
      rw [f 135 w (by omega) (by omega)]; exact z2 w a b
    · rw [e51]
      have : ∀ n, sW (cF fun _ => []) n = 0 := fun n => by
        induction n with
        | zero => rfl
        | succ n ih => show sW (cF fun _ => []) n + cF (fun _ => []) n = 0; rw [ih]; rfl
      rw [this]; rfl
  · rw [f 109 22 (by omega) (by omega)] at p1
    obtain ⟨o1, o2, o3, o4⟩ := o p1
    have n21 : ν13 109 21 = 0 := by rw [w 21 (by decide)]; exact v21
    have n32 : ν13 109 32 = 0 := by rw [w 32 (by decide)]; exact v32
    refine ⟨⟨fun _ => 0, fun _ => [], fun _ => 0, fun _ => 0, fun _ => 0⟩, G, 0, cF G, ⟨?_, o1, fun w a b => ⟨_, (by rw [f 135 w (by omega) (by omega)]; exact (o2 w a b).same fun c j hc => f c j (by omega) (by omega)), ?_, rfl⟩, fun w b hb h2 => by rw [f 134 w (by omega) (by omega)]; exact o3 w b hb h2, o4, ?_, ?_, ?_, ⟨fun y => absurd (show (0 : Int) = 3 from y) (by decide), fun _ => n32.symm⟩, fun y => absurd (show (0 : Int) = 1 from y) (by decide), fun _ => n21.symm⟩⟩
    · rw [n21, n32]
      refine ⟨Int.le_refl _, fun k a b => by omega, rfl, rfl, rfl, ⟨rfl, rfl, rfl, rfl, rfl⟩, fun k a b => by omega, trivial, trivial, ⟨fun i a b => by simp [aS0] at b; omega, fun i a b => by simp [aS0] at b; omega, fun i a b => by simp [aS0] at b; omega⟩, fun x a b => by omega, Or.inl rfl⟩
    · unfold cF; simp
    · rw [n21]; show (0 : Int) + 0 ≤ 2 * 0 + ((0 : Nat) : Int); decide
    · show (2 : Int) * 0 ≤ 0 + 0 + 2 * ((0 : Nat) : Int); decide
    · have e30 : ν13 109 30 = 0 := by rw [w 30 (by decide)]; exact v30
      have e27 : ν13 109 27 = 0 := by rw [w 27 (by decide)]; exact v27
      refine ⟨by rw [e27]; decide, by rw [e30]; decide, by rw [w123]; decide, by rw [w 31 (by decide), v31]; decide, by rw [n32]; decide, fun i a b => by omega, fun i a b => by omega, fun y hy => ?_⟩
      obtain ⟨i, i0, i1, -⟩ := hy
      rw [w123] at i1; omega
/-- the text of a half is read from that half alone -/
theorem tW.same {h N dn : Int} {Γ : tQ} (t : tW μ h Γ N dn) (f : ∀ c j, 115 ≤ c ∧ c ≤ 124 → ¬ rdW g c j → μ' c j = μ c j) (gh : (g = 0 ∨ g = 1) ∧ (h = 0 ∨ h = 1) ∧ g ≠ h) : tW μ' h Γ N dn := by
  have N9 := t.n0
  have d15 := t.d15
  have f5 : ∀ k, 0 ≤ k → k < N → μ' 115 (9000 * h + k) = μ 115 (9000 * h + k) := fun k a b => f 115 _ (by omega) (by unfold rdW; omega)
  have f6 : ∀ k, 0 ≤ k → k < N → μ' 116 (9000 * h + k) = μ 116 (9000 * h + k) := fun k a b => f 116 _ (by omega) (by unfold rdW; omega)
  have f8 : ∀ c x, c = 118 ∨ c = 119 ∨ c = 120 → 0 ≤ x → x < dn → μ' c (16 * h + x) = μ c (16 * h + x) := fun c x hc a b => f c _ (by omega) (by unfold rdW; omega)
  have f3 : μ' 123 h = μ 123 h := f 123 h (by omega) (by unfold rdW; omega)
  have f4 : μ' 124 h = μ 124 h := f 124 h (by omega) (by unfold rdW; omega)
  have dm := t.dm
  have hD : ∀ y, (tEv μ h dn).2.2.2.2.1 y → (tEv μ' h dn).2.2.2.2.1 y := fun y ⟨i, i0, i1, i2⟩ => ⟨i, i0, by rw [f3]; exact i1, by rw [f 122 _ (by omega) (by unfold rdW; omega)]; exact i2⟩
  have hD' : ∀ y, (tEv μ' h dn).2.2.2.2.1 y → (tEv μ h dn).2.2.2.2.1 y := fun y ⟨i, i0, i1, i2⟩ => by
    rw [f3] at i1
    exact ⟨i, i0, i1, by rw [← f 122 _ (by omega) (by unfold rdW; omega)]; exact i2⟩
  have G0 : ∀ j, 0 ≤ j → j ≤ N → tQe Γ Γ j := fun _ _ _ => ⟨rfl, rfl, rfl, rfl, rfl⟩
  have x : tX (tEv μ h dn) (tEv μ' h dn) Γ Γ N := ⟨f5, fun j a b _ => f6 j a b, G0, Int.le_refl _, fun y a b => ⟨f8 120 y (by omega) a b, f8 119 y (by omega) a b⟩, hD⟩
  have tf : tF (tEv μ h dn) Γ (N - 1) (fun _ => False) := fun k a b => ⟨(t.k k a (by omega)).1, fun go => Or.inr ((t.k k a (by omega)).2 go)⟩
  have tr : ∀ k, 0 ≤ k → k < N → tR Γ k := fun k a b => by
    have := tf.nr t.base (fun k a b => t.ns k a b) k.toNat (by omega)
    rwa [Int.toNat_of_nonneg a] at this
  have x1' : tX (tEv μ h dn) (tEv μ' h dn) Γ Γ (N - 1) := ⟨fun j a b => f5 j a (by omega), fun j a b _ => f6 j a (by omega), fun j a b => G0 j a (by omega), Int.le_refl _, fun y a b => ⟨f8 120 y (by omega) a b, f8 119 y (by omega) a b⟩, hD⟩
  refine ⟨N9, fun k a b => ⟨x.k ⟨a, b⟩ (tr k a b).r0 (t.k k a b).1, fun go => ?_⟩, t.base, by rw [f5 _ (by omega) (by omega)]; exact t.st, fun k a b => by rw [f5 k a (by omega)]; exact t.ns k a b, by rw [f4]; exact t.b, fun y a b => by rw [f8 118 y (by omega) a b, f8 119 y (by omega) a b, f8 120 y (by omega) a b]; exact t.d y a b, d15, t.rN, t.w, by rw [f3]; exact dm, fun y hy => t.D y (hD' y hy)⟩
  rw [f5 k a b] at go
  have j1 := (t.k k a b).2 go
  unfold tJ
  rw [show (tEv μ' h dn).1 k = (tEv μ h dn).1 k from f5 k a b, show (tEv μ' h dn).2.1 k = (tEv μ h dn).2.1 k from f6 k a b]
  by_cases kn : k < N - 1
  · exact x1'.jt (Int.le_refl _) ⟨a, kn⟩ j1
  · exfalso
    have : k = N - 1 := by omega
    rw [this, t.st] at go
    exact absurd go (by unfold tGo; decide)
end M70

