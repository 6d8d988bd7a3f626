/-! CONTRACTS, tools -/
theorem ab_wi {x : Int} (h1 : -2147483648 ≤ x) (h2 : x ≤ 2147483647) : ab_w x = x := by rw [ab_w_def]; omega
theorem ab_Wi {x : Int} (h1 : -9223372036854775808 ≤ x) (h2 : x ≤ 9223372036854775807) : ab_W x = x := by rw [ab_W_def]; omega
theorem la0 (a : Int) (r : List Int) : ab_la (a :: r) 0 = a := rfl
theorem la1 (a b : Int) (r : List Int) : ab_la (a :: b :: r) 1 = b := rfl
theorem la2 (a b c : Int) (r : List Int) : ab_la (a :: b :: c :: r) 2 = c := rfl
theorem la3 (a b c e : Int) (r : List Int) : ab_la (a :: b :: c :: e :: r) 3 = e := rfl
theorem la4 (a b c e f : Int) (r : List Int) : ab_la (a :: b :: c :: e :: f :: r) 4 = f := rfl
theorem la5 (a b c e f g : Int) (r : List Int) : ab_la (a :: b :: c :: e :: f :: g :: r) 5 = g := rfl
theorem la6 (a b c e f g i : Int) (r : List Int) : ab_la (a :: b :: c :: e :: f :: g :: i :: r) 6 = i := rfl
theorem ab_ind {J I : ab_l → ab_m → Prop} (m : ab_l → ab_m → Nat) (h : ∀ l μ, I l μ → (∀ l' μ', I l' μ' → m l' μ' < m l μ → J l' μ') → J l μ) {l : ab_l} {μ : ab_m} (hi : I l μ) : J l μ := by
  have key : ∀ n l μ, m l μ ≤ n → I l μ → J l μ := by
    intro n
    induction n with
    | zero => intro l μ h1 h2; exact h l μ h2 (fun l' μ' _ h3 => by omega)
    | succ n ih => intro l μ h1 h2; exact h l μ h2 (fun l' μ' h4 h3 => ih l' μ' (by omega) h4)
  exact key _ l μ (Nat.le_refl _) hi
/-- how many of the first n have the property -/
def ab_cn (p : Nat → Bool) : Nat → Nat
  | 0 => 0
  | n + 1 => ab_cn p n + (bif p n then 1 else 0)
theorem ab_cn_le (p : Nat → Bool) (n : Nat) : ab_cn p n ≤ n := by
  induction n with
  | zero => exact Nat.le_refl _
  | succ n ih =>
    show ab_cn p n + (bif p n then 1 else 0) ≤ n + 1
    cases p n <;> simp <;> omega
theorem ab_cn_mono {p q : Nat → Bool} {n : Nat} (h : ∀ j, j < n → p j = true → q j = true) : ab_cn p n ≤ ab_cn q n := by
  induction n with
  | zero => exact Nat.le_refl _
  | succ n ih =>
    have h1 := ih (fun j hj => h j (by omega))
    have h2 := h n (by omega)
    show ab_cn p n + (bif p n then 1 else 0) ≤ ab_cn q n + (bif q n then 1 else 0)
    cases hp : p n
    · simp; omega
    · rw [h2 hp]; simp; omega
theorem ab_cn_lt {p q : Nat → Bool} {n k : Nat} (h : ∀ j, j < n → p j = true → q j = true) (hk : k < n) (h1 : p k = false) (h2 : q k = true) : ab_cn p n < ab_cn q n := by
  induction n with
  | zero => omega
  | succ n ih =>
    show ab_cn p n + (bif p n then 1 else 0) < ab_cn q n + (bif q n then 1 else 0)
    by_cases hkn : k = n
    · subst hkn
      have := ab_cn_mono (n := k) (fun j hj => h j (by omega))
      rw [h1, h2]
      simp
      omega
    · have h3 := ih (fun j hj => h j (by omega)) (by omega)
      have h4 := h n (by omega)
      cases hp : p n
      · simp; omega
      · rw [h4 hp]; simp; omega
theorem ab_cn_congr {p q : Nat → Bool} {n : Nat} (h : ∀ j, j < n → p j = q j) : ab_cn p n = ab_cn q n :=
  Nat.le_antisymm (ab_cn_mono fun j hj hp => by rw [← h j hj]; exact hp) (ab_cn_mono fun j hj hp => by rw [h j hj]; exact hp)
/-- zeros of a row -/
def ab_z (f : Int → Int) (n : Nat) : Nat := ab_cn (fun j => decide (f j = 0)) n
def lUp (w : Int → Int) (x o : Int) : Int → Int := fun i => if i = x then o else w i
def lLd (w : Int → Int) (o : Int) : Int → Int := fun i => if w i = o then 0 else w i

/-! THE REFERENCE, part 1: what is asked of one instruction -/
section M1
variable {X : jm_X} {d : Nat} {μ : ab_m} {P : Int → ab_m → Prop} {k : Int}
theorem c_mM_goesOn (hk : 0 ≤ k ∧ k < 1000) (h1 : μ 145 k ≠ 25 → μ 145 k ≠ 28 → P 1 μ) (h0 : (μ 145 k = 25 ∨ μ 145 k = 28) → P 0 μ) : jj_mM_goesOn X d 0 (ab_la [109, k]) [] μ P := by
  refine bk_mM_goesOn_0 rfl ?_
  simp only [la1]
  exact ⟨hk, fun h => h0 (Or.inl h), fun h => ⟨hk, fun h2 => h0 (Or.inr h2), fun h2 => h1 h h2⟩⟩
theorem c_mM_leaps (hk : 0 ≤ k ∧ k < 1000) (h1 : (μ 145 k = 25 ∨ μ 145 k = 26 ∨ μ 145 k = 27) → P 1 μ) (h0 : μ 145 k ≠ 25 → μ 145 k ≠ 26 → μ 145 k ≠ 27 → P 0 μ) : jj_mM_leaps X d 0 (ab_la [109, k]) [] μ P := by
  refine bk_mM_leaps_0 rfl ?_
  simp only [la1]
  exact ⟨hk, fun h => h1 (Or.inl h), fun h => ⟨hk, fun h2 => h1 (Or.inr (Or.inl h2)), fun h2 => ⟨hk, fun h3 => h0 h h2 h3, fun h3 => h1 (Or.inr (Or.inr h3))⟩⟩⟩
theorem c_mM_defines (hk : 0 ≤ k ∧ k < 1000) (h1 : (μ 145 k ≤ 21 ∨ μ 145 k = 23) → P 1 μ) (h0 : 21 < μ 145 k → μ 145 k ≠ 23 → P 0 μ) : jj_mM_defines X d 0 (ab_la [109, k]) [] μ P := by
  refine bk_mM_defines_0 rfl ?_
  simp only [la1]
  exact ⟨hk, fun h => h1 (Or.inl h), fun h => ⟨hk, fun h2 => h0 h h2, fun h2 => h1 (Or.inr h2)⟩⟩
/-- A is a register that is used -/
def mUA (μ : ab_m) (k : Int) : Prop := μ 149 k = 0 ∧ ((1 ≤ μ 145 k ∧ μ 145 k ≤ 22) ∨ μ 145 k = 24 ∨ μ 145 k = 26 ∨ μ 145 k = 27)
def mUB (μ : ab_m) (k : Int) : Prop := μ 150 k = 0 ∧ ((2 ≤ μ 145 k ∧ μ 145 k ≤ 17) ∨ μ 145 k = 22)
theorem c_mM_usesA (hk : 0 ≤ k ∧ k < 1000) (h1 : mUA μ k → P 1 μ) (h0 : ¬ mUA μ k → P 0 μ) : jj_mM_usesA X d 0 (ab_la [109, k]) [] μ P := by
  have aux : μ 149 k = 0 → (μ 145 k < 1 ∨ 22 < μ 145 k) → jj_mM_usesA X d 27 (ab_up (ab_la [109, k]) 2 (μ 145 k)) [] μ P := by
    intro g1 g2
    refine bk_mM_usesA_27 rfl ?_
    show (μ 145 k = 24 → P 1 μ) ∧ (μ 145 k ≠ 24 → (μ 145 k = 26 → P 1 μ) ∧ (μ 145 k ≠ 26 → (μ 145 k ≠ 27 → P 0 μ) ∧ (μ 145 k = 27 → P 1 μ)))
    exact ⟨fun h => h1 ⟨g1, by omega⟩, fun h => ⟨fun h2 => h1 ⟨g1, by omega⟩, fun h2 => ⟨fun h3 => h0 (fun q => by have := q.2; omega), fun h3 => h1 ⟨g1, by omega⟩⟩⟩⟩
  refine bk_mM_usesA_0 rfl ?_
  simp only [la1]
  exact ⟨hk, hk, fun h => h0 (fun q => h q.1), fun h => ⟨fun h2 => aux h (Or.inl h2), fun h2 => ⟨fun h3 => h1 ⟨h, by omega⟩, fun h3 => aux h (Or.inr h3)⟩⟩⟩
theorem c_mM_usesB (hk : 0 ≤ k ∧ k < 1000) (h1 : mUB μ k → P 1 μ) (h0 : ¬ mUB μ k → P 0 μ) : jj_mM_usesB X d 0 (ab_la [109, k]) [] μ P := by
  refine bk_mM_usesB_0 rfl ?_
  simp only [la1]
  have n0 : μ 145 k < 2 ∨ 17 < μ 145 k → μ 145 k ≠ 22 → P 0 μ := fun g1 g2 => h0 (fun q => by have := q.2; omega)
  exact ⟨hk, hk, fun h => h0 (fun q => h q.1), fun h => ⟨fun h2 => ⟨fun h3 => n0 (Or.inl h2) h3, fun h3 => h1 ⟨h, by omega⟩⟩, fun h2 => ⟨fun h3 => h1 ⟨h, by omega⟩, fun h3 => ⟨fun h4 => n0 (Or.inr h3) h4, fun h4 => h1 ⟨h, by omega⟩⟩⟩⟩⟩
/-- isWanted: 0 or 1, nothing changes -/
theorem c_mM_isWanted {b n i r : Int} (hb : b = 0 ∨ b = 500) (hn : n ≤ 401) (hi : 0 ≤ i) (hr : 0 ≤ r ∧ r < 300) (h : ∀ q, (q = 0 ∨ q = 1) → P q μ) : jj_mM_isWanted X (d + 1) 0 (ab_la [109, b, n, i, r]) [] μ P := by
  refine bk_mM_isWanted_0 rfl ?_
  simp only [la1, la2, la3, la4]
  refine ⟨fun h2 => ?_, fun _ => h 0 (Or.inl rfl)⟩
  have e1 : ab_w (b + i) = b + i := ab_wi (by omega) (by omega)
  have e2 : ab_w (300 * i) = 300 * i := ab_wi (by omega) (by omega)
  have e3 : ab_w (300 * i + r) = 300 * i + r := ab_wi (by omega) (by omega)
  rw [e1]
  have k1 : 0 ≤ b + i ∧ b + i < 1000 := by omega
  have s54 : jj_mM_isWanted X (d + 1) 54 (ab_up (ab_la [109, b, n, i, r]) 5 (b + i)) [] μ P := by
    refine bk_mM_isWanted_54 rfl ?_
    show (0 ≤ ab_w (ab_w (300 * i) + r) ∧ ab_w (ab_w (300 * i) + r) < 121000) ∧ (μ 174 (ab_w (ab_w (300 * i) + r)) = 0 → P 0 μ) ∧ (μ 174 (ab_w (ab_w (300 * i) + r)) ≠ 0 → jj_mM_defines X d 0 (ab_la [109, b + i]) [] μ (fun r2 μ1 => (r2 = 0 → P 1 μ1) ∧ (r2 ≠ 0 → (0 ≤ b + i ∧ b + i < 1000) ∧ (μ1 146 (b + i) = r → P 0 μ1) ∧ (μ1 146 (b + i) ≠ r → P 1 μ1))))
    rw [e2, e3]
    refine ⟨by omega, fun _ => h 0 (Or.inl rfl), fun _ => ?_⟩
    exact c_mM_defines k1 (fun _ => ⟨fun _ => h 1 (Or.inr rfl), fun _ => ⟨k1, fun _ => h 0 (Or.inl rfl), fun _ => h 1 (Or.inr rfl)⟩⟩) (fun _ _ => ⟨fun _ => h 1 (Or.inr rfl), fun _ => ⟨k1, fun _ => h 0 (Or.inl rfl), fun _ => h 1 (Or.inr rfl)⟩⟩)
  have s33 : jj_mM_isWanted X (d + 1) 33 (ab_up (ab_la [109, b, n, i, r]) 5 (b + i)) [] μ P := by
    refine bk_mM_isWanted_33 rfl ?_
    show jj_mM_usesB X d 0 (ab_la [109, b + i]) [] μ (fun r2 μ1 => (r2 = 0 → jj_mM_isWanted X (d + 1) 54 (ab_up (ab_la [109, b, n, i, r]) 5 (b + i)) [] μ1 P) ∧ (r2 ≠ 0 → (0 ≤ b + i ∧ b + i < 1000) ∧ (μ1 148 (b + i) = r → P 1 μ1) ∧ (μ1 148 (b + i) ≠ r → jj_mM_isWanted X (d + 1) 54 (ab_up (ab_la [109, b, n, i, r]) 5 (b + i)) [] μ1 P)))
    have g : ∀ q : Int, (q = 0 → jj_mM_isWanted X (d + 1) 54 (ab_up (ab_la [109, b, n, i, r]) 5 (b + i)) [] μ P) ∧ (q ≠ 0 → (0 ≤ b + i ∧ b + i < 1000) ∧ (μ 148 (b + i) = r → P 1 μ) ∧ (μ 148 (b + i) ≠ r → jj_mM_isWanted X (d + 1) 54 (ab_up (ab_la [109, b, n, i, r]) 5 (b + i)) [] μ P)) := fun q => ⟨fun _ => s54, fun _ => ⟨k1, fun _ => h 1 (Or.inr rfl), fun _ => s54⟩⟩
    exact c_mM_usesB k1 (fun _ => g 1) (fun _ => g 0)
  have g : ∀ q : Int, (q = 0 → jj_mM_isWanted X (d + 1) 33 (ab_up (ab_la [109, b, n, i, r]) 5 (b + i)) [] μ P) ∧ (q ≠ 0 → (0 ≤ b + i ∧ b + i < 1000) ∧ (μ 147 (b + i) = r → P 1 μ) ∧ (μ 147 (b + i) ≠ r → jj_mM_isWanted X (d + 1) 33 (ab_up (ab_la [109, b, n, i, r]) 5 (b + i)) [] μ P)) := fun q => ⟨fun _ => s33, fun _ => ⟨k1, fun _ => h 1 (Or.inr rfl), fun _ => s33⟩⟩
  exact c_mM_usesA k1 (fun _ => g 1) (fun _ => g 0)
end M1

/-! THE REFERENCE, part 2: findLive -/
section M2
variable {X : jm_X} {d : Nat} {P : Int → ab_m → Prop}
/-- all cells but a are the same -/
def mOff (a : Int) (μ μ' : ab_m) : Prop := ∀ c i, c ≠ a → μ' c i = μ c i
theorem mOff.mu {a i v : Int} {μ μ' : ab_m} (h : mOff a μ μ') : mOff a μ (ab_mu μ' a i v) := by
  intro c j hc
  rw [ab_mud, if_neg (by omega)]
  exact h c j hc
theorem mOff.rfl' {a : Int} {μ : ab_m} : mOff a μ μ := fun _ _ _ => rfl
theorem mOff.trans {a : Int} {μ μ1 μ2 : ab_m} (h : mOff a μ μ1) (h2 : mOff a μ1 μ2) : mOff a μ μ2 := fun c i hc => (h2 c i hc).trans (h c i hc)
/-- jumps stay at or behind the first instruction -/
def mLp (μ : ab_m) (b n : Int) : Prop := ∀ i, 0 ≤ i → i < n → (μ 145 (b + i) = 25 ∨ μ 145 (b + i) = 26 ∨ μ 145 (b + i) = 27) → 0 ≤ μ 146 (b + i) ∧ μ 146 (b + i) ≤ n
theorem mLp.off {μ μ' : ab_m} {b n a : Int} (h : mLp μ b n) (ho : mOff a μ μ') (h1 : a ≠ 145) (h2 : a ≠ 146) : mLp μ' b n := by
  intro i g1 g2
  rw [ho 145 _ (Ne.symm h1), ho 146 _ (Ne.symm h2)]
  exact h i g1 g2
theorem c_mM_findLive {μ : ab_m} {b n : Int} (hb : b = 0 ∨ b = 500) (hn : 0 ≤ n ∧ n ≤ 400) (hr : 0 ≤ μ 109 71 ∧ μ 109 71 ≤ 300) (hL : mLp μ b n) (hP : ∀ μ', mOff 174 μ μ' → P 0 μ') : jj_mM_findLive X (d + 2) 0 (ab_la [109, b, n]) [] μ P := by
  generalize hR : μ 109 71 = R at hr
  -- one row, from r on
  have s45 : ∀ (m : Nat) (l : ab_l) (μ1 : ab_m) (i r more : Int) (c : Nat), l 0 = 109 → l 1 = b → l 2 = n → l 3 = more → l 4 = i → l 5 = r → 0 ≤ i → i < n → 0 ≤ r → r ≤ R → (R - r).toNat ≤ m → mOff 174 μ μ1 → (more = 0 ∧ ab_z (μ1 174) 120000 ≤ c ∨ more = 1 ∧ ab_z (μ1 174) 120000 < c) →
      (∀ (l' : ab_l) (μ2 : ab_m) (more' : Int), l' 0 = 109 → l' 1 = b → l' 2 = n → l' 3 = more' → l' 4 = i - 1 → mOff 174 μ μ2 → (more' = 0 ∧ ab_z (μ2 174) 120000 ≤ c ∨ more' = 1 ∧ ab_z (μ2 174) 120000 < c) → jj_mM_findLive X (d + 2) 37 l' [] μ2 P) → jj_mM_findLive X (d + 2) 45 l [] μ1 P := by
    intro m
    induction m with
    | zero =>
      intro l μ1 i r more c h0 h1 h2 h3 h4 h5 hi hin hr0 hrR hm ho hc k
      refine bk_mM_findLive_45 h0 ?_
      simp only [h1, h2, h3, h4, h5, ho 109 71 (by decide), hR]
      simp (disch := omega) only [ab_wi]
      refine ⟨fun h => ?_, fun h => by omega⟩
      exact k _ μ1 more h0 h1 h2 h3 rfl ho hc
    | succ m ih =>
      intro l μ1 i r more c h0 h1 h2 h3 h4 h5 hi hin hr0 hrR hm ho hc k
      refine bk_mM_findLive_45 h0 ?_
      simp only [h1, h2, h3, h4, h5, ho 109 71 (by decide), hR]
      simp (disch := omega) only [ab_wi]
      refine ⟨fun h => k _ μ1 more h0 h1 h2 h3 rfl ho hc, fun h => ⟨by omega, fun h6 => ?_, fun h6 => ?_⟩⟩
      · -- it wasn't live: is it now?
        have s136 : ∀ s, (s = 0 ∨ s = 1) → jj_mM_findLive X (d + 2) 136 l [(0, s)] μ1 P := by
          intro s hs
          refine bk_mM_findLive_136 h0 ?_
          simp only [h1, h2, h3, h4, h5]
          simp (disch := omega) only [ab_wi]
          refine ⟨by omega, fun μ2 e => ?_⟩
          have ho2 : mOff 174 μ μ2 := by rw [e]; exact ho.mu
          have hcnt : ab_z (μ2 174) 120000 ≤ ab_z (μ1 174) 120000 := by
            apply ab_cn_mono
            intro j hj hz
            rw [decide_eq_true_eq] at hz ⊢
            rw [e, ab_mud] at hz
            split at hz
            · rename_i h9; rw [h9.2]; exact h6
            · exact hz
          have hcnt2 : s = 1 → ab_z (μ2 174) 120000 < ab_z (μ1 174) 120000 := by
            intro hs1
            refine ab_cn_lt (k := (300 * i + r).toNat) (fun j hj hz => ?_) (by omega) ?_ ?_
            · rw [decide_eq_true_eq] at hz ⊢
              rw [e, ab_mud] at hz
              split at hz
              · rename_i h9; rw [h9.2]; exact h6
              · exact hz
            · rw [decide_eq_false_iff_not, e, ab_mud, if_pos (by omega), hs1]; decide
            · rw [decide_eq_true_eq, Int.toNat_of_nonneg (by omega)]; exact h6
          refine ⟨fun h7 => ?_, fun h7 => ⟨fun h8 => ?_, fun h8 => ?_⟩⟩
          · exact ih _ μ2 i (r + 1) 1 c h0 h1 h2 rfl h4 rfl hi hin (by omega) (by omega) (by omega) ho2 (by omega) k
          · exact ih _ μ2 i (r + 1) 0 c h0 h1 h2 rfl h4 rfl hi hin (by omega) (by omega) (by omega) ho2 (by omega) k
          · exact ih _ μ2 i (r + 1) 1 c h0 h1 h2 rfl h4 rfl hi hin (by omega) (by omega) (by omega) ho2 (by have := hcnt2 (by omega); omega) k
        have s100 : jj_mM_findLive X (d + 2) 100 l [] μ1 P := by
          refine bk_mM_findLive_100 h0 ?_
          simp only [h1, h2, h4, h5]
          simp (disch := omega) only [ab_wi]
          refine c_mM_leaps (by omega) (fun h7 => ⟨fun h8 => by omega, fun _ => ⟨by omega, ?_⟩⟩) (fun _ _ _ => ⟨fun _ => s136 0 (by omega), fun h8 => by omega⟩)
          have hd := (hL.off ho (by decide) (by decide)) i hi hin h7
          exact c_mM_isWanted hb (by omega) hd.1 (by omega) (fun q hq => ⟨fun _ => s136 0 (by omega), fun _ => s136 1 (by omega)⟩)
        refine c_mM_goesOn (by omega) (fun _ _ => ⟨fun h8 => by omega, fun _ => ?_⟩) (fun _ => ⟨fun _ => s100, fun h8 => by omega⟩)
        exact c_mM_isWanted hb (by omega) (by omega) (by omega) (fun q hq => ⟨fun _ => s136 1 (by omega), fun _ => s100⟩)
      · exact ih _ μ1 i (r + 1) more c h0 h1 h2 h3 h4 rfl hi hin (by omega) (by omega) (by omega) ho hc k
  -- the rows, from i down
  have s37 : ∀ (m : Nat) (l : ab_l) (μ1 : ab_m) (i more : Int) (c : Nat), l 0 = 109 → l 1 = b → l 2 = n → l 3 = more → l 4 = i → -1 ≤ i → i < n → (i + 1).toNat ≤ m → mOff 174 μ μ1 → (more = 0 ∧ ab_z (μ1 174) 120000 ≤ c ∨ more = 1 ∧ ab_z (μ1 174) 120000 < c) →
      (∀ (l' : ab_l) (μ2 : ab_m) (more' : Int), l' 0 = 109 → l' 1 = b → l' 2 = n → l' 3 = more' → mOff 174 μ μ2 → (more' = 0 ∧ ab_z (μ2 174) 120000 ≤ c ∨ more' = 1 ∧ ab_z (μ2 174) 120000 < c) → jj_mM_findLive X (d + 2) 26 l' [] μ2 P) → jj_mM_findLive X (d + 2) 37 l [] μ1 P := by
    intro m
    induction m with
    | zero =>
      intro l μ1 i more c h0 h1 h2 h3 h4 hi hin hm ho hc k
      refine bk_mM_findLive_37 h0 ?_
      rw [h4]
      exact ⟨fun _ => k l μ1 more h0 h1 h2 h3 ho hc, fun h => by omega⟩
    | succ m ih =>
      intro l μ1 i more c h0 h1 h2 h3 h4 hi hin hm ho hc k
      refine bk_mM_findLive_37 h0 ?_
      rw [h4]
      refine ⟨fun _ => k l μ1 more h0 h1 h2 h3 ho hc, fun h => ?_⟩
      exact s45 _ _ μ1 i 0 more c h0 h1 h2 h3 h4 rfl h hin (by omega) (by omega) (Nat.le_refl _) ho hc (fun l' μ2 more' g0 g1 g2 g3 g4 g5 g6 => ih l' μ2 (i - 1) more' c g0 g1 g2 g3 g4 (by omega) (by omega) (by omega) g5 g6 k)
  -- until nothing changes
  have s26 : ∀ (m : Nat) (l : ab_l) (μ1 : ab_m) (more : Int), l 0 = 109 → l 1 = b → l 2 = n → l 3 = more → (more = 0 ∨ more = 1) → 2 * ab_z (μ1 174) 120000 + more.toNat ≤ m → mOff 174 μ μ1 → jj_mM_findLive X (d + 2) 26 l [] μ1 P := by
    intro m
    induction m with
    | zero =>
      intro l μ1 more h0 h1 h2 h3 hmr hm ho
      refine bk_mM_findLive_26 h0 ?_
      rw [h3]
      exact ⟨fun _ => hP μ1 ho, fun h => by omega⟩
    | succ m ih =>
      intro l μ1 more h0 h1 h2 h3 hmr hm ho
      refine bk_mM_findLive_26 h0 ?_
      rw [h3, h2]
      simp (disch := omega) only [ab_wi]
      refine ⟨fun _ => hP μ1 ho, fun h => ?_⟩
      exact s37 _ _ μ1 (n - 1) 0 (ab_z (μ1 174) 120000) h0 h1 h2 rfl rfl (by omega) (by omega) (Nat.le_refl _) ho (by omega) (fun l' μ2 more' g0 g1 g2 g3 g4 g5 => ih l' μ2 more' g0 g1 g2 g3 (by omega) (by omega) g4)
  -- all out
  have s2 : ∀ (m : Nat) (l : ab_l) (μ1 : ab_m) (k : Int), l 0 = 109 → l 1 = b → l 2 = n → l 3 = k → 0 ≤ k → k ≤ 300 * n → (300 * n - k).toNat ≤ m → mOff 174 μ μ1 → jj_mM_findLive X (d + 2) 2 l [] μ1 P := by
    intro m
    induction m with
    | zero =>
      intro l μ1 k h0 h1 h2 h3 hk hk2 hm ho
      refine bk_mM_findLive_2 h0 ?_
      simp only [h2, h3]
      simp (disch := omega) only [ab_wi]
      exact ⟨fun _ => s26 _ _ μ1 1 h0 h1 h2 rfl (by omega) (Nat.le_refl _) ho, fun h => by omega⟩
    | succ m ih =>
      intro l μ1 k h0 h1 h2 h3 hk hk2 hm ho
      refine bk_mM_findLive_2 h0 ?_
      simp only [h2, h3]
      simp (disch := omega) only [ab_wi]
      refine ⟨fun _ => s26 _ _ μ1 1 h0 h1 h2 rfl (by omega) (Nat.le_refl _) ho, fun h => ⟨by omega, fun μ2 e => ?_⟩⟩
      exact ih _ μ2 (k + 1) h0 h1 h2 rfl (by omega) (by omega) (by omega) (by rw [e]; exact ho.mu)
  exact bk_mM_findLive_0 rfl (s2 _ _ μ 0 rfl rfl rfl rfl (by omega) (by omega) (Nat.le_refl _) mOff.rfl')
end M2

/-! THE REFERENCE, part 3: findKnown -/
section M3
variable {X : jm_X} {d : Nat} {P : Int → ab_m → Prop}
/-- the code is well made: n instructions from b on, R registers -/
def mWF (μ : ab_m) (b n R : Int) : Prop := 1 ≤ n ∧ n ≤ 400 ∧ 0 ≤ R ∧ R ≤ 300 ∧ (∀ i, 0 ≤ i → i < n → 0 ≤ μ 145 (b + i) ∧ μ 145 (b + i) ≤ 28 ∧ (mUA μ (b + i) → 0 ≤ μ 147 (b + i) ∧ μ 147 (b + i) < R) ∧ (mUB μ (b + i) → 0 ≤ μ 148 (b + i) ∧ μ 148 (b + i) < R) ∧ ((μ 145 (b + i) ≤ 21 ∨ μ 145 (b + i) = 23) → 0 ≤ μ 146 (b + i) ∧ μ 146 (b + i) < R) ∧ ((μ 145 (b + i) = 25 ∨ μ 145 (b + i) = 26 ∨ μ 145 (b + i) = 27) → 0 ≤ μ 146 (b + i) ∧ μ 146 (b + i) < n) ∧ (μ 145 (b + i) = 21 → 0 ≤ μ 148 (b + i) ∧ μ 148 (b + i) < 8) ∧ (μ 145 (b + i) = 22 → 0 ≤ μ 146 (b + i) ∧ μ 146 (b + i) < 8) ∧ (i = n - 1 → μ 145 (b + i) = 25 ∨ μ 145 (b + i) = 28) ∧ ((μ 145 (b + i) = 1 → μ 149 (b + i) = 0) ∧ (μ 145 (b + i) = 0 → μ 149 (b + i) ≠ 0)))
theorem mWF.same {μ μ' : ab_m} {b n R : Int} (h : mWF μ b n R) (hs : ∀ c i, 145 ≤ c → c ≤ 150 → μ' c i = μ c i) : mWF μ' b n R := by
  obtain ⟨h1, h2, h3, h4, h5⟩ := h
  refine ⟨h1, h2, h3, h4, fun i g1 g2 => ?_⟩
  have := h5 i g1 g2
  unfold mUA mUB at this ⊢
  rw [hs 145 _ (by decide) (by decide), hs 146 _ (by decide) (by decide), hs 147 _ (by decide) (by decide), hs 148 _ (by decide) (by decide), hs 149 _ (by decide) (by decide), hs 150 _ (by decide) (by decide)]
  exact this
theorem mWF.lp {μ : ab_m} {b n R : Int} (h : mWF μ b n R) : mLp μ b n := by
  intro i g1 g2 g3
  have := (h.2.2.2.2 i g1 g2).2.2.2.2.2.1 g3
  omega
theorem c_mM_isSure {μ : ab_m} {i x k : Int} (hx : k = 0 → 0 ≤ x ∧ x < 300) (hi : 0 ≤ i ∧ i ≤ 400) (h : ∀ q, (q = 0 ∨ q = 1) → P q μ) : jj_mM_isSure X d 0 (ab_la [109, i, x, k]) [] μ P := by
  refine bk_mM_isSure_0 rfl ?_
  simp only [la1, la2, la3]
  refine ⟨fun _ => h 1 (Or.inr rfl), fun e => ?_⟩
  have := hx e
  simp (disch := omega) only [ab_wi]
  exact ⟨by omega, fun _ => h 0 (Or.inl rfl), fun _ => h 1 (Or.inr rfl)⟩
theorem c_mM_whatOf {μ : ab_m} {i x k : Int} (hx : k = 0 → 0 ≤ x ∧ x < 300) (hi : 0 ≤ i ∧ i ≤ 400) (h : ∀ q, P q μ) : jj_mM_whatOf X d 0 (ab_la [109, i, x, k]) [] μ P := by
  refine bk_mM_whatOf_0 rfl ?_
  simp only [la1, la2, la3]
  refine ⟨fun e => ?_, fun _ => h _⟩
  have := hx e
  simp (disch := omega) only [ab_wi]
  exact ⟨by omega, h _⟩
theorem c_mM_one {μ : ab_m} {o x : Int} (h : ∀ q, P q μ) : jj_mM_one X d 0 (ab_la [o, x]) [] μ P :=
  bk_mM_one_0 ⟨fun _ => ⟨fun _ => ⟨fun _ => h _, fun _ => h _⟩, fun _ => h _⟩, fun _ => h _⟩
theorem c_mM_isByNothing {μ : ab_m} {o x : Int} (h : ∀ q, (q = 0 ∨ q = 1) → P q μ) : jj_mM_isByNothing X d 0 (ab_la [o, x]) [] μ P :=
  bk_mM_isByNothing_0 ⟨fun _ => ⟨fun _ => h _ (by omega), fun _ => h _ (by omega)⟩, fun _ => ⟨fun _ => h _ (by omega), fun _ => ⟨fun _ => h _ (by omega), fun _ => h _ (by omega)⟩⟩⟩
theorem c_mM_two {μ : ab_m} {o x y : Int} (h : ∀ q, P q μ) : jj_mM_two X d 0 (ab_la [o, x, y]) [] μ P := by
  refine bk_mM_two_0 ?_
  simp only [la0, la1, la2]
  refine ⟨⟨fun _ => h _, fun _ => h _, fun _ => h _, fun _ => ⟨fun e => ⟨fun _ => ⟨e, h _⟩, fun _ => h _⟩, fun _ => h _⟩, fun _ => ⟨fun _ => h _, fun e => ⟨fun _ => ⟨e, h _⟩, fun _ => h _⟩⟩, fun _ => h _, fun _ => h _, fun _ => h _, fun _ => h _, fun _ => h _, fun _ => ⟨fun _ => h _, fun _ => h _⟩, fun _ => ⟨fun _ => h _, fun _ => h _⟩, fun _ => ⟨fun _ => h _, fun _ => h _⟩, fun _ => ⟨fun _ => h _, fun _ => h _⟩, fun _ => ⟨fun _ => h _, fun _ => h _⟩, trivial⟩, fun _ => ⟨fun _ => h _, fun _ => h _⟩⟩
/-- outSure and outWhat alone -/
def fMk (μ μ' : ab_m) : Prop := ∀ c i, ¬ (c = 109 ∧ (i = 91 ∨ i = 92)) → μ' c i = μ c i
theorem fMk.mu {μ μ' : ab_m} {i v : Int} (h : fMk μ μ') (hi : i = 91 ∨ i = 92) : fMk μ (ab_mu μ' 109 i v) := by
  intro c j hc
  rw [ab_mud, if_neg (by omega)]
  exact h c j hc
theorem c_mM_make {μ : ab_m} {b n i R : Int} (hb : b = 0 ∨ b = 500) (hW : mWF μ b n R) (hi : 0 ≤ i ∧ i < n) (hP : ∀ μ', fMk μ μ' → P 0 μ') : jj_mM_make X (d + 1) 0 (ab_la [109, b, i]) [] μ P := by
  obtain ⟨w1, w2, w3, w4, w5⟩ := hW
  have e0 : ab_w (b + i) = b + i := ab_wi (by omega) (by omega)
  have kk : 0 ≤ b + i ∧ b + i < 1000 := by omega
  have go : ∀ μ2 : ab_m, fMk μ μ2 → ∀ c, 145 ≤ c → c ≤ 150 → μ2 c (b + i) = μ c (b + i) := fun μ2 h c h1 h2 => h c _ (by omega)
  have sA : ∀ μ2 : ab_m, fMk μ μ2 → 1 ≤ μ 145 (b + i) → μ 145 (b + i) ≤ 22 → μ2 149 (b + i) = 0 → 0 ≤ μ2 147 (b + i) ∧ μ2 147 (b + i) < 300 := by
    intro μ2 h g1 g2 g3
    rw [go μ2 h 149 (by decide) (by decide)] at g3
    rw [go μ2 h 147 (by decide) (by decide)]
    have := (w5 i hi.1 hi.2).2.2.1 ⟨g3, Or.inl ⟨g1, g2⟩⟩
    omega
  have sB : ∀ μ2 : ab_m, fMk μ μ2 → 2 ≤ μ 145 (b + i) → μ 145 (b + i) ≤ 17 → μ2 150 (b + i) = 0 → 0 ≤ μ2 148 (b + i) ∧ μ2 148 (b + i) < 300 := by
    intro μ2 h g1 g2 g3
    rw [go μ2 h 150 (by decide) (by decide)] at g3
    rw [go μ2 h 148 (by decide) (by decide)]
    have := (w5 i hi.1 hi.2).2.2.2.1 ⟨g3, Or.inl ⟨g1, g2⟩⟩
    omega
  have s281 : ∀ (l : ab_l) (μ2 : ab_m) (s : Int), l 0 = 109 → l 3 = b + i → fMk μ μ2 → (s = 0 ∨ s = 1) → jj_mM_make X (d + 1) 281 l [(0, s), (2, 109)] μ2 P := by
    intro l μ2 s h0 h3 hf hs
    refine bk_mM_make_281 h0 ⟨by omega, fun μ3 e3 => ⟨fun _ μ4 e4 => ?_, fun _ => ⟨by rw [h3]; exact kk, ?_⟩⟩⟩
    · exact hP _ (by rw [e4, e3]; exact (hf.mu (Or.inl rfl)).mu (Or.inr rfl))
    · exact c_mM_two fun q μ4 e4 => hP _ (by rw [e4, e3]; exact (hf.mu (Or.inl rfl)).mu (Or.inr rfl))
  have s172 : ∀ (l : ab_l) (μ2 : ab_m), l 0 = 109 → l 2 = i → l 3 = b + i → fMk μ μ2 → 2 ≤ μ 145 (b + i) → jj_mM_make X (d + 1) 172 l [] μ2 P := by
    intro l μ2 h0 h2 h3 hf hop
    refine bk_mM_make_172 h0 ?_
    simp only [h2, h3]
    refine ⟨kk, fun _ => hP _ hf, fun h => ?_⟩
    rw [go μ2 hf 145 (by decide) (by decide)] at h
    refine ⟨kk, kk, c_mM_whatOf (sA μ2 hf (by omega) (by omega)) (by omega) fun q1 => ⟨kk, kk, c_mM_whatOf (sB μ2 hf (by omega) (by omega)) (by omega) fun q2 => ⟨kk, kk, c_mM_isSure (sA μ2 hf (by omega) (by omega)) (by omega) fun q3 _ => ⟨fun _ => s281 _ μ2 0 h0 h3 hf (by omega), fun _ => ⟨kk, kk, c_mM_isSure (sB μ2 hf (by omega) (by omega)) (by omega) fun q4 _ => ⟨fun _ => s281 _ μ2 0 h0 h3 hf (by omega), fun _ => ⟨kk, c_mM_isByNothing fun q5 _ => ⟨fun _ => s281 _ μ2 0 h0 h3 hf (by omega), fun _ => s281 _ μ2 1 h0 h3 hf (by omega)⟩⟩⟩⟩⟩⟩⟩⟩
  refine bk_mM_make_0 rfl ?_
  simp only [la1, la2, e0]
  intro μ1 e1 μ2 e2
  have hf : fMk μ μ2 := by rw [e2, e1]; exact ((show fMk μ μ from fun _ _ _ => rfl).mu (Or.inl rfl)).mu (Or.inr rfl)
  have eo := go μ2 hf 145 (by decide) (by decide)
  have lo : 0 ≤ μ 145 (b + i) := (w5 i hi.1 hi.2).1
  refine ⟨kk, fun h => ⟨kk, fun h' => ⟨kk, fun _ => s172 _ μ2 rfl rfl rfl hf (by omega), fun h2 => ⟨kk, fun _ => s172 _ μ2 rfl rfl rfl hf (by omega), fun h3 => ⟨kk, kk, ?_⟩⟩⟩, fun h' => ⟨kk, kk, ?_⟩⟩, fun h μ3 e3 => ⟨kk, fun μ4 e4 => hP _ (by rw [e4, e3]; exact (hf.mu (Or.inl rfl)).mu (Or.inr rfl))⟩⟩
  · refine c_mM_isSure (sA μ2 hf (by omega) (by omega)) (by omega) fun q hq => ⟨by omega, fun μ3 e3 => ?_⟩
    have hf3 : fMk μ μ3 := by rw [e3]; exact hf.mu (Or.inl rfl)
    exact ⟨kk, kk, kk, c_mM_whatOf (sA μ3 hf3 (by omega) (by omega)) (by omega) fun q2 => c_mM_one fun q3 μ4 e4 => hP _ (by rw [e4]; exact hf3.mu (Or.inr rfl))⟩
  · refine c_mM_isSure (sA μ2 hf (by omega) (by omega)) (by omega) fun q hq => ⟨by omega, fun μ3 e3 => ?_⟩
    have hf3 : fMk μ μ3 := by rw [e3]; exact hf.mu (Or.inl rfl)
    exact ⟨kk, kk, c_mM_whatOf (sA μ3 hf3 (by omega) (by omega)) (by omega) fun q2 μ4 e4 => hP _ (by rw [e4]; exact hf3.mu (Or.inr rfl))⟩
end M3

/-! THE REFERENCE, part 4: flow, findKnown -/
section M4
variable {X : jm_X} {d : Nat} {P : Int → ab_m → Prop}
def ab_nz (f : Int → Int) (n : Nat) : Nat := ab_cn (fun j => decide (f j ≠ 0)) n
theorem ab_cn_one {p q : Nat → Bool} {n k : Nat} (h : ∀ j, j < n → j ≠ k → p j = true → q j = true) : ab_cn p n ≤ ab_cn q n + 1 := by
  induction n with
  | zero => exact Nat.zero_le _
  | succ n ih =>
    show ab_cn p n + (bif p n then 1 else 0) ≤ ab_cn q n + (bif q n then 1 else 0) + 1
    by_cases hk : n = k
    · subst hk
      have := ab_cn_mono (n := n) (fun j hj => h j (by omega) (by omega))
      cases p n <;> cases q n <;> simp <;> omega
    · have h1 := ih (fun j hj => h j (by omega))
      have h2 := h n (by omega) hk
      cases hp : p n
      · simp; omega
      · rw [h2 hp]; simp; omega
/-- one place of a row is written -/
theorem nz_up (μ : ab_m) (a i v : Int) (n : Nat) : ab_nz (ab_mu μ a i v a) n ≤ ab_nz (μ a) n + 1 := by
  refine ab_cn_one (k := i.toNat) fun j hj hk hp => ?_
  rw [decide_eq_true_eq] at hp ⊢
  rw [ab_mud] at hp
  split at hp
  · rename_i h; omega
  · exact hp
theorem nz_le {μ : ab_m} {a i v : Int} {n : Nat} (h : v ≠ 0 → μ a i ≠ 0) : ab_nz (ab_mu μ a i v a) n ≤ ab_nz (μ a) n := by
  refine ab_cn_mono fun j hj hp => ?_
  rw [decide_eq_true_eq] at hp ⊢
  rw [ab_mud] at hp
  split at hp
  · rename_i h9; rw [h9.2]; exact h hp
  · exact hp
theorem nz_lt {μ : ab_m} {a i : Int} {n : Nat} (h0 : 0 ≤ i) (h1 : i < n) (h : μ a i ≠ 0) : ab_nz (ab_mu μ a i 0 a) n < ab_nz (μ a) n := by
  refine ab_cn_lt (k := i.toNat) (fun j hj hp => ?_) (by omega) ?_ ?_
  · rw [decide_eq_true_eq] at hp ⊢
    rw [ab_mud] at hp
    split at hp
    · exact absurd rfl hp
    · exact hp
  · rw [decide_eq_false_iff_not, ab_mud, if_pos (by omega)]
    omega
  · rw [decide_eq_true_eq, Int.toNat_of_nonneg h0]
    exact h
theorem z_le {μ : ab_m} {a i v : Int} {n : Nat} (h : v = 0 → μ a i = 0) : ab_z (ab_mu μ a i v a) n ≤ ab_z (μ a) n := by
  refine ab_cn_mono fun j hj hp => ?_
  rw [decide_eq_true_eq] at hp ⊢
  rw [ab_mud] at hp
  split at hp
  · rename_i h9; rw [h9.2]; exact h hp
  · exact hp
theorem z_lt {μ : ab_m} {a i v : Int} {n : Nat} (h0 : 0 ≤ i) (h1 : i < n) (h : μ a i = 0) (hv : v ≠ 0) : ab_z (ab_mu μ a i v a) n < ab_z (μ a) n := by
  refine ab_cn_lt (k := i.toNat) (fun j hj hp => ?_) (by omega) ?_ ?_
  · rw [decide_eq_true_eq] at hp ⊢
    rw [ab_mud] at hp
    split at hp
    · exact absurd hp hv
    · exact hp
  · rw [decide_eq_false_iff_not, ab_mud, if_pos (by omega)]
    exact hv
  · rw [decide_eq_true_eq, Int.toNat_of_nonneg h0]
    exact h
theorem mu_ne {μ : ab_m} {a i v c : Int} (h : c ≠ a) : ab_mu μ a i v c = μ c := by
  funext j
  rw [ab_mud, if_neg (by omega)]
theorem nz_le_n (f : Int → Int) (n : Nat) : ab_nz f n ≤ n := ab_cn_le _ n
/-- what falls while findKnown goes on -/
def mK (μ : ab_m) : Nat := 48763403 * ab_z (μ 163) 402 + 403 * ab_nz (μ 161) 121000 + ab_nz (μ 164) 402
def fFl (μ μ' : ab_m) : Prop := ∀ c i, (c < 161 ∨ 164 < c) → μ' c i = μ c i
theorem fFl.mu {μ μ' : ab_m} {a i v : Int} (h : fFl μ μ') (ha : 161 ≤ a ∧ a ≤ 164) : fFl μ (ab_mu μ' a i v) := by
  intro c j hc
  rw [ab_mud, if_neg (by omega)]
  exact h c j hc
theorem c_mM_flow {μ : ab_m} {b i to R : Int} (hR : μ 109 71 = R) (hR3 : 0 ≤ R ∧ R ≤ 300) (hk : 0 ≤ b + i ∧ b + i < 1000) (hb : b = 0 ∨ b = 500) (hi : 0 ≤ i ∧ i ≤ 400) (hto : 0 ≤ to ∧ to ≤ 401) (hP : ∀ μ', fFl μ μ' → mK μ' ≤ mK μ → P 0 μ') : jj_mM_flow X (d + 1) 0 (ab_la [109, b, i, to]) [] μ P := by
  have s47 : ∀ (m : Nat) (l : ab_l) (μ1 : ab_m) (fi ch r : Int), l 0 = 109 → l 1 = b → l 2 = i → l 3 = to → l 5 = fi → l 6 = ch → l 7 = r → 0 ≤ r → r ≤ R → (R - r).toNat = m → fFl μ μ1 → μ1 163 = μ 163 → μ1 164 = μ 164 → (fi = 1 ∧ μ 163 to = 0 ∨ fi = 0 ∧ μ 163 to ≠ 0 ∧ (ch = 0 ∧ ab_nz (μ1 161) 121000 ≤ ab_nz (μ 161) 121000 ∨ ch = 1 ∧ ab_nz (μ1 161) 121000 < ab_nz (μ 161) 121000)) → jj_mM_flow X (d + 1) 47 l [] μ1 P := by
    intro m
    induction m using Nat.strongRecOn with
    | ind m ih =>
      intro l μ1 fi ch r h0 h1 h2 h3 h5 h6 h7 hr hrR hm hf e163 e164 hfi
      have hR1 : μ1 109 71 = R := by rw [hf 109 71 (by omega)]; exact hR
      have s112 : ∀ (l' : ab_l) (is v : Int), l' 0 = 109 → l' 1 = b → l' 2 = i → l' 3 = to → l' 5 = fi → l' 6 = ch → l' 7 = r → l' 8 = is → r < R → jj_mM_flow X (d + 1) 112 l' [(0, v)] μ1 P := by
        intro l' is v g0 g1 g2 g3 g5 g6 g7 g8 hlt
        refine bk_mM_flow_112 g0 ?_
        simp only [g1, g2, g3, g5, g6, g7, g8]
        simp (disch := omega) only [ab_wi]
        have off : ∀ (q : Int), fFl μ (ab_mu μ1 161 (300 * to + r) q) := fun q => hf.mu (by omega)
        refine ⟨fun hz => ⟨by omega, fun hs => ?_, fun hs => ⟨fun _ => ⟨by omega, fun μ2 e => ?_⟩, fun _ => ⟨by omega, fun _ => ?_, fun _ => ⟨by omega, fun μ2 e => ?_⟩⟩⟩⟩, fun hz => ⟨by omega, fun μ2 e => ⟨by omega, fun μ3 e3 => ?_⟩⟩⟩
        · exact ih _ (by omega) _ μ1 fi ch (r + 1) g0 g1 g2 g3 g5 g6 rfl (by omega) (by omega) rfl hf e163 e164 hfi
        · have := nz_lt (μ := μ1) (a := 161) (i := 300 * to + r) (n := 121000) (by omega) (by omega) hs
          exact ih _ (by omega) _ μ2 fi 1 (r + 1) g0 g1 g2 g3 g5 rfl rfl (by omega) (by omega) rfl (by rw [e]; exact off _) (by rw [e, mu_ne (by decide)]; exact e163) (by rw [e, mu_ne (by decide)]; exact e164) (by rw [e]; show _ ∨ _ ∧ _ ∧ (_ ∧ ab_nz (ab_mu μ1 161 (300 * to + r) 0 161) 121000 ≤ _ ∨ _ ∧ ab_nz (ab_mu μ1 161 (300 * to + r) 0 161) 121000 < _); omega)
        · exact ih _ (by omega) _ μ1 fi ch (r + 1) g0 g1 g2 g3 g5 g6 rfl (by omega) (by omega) rfl hf e163 e164 hfi
        · have := nz_lt (μ := μ1) (a := 161) (i := 300 * to + r) (n := 121000) (by omega) (by omega) hs
          exact ih _ (by omega) _ μ2 fi 1 (r + 1) g0 g1 g2 g3 g5 rfl rfl (by omega) (by omega) rfl (by rw [e]; exact off _) (by rw [e, mu_ne (by decide)]; exact e163) (by rw [e, mu_ne (by decide)]; exact e164) (by rw [e]; show _ ∨ _ ∧ _ ∧ (_ ∧ ab_nz (ab_mu μ1 161 (300 * to + r) 0 161) 121000 ≤ _ ∨ _ ∧ ab_nz (ab_mu μ1 161 (300 * to + r) 0 161) 121000 < _); omega)
        · exact ih _ (by omega) _ μ3 fi ch (r + 1) g0 g1 g2 g3 g5 g6 rfl (by omega) (by omega) rfl (by rw [e3, e]; exact (off _).mu (by omega)) (by rw [e3, e, mu_ne (by decide), mu_ne (by decide)]; exact e163) (by rw [e3, e, mu_ne (by decide), mu_ne (by decide)]; exact e164) (by rcases hfi with h | h; exact Or.inl h; exact absurd h.1 hz)
      have s83 : ∀ (l' : ab_l) (is : Int), l' 0 = 109 → l' 1 = b → l' 2 = i → l' 3 = to → l' 5 = fi → l' 6 = ch → l' 7 = r → r < R → jj_mM_flow X (d + 1) 83 l' [(0, is)] μ1 P := by
        intro l' is g0 g1 g2 g3 g5 g6 g7 hlt
        refine bk_mM_flow_83 g0 ?_
        simp only [g2, g7]
        simp (disch := omega) only [ab_wi]
        exact ⟨fun _ => ⟨by omega, s112 _ is _ g0 g1 g2 g3 g5 g6 g7 rfl hlt⟩, fun _ => s112 _ is _ g0 g1 g2 g3 g5 g6 g7 rfl hlt⟩
      refine bk_mM_flow_47 h0 ?_
      simp only [h2, h3, h6, h7, hR1]
      simp (disch := omega) only [ab_wi]
      refine ⟨fun h => ⟨by omega, fun μ2 e2 => ⟨by omega, ?_⟩⟩, fun h => ⟨fun _ => ⟨by omega, s83 l _ h0 h1 h2 h3 h5 h6 h7 h⟩, fun _ => s83 l _ h0 h1 h2 h3 h5 h6 h7 h⟩⟩
      have hf2 : fFl μ μ2 := by rw [e2]; exact hf.mu (by omega)
      have a161 : μ2 161 = μ1 161 := by rw [e2]; exact mu_ne (by decide)
      have a164 : μ2 164 = μ 164 := by rw [e2, mu_ne (by decide)]; exact e164
      have zle : ab_z (μ2 163) 402 ≤ ab_z (μ 163) 402 := by
        rw [e2, ← e163]; exact z_le (fun h => absurd h (by decide))
      have zlt : fi = 1 → ab_z (μ2 163) 402 < ab_z (μ 163) 402 := by
        intro g
        rw [e2, ← e163]
        refine z_lt (by omega) (by omega) ?_ (by decide)
        rcases hfi with g9 | g9
        · rw [e163]; exact g9.2
        · omega
      have n1 := nz_le_n (μ1 161) 121000
      refine ⟨fun hz => ⟨by omega, fun μ3 e3 => ?_⟩, fun hz => ⟨fun hc => ⟨by omega, fun μ3 e3 => ?_⟩, fun hc => ⟨by omega, fun μ3 e3 => ?_⟩⟩⟩
      · refine hP μ3 (by rw [e3]; exact hf2.mu (by omega)) ?_
        have a : μ3 163 = μ2 163 := by rw [e3]; exact mu_ne (by decide)
        have b' : μ3 161 = μ1 161 := by rw [e3, mu_ne (by decide)]; exact a161
        have c : ab_nz (μ3 164) 402 ≤ ab_nz (μ 164) 402 := by rw [e3, ← a164]; exact nz_le fun _ => hz
        have n2 := nz_le_n (μ3 164) 402
        unfold mK
        rw [a, b']
        rcases hfi with g | g
        · have := zlt g.1; omega
        · omega
      · refine hP μ3 (by rw [e3]; exact hf2.mu (by omega)) ?_
        have a : μ3 163 = μ2 163 := by rw [e3]; exact mu_ne (by decide)
        have b' : μ3 161 = μ1 161 := by rw [e3, mu_ne (by decide)]; exact a161
        have c : ab_nz (μ3 164) 402 ≤ ab_nz (μ 164) 402 := by rw [e3, ← a164]; exact nz_le fun h => absurd rfl h
        have n2 := nz_le_n (μ3 164) 402
        unfold mK
        rw [a, b']
        rcases hfi with g | g
        · have := zlt g.1; omega
        · omega
      · refine hP μ3 (by rw [e3]; exact hf2.mu (by omega)) ?_
        have a : μ3 163 = μ2 163 := by rw [e3]; exact mu_ne (by decide)
        have b' : μ3 161 = μ1 161 := by rw [e3, mu_ne (by decide)]; exact a161
        have c : ab_nz (μ3 164) 402 ≤ ab_nz (μ 164) 402 + 1 := by rw [e3, ← a164]; exact nz_up _ _ _ _ _
        have n2 := nz_le_n (μ3 164) 402
        unfold mK
        rw [a, b']
        rcases hfi with g | g
        · have := zlt g.1; omega
        · omega
  have s22 : ∀ s, jj_mM_flow X (d + 1) 22 (ab_la [109, b, i, to]) [(0, s)] μ P := by
    intro s
    refine bk_mM_flow_22 rfl ?_
    simp only [la3]
    exact ⟨by omega, fun h => s47 _ _ μ 0 0 0 rfl rfl rfl rfl rfl rfl rfl (by omega) (by omega) rfl (fun _ _ _ => rfl) rfl rfl (Or.inr ⟨rfl, h, Or.inl ⟨rfl, Nat.le_refl _⟩⟩), fun h => s47 _ _ μ 1 1 0 rfl rfl rfl rfl rfl rfl rfl (by omega) (by omega) rfl (fun _ _ _ => rfl) rfl rfl (Or.inl ⟨rfl, h⟩)⟩
  refine bk_mM_flow_0 rfl ?_
  simp only [la1, la2]
  simp (disch := omega) only [ab_wi]
  exact c_mM_defines hk (fun _ => ⟨fun _ => s22 _, fun _ => ⟨hk, s22 _⟩⟩) (fun _ _ => ⟨fun _ => s22 _, fun _ => ⟨hk, s22 _⟩⟩)
end M4

