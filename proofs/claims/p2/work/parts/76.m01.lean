/-! THE REFERENCE, part 12: what leaveOut leaves -/
section M12
def mSameN (μ μ' : ab_m) (n : Int) : Prop := ∀ c i, 145 ≤ c → c ≤ 150 → 0 ≤ i → i < n → μ' c (500 + i) = μ c (500 + i)
theorem ab_z_onto {f : Int → Int} : ∀ {n p : Nat}, p < ab_z f n → ∃ i : Nat, i < n ∧ f i = 0 ∧ ab_z f i = p := by
  intro n
  induction n with
  | zero => intro p h; exact absurd h (Nat.not_lt_zero p)
  | succ n ih =>
    intro p h
    rw [ab_z_succ] at h
    by_cases hz : f n = 0
    · rw [if_pos hz] at h
      by_cases hp : p = ab_z f n
      · exact ⟨n, by omega, hz, hp.symm⟩
      · obtain ⟨i, a, b, c⟩ := ih (p := p) (by omega)
        exact ⟨i, by omega, b, c⟩
    · rw [if_neg hz] at h
      obtain ⟨i, a, b, c⟩ := ih (p := p) (by omega)
      exact ⟨i, by omega, b, c⟩
theorem ab_z_sum {f : Int → Int} {g' g : Nat → Nat} : ∀ {n : Nat}, (∀ i : Nat, i < n → f i = 0 → g' (ab_z f i) = g i) → ab_sum g' (ab_z f n) = ab_sum (fun i => if f i = 0 then g i else 0) n := by
  intro n
  induction n with
  | zero => intro _; rfl
  | succ n ih =>
    intro h
    have h1 := ih (fun i hi => h i (by omega))
    rw [ab_z_succ]
    show _ = ab_sum (fun i => if f i = 0 then g i else 0) n + (if f n = 0 then g n else 0)
    by_cases hz : f n = 0
    · rw [if_pos hz, if_pos hz]
      show ab_sum g' (ab_z f n) + g' (ab_z f n) = _
      rw [h1, h n (by omega) hz]
    · rw [if_neg hz, if_neg hz, Nat.add_zero, Nat.add_zero, h1]
theorem ab_z_full {f : Int → Int} : ∀ {n : Nat}, ab_z f n = n → ∀ i : Nat, i ≤ n → ab_z f i = i ∧ (i < n → f i = 0) := by
  intro n
  induction n with
  | zero => intro _ i hi; rw [show i = 0 by omega]; exact ⟨rfl, fun h => absurd h (by omega)⟩
  | succ n ih =>
    intro h i hi
    have h9 := ab_z_le f n
    rw [ab_z_succ] at h
    by_cases hz : f n = 0
    · rw [if_pos hz] at h
      have h1 := ih (by omega)
      by_cases hin : i = n + 1
      · rw [hin, ab_z_succ, if_pos hz]
        exact ⟨by omega, fun q => absurd q (by omega)⟩
      · refine ⟨(h1 i (by omega)).1, fun _ => ?_⟩
        by_cases e : i = n
        · rw [e]; exact hz
        · exact (h1 i (by omega)).2 (by omega)
    · rw [if_neg hz] at h; omega
/-- the last that is kept ends the code, and no jump of what is kept goes behind it -/
def mKp (μ : ab_m) (n L : Nat) : Prop := L < n ∧ μ 172 L = 0 ∧ (μ 145 (500 + (L : Int)) = 25 ∨ μ 145 (500 + (L : Int)) = 28) ∧ (∀ j : Nat, L < j → j < n → μ 172 j ≠ 0) ∧ (∀ i : Nat, i < n → μ 172 i = 0 → mIsL (μ 145 (500 + (i : Int))) → μ 146 (500 + (i : Int)) ≤ L)
theorem mLv.wf {μ μ' : ab_m} {n L : Nat} {R : Int} (h : mLv μ μ' n) (hW : mWF μ 500 n R) (hk : mKp μ n L) : mWF μ' 500 (μ' 109 70) R := by
  obtain ⟨h1, h2, -⟩ := h
  obtain ⟨k1, k2, k3, k4, k5⟩ := hk
  have n4 : (1 : Int) ≤ n ∧ (n : Int) ≤ 400 := ⟨hW.1, hW.2.1⟩
  have zn := ab_z_le (μ 172) n
  -- the number of those kept
  have zL : ab_z (μ 172) n = ab_z (μ 172) L + 1 := by
    have q : ∀ m, L + 1 ≤ m → m ≤ n → ab_z (μ 172) m = ab_z (μ 172) L + 1 := by
      intro m
      induction m with
      | zero => intro h; omega
      | succ m ih =>
        intro a b
        by_cases e : m = L
        · rw [e, ab_z_succ, if_pos k2]
        · rw [ab_z_succ, if_neg (k4 m (by omega) (by omega)), ih (by omega) (by omega)]
    exact q n (by omega) (Nat.le_refl _)
  rw [h1]
  refine mWF.mk (by omega) ⟨hW.2.2.1, hW.2.2.2.1⟩ (fun p p0 p1 => ?_) ?_
  · obtain ⟨i, i1, i2, i3⟩ := ab_z_onto (f := μ 172) (n := n) (p := p.toNat) (by omega)
    obtain ⟨e1, e2, e3, e4, e5, e6, e7⟩ := h2 i i1 i2
    rw [i3, Int.toNat_of_nonneg p0] at e1 e2 e3 e4 e5 e6 e7
    obtain ⟨o1, o2, o3, o4, o5, o6, o7, o8, o9⟩ := hW.at (i := (i : Int)) (by omega) (by omega)
    unfold mI mUA mUB at *
    rw [e1, e2, e3, e4, e5]
    refine ⟨o1, o2, o3, o4, fun q => ?_, fun q => ?_, o7, fun q => ?_, o9⟩
    · rw [e7 (fun w => by unfold mIsL at w; omega)]; exact o5 q
    · rw [e6 q]
      have d0 := o6 q
      have d1 := k5 i i1 i2 q
      have d2 : ab_z (μ 172) (μ 146 (500 + (i : Int))).toNat ≤ ab_z (μ 172) L := ab_z_mono (by omega)
      omega
    · rw [e7 (fun w => by unfold mIsL at w; omega)]; exact o8 q
  · obtain ⟨e1, -⟩ := h2 L k1 k2
    rw [show ((ab_z (μ 172) n : Int) - 1) = (ab_z (μ 172) L : Int) by omega, e1]
    exact k3
theorem mLv.phi {μ μ' : ab_m} {n : Nat} (h : mLv μ μ' n) : mPhi μ' (ab_z (μ 172) n) ≤ mPhi μ n ∧ (ab_z (μ 172) n < n → mPhi μ' (ab_z (μ 172) n) < mPhi μ n) := by
  obtain ⟨h1, h2, -⟩ := h
  have e : mPhi μ' (ab_z (μ 172) n) = ab_sum (fun i => if μ 172 i = 0 then mWt (μ 145 (500 + (i : Int))) (μ 149 (500 + (i : Int))) (μ 150 (500 + (i : Int))) else 0) n := by
    refine ab_z_sum (f := μ 172) (g' := fun i => mWt (μ' 145 (500 + (i : Int))) (μ' 149 (500 + (i : Int))) (μ' 150 (500 + (i : Int)))) fun i hi hz => ?_
    obtain ⟨e1, e2, e3, e4, e5, -⟩ := h2 i hi hz
    rw [e1, e4, e5]
  rw [e]
  have le : ∀ j : Nat, j < n → (if μ 172 j = 0 then mWt (μ 145 (500 + (j : Int))) (μ 149 (500 + (j : Int))) (μ 150 (500 + (j : Int))) else 0) ≤ mWt (μ 145 (500 + (j : Int))) (μ 149 (500 + (j : Int))) (μ 150 (500 + (j : Int))) := by
    intro j _
    by_cases hz : μ 172 j = 0
    · rw [if_pos hz]; exact Nat.le_refl _
    · rw [if_neg hz]; exact Nat.zero_le _
  refine ⟨ab_sum_le le, fun hlt => ?_⟩
  have : ∃ k : Nat, k < n ∧ μ 172 k ≠ 0 := by
    refine Classical.byContradiction fun hn => ?_
    have all : ∀ k : Nat, k < n → μ 172 k = 0 := fun k hk => Classical.byContradiction fun q => hn ⟨k, hk, q⟩
    have q : ∀ m, m ≤ n → ab_z (μ 172) m = m := by
      intro m
      induction m with
      | zero => intro _; rfl
      | succ m ih => intro hm; rw [ab_z_succ, if_pos (all m (by omega)), ih (by omega)]
    have := q n (Nat.le_refl _)
    omega
  obtain ⟨k, k1, k2⟩ := this
  refine ab_sum_lt le k1 ?_
  rw [if_neg k2]
  have := mWt_pos (μ 145 (500 + (k : Int))) (μ 149 (500 + (k : Int))) (μ 150 (500 + (k : Int)))
  omega
theorem mLv.all {μ μ' : ab_m} {n : Nat} (h : mLv μ μ' n) (hd : ∀ i : Nat, i < n → mIsL (μ 145 (500 + (i : Int))) → 0 ≤ μ 146 (500 + (i : Int)) ∧ μ 146 (500 + (i : Int)) ≤ n) (hn : ab_z (μ 172) n = n) : mSameN μ μ' n := by
  obtain ⟨h1, h2, -⟩ := h
  have hz := ab_z_full hn
  intro c i a b g0 g1
  obtain ⟨z1, z2⟩ := hz i.toNat (by omega)
  obtain ⟨e1, e2, e3, e4, e5, e6, e7⟩ := h2 i.toNat (by omega) (z2 (by omega))
  rw [z1, Int.toNat_of_nonneg g0] at e1 e2 e3 e4 e5 e6 e7
  have : c = 145 ∨ c = 146 ∨ c = 147 ∨ c = 148 ∨ c = 149 ∨ c = 150 := by omega
  rcases this with rfl | rfl | rfl | rfl | rfl | rfl
  · exact e1
  · by_cases hl : mIsL (μ 145 (500 + i))
    · rw [e6 hl]
      have dd := hd i.toNat (by omega) (by rw [Int.toNat_of_nonneg g0]; exact hl)
      rw [Int.toNat_of_nonneg g0] at dd
      obtain ⟨y1, -⟩ := hz (μ 146 (500 + i)).toNat (by omega)
      rw [y1]; omega
    · exact e7 hl
  · exact e2
  · exact e3
  · exact e4
  · exact e5
theorem mLv.chg {μ μ' : ab_m} {n : Nat} (h : mLv μ μ' n) (hb : μ 109 93 = 0 ∨ μ 109 93 = 1) : (ab_z (μ 172) n = n → μ' 109 93 = μ 109 93) := by
  intro e
  have := h.2.2
  unfold mChg at this
  rcases hb with q | q
  · rw [this, q, if_neg]
    intro w
    rcases w with w | w
    · exact w rfl
    · omega
  · rw [this, q, if_pos (Or.inl (by decide))]
end M12

/-! THE REFERENCE, part 13: ranks: what is copied falls -/
section M13
def gO (μ : ab_m) (n : Int) : Int → Int := fun i => if 0 ≤ i ∧ i < n then μ 145 (500 + i) else 0
def gD (μ : ab_m) (n : Int) : Int → Int := fun i => if 0 ≤ i ∧ i < n then μ 146 (500 + i) else 0
def rE (O D : Int → Int) (i j : Int) : Prop := (O i ≠ 25 ∧ O i ≠ 28 ∧ j = i + 1) ∨ (mIsL (O i) ∧ j = D i)
def rRc (O D : Int → Int) (n : Int) : Nat → Int → Prop
  | 0, j => j = 0
  | m + 1, j => ∃ i, 0 ≤ i ∧ i < n ∧ rRc O D n m i ∧ rE O D i j
noncomputable def rPar (O D : Int → Int) (n : Int) (m : Nat) (j : Int) : Int := @dite _ (∃ i, 0 ≤ i ∧ i < n ∧ rRc O D n m i ∧ rE O D i j) (Classical.propDecidable _) (fun h => Classical.choose h) (fun _ => 0)
/-- where on the way the register was defined last -/
noncomputable def rPos (O D : Int → Int) (n : Int) : Nat → Int → Int → Nat
  | 0, _, _ => 0
  | m + 1, j, r => @ite _ ((O (rPar O D n m j) ≤ 21 ∨ O (rPar O D n m j) = 23) ∧ D (rPar O D n m j) = r) (Classical.propDecidable _) (m + 1) (rPos O D n m (rPar O D n m j) r)
noncomputable def rDs (O D : Int → Int) (n j : Int) : Nat := @dite _ (∃ m, rRc O D n m j) (Classical.propDecidable _) (fun h => Classical.choose h) (fun _ => 0)
noncomputable def rRk (O D : Int → Int) (n j r : Int) : Nat := rPos O D n (rDs O D n j) j r
theorem rPar_ok {O D : Int → Int} {n : Int} {m : Nat} {j : Int} (h : rRc O D n (m + 1) j) : 0 ≤ rPar O D n m j ∧ rPar O D n m j < n ∧ rRc O D n m (rPar O D n m j) ∧ rE O D (rPar O D n m j) j := by
  have h' : ∃ i, 0 ≤ i ∧ i < n ∧ rRc O D n m i ∧ rE O D i j := h
  unfold rPar
  rw [dif_pos h']
  exact Classical.choose_spec h'
theorem rPos_le (O D : Int → Int) (n : Int) : ∀ (m : Nat) (j r : Int), rPos O D n m j r ≤ m := by
  intro m
  induction m with
  | zero => intro j r; exact Nat.le_refl _
  | succ m ih =>
    intro j r
    unfold rPos
    split
    · exact Nat.le_refl _
    · exact Nat.le_succ_of_le (ih _ _)
theorem rDs_ok {O D : Int → Int} {n j : Int} (h : ∃ m, rRc O D n m j) : rRc O D n (rDs O D n j) j := by
  unfold rDs
  rw [dif_pos h]
  exact Classical.choose_spec h
theorem gO_in {μ : ab_m} {n i : Int} (h0 : 0 ≤ i) (h1 : i < n) : gO μ n i = μ 145 (500 + i) := if_pos ⟨h0, h1⟩
theorem gD_in {μ : ab_m} {n i : Int} (h0 : 0 ≤ i) (h1 : i < n) : gD μ n i = μ 146 (500 + i) := if_pos ⟨h0, h1⟩
theorem rE_mE {μ : ab_m} {n i j : Int} (h0 : 0 ≤ i) (h1 : i < n) : rE (gO μ n) (gD μ n) i j ↔ mE μ i j := by
  unfold rE mE
  rw [gO_in h0 h1, gD_in h0 h1]
theorem rRc_mRc {μ : ab_m} {n : Int} : ∀ {m : Nat} {j : Int}, rRc (gO μ n) (gD μ n) n m j ↔ mRc μ n m j := by
  intro m
  induction m with
  | zero => intro j; exact Iff.rfl
  | succ m ih =>
    intro j
    exact ⟨fun ⟨i, a, b, c, e⟩ => ⟨i, a, b, ih.mp c, (rE_mE a b).mp e⟩, fun ⟨i, a, b, c, e⟩ => ⟨i, a, b, ih.mpr c, (rE_mE a b).mpr e⟩⟩
theorem gO_same {μ μ' : ab_m} {n : Int} (h : ∀ i, 0 ≤ i → i < n → μ' 145 (500 + i) = μ 145 (500 + i)) : gO μ' n = gO μ n := by
  funext i
  unfold gO
  by_cases hi : 0 ≤ i ∧ i < n
  · rw [if_pos hi, if_pos hi, h i hi.1 hi.2]
  · rw [if_neg hi, if_neg hi]
theorem gD_same {μ μ' : ab_m} {n : Int} (h : ∀ i, 0 ≤ i → i < n → μ' 146 (500 + i) = μ 146 (500 + i)) : gD μ' n = gD μ n := by
  funext i
  unfold gD
  by_cases hi : 0 ≤ i ∧ i < n
  · rw [if_pos hi, if_pos hi, h i hi.1 hi.2]
  · rw [if_neg hi, if_neg hi]
/-- what holds a copy was defined later than what it is a copy of -/
theorem mHF.rank {μ : ab_m} {n R : Int} (hW : mWF μ 500 n R) (h : mHF μ n R) (h0 : μ 163 0 ≠ 0) : ∀ (m : Nat) (j r : Int), 0 ≤ j → j < n → mRc μ n m j → 0 ≤ r → r < R → 0 ≤ μ 165 (300 * j + r) → μ 166 (μ 165 (300 * j + r)) = 1 → rPos (gO μ n) (gD μ n) n m j (μ 167 (μ 165 (300 * j + r))) < rPos (gO μ n) (gD μ n) n m j r := by
  obtain ⟨a1, a2, a3⟩ := h
  have come : ∀ (m : Nat) (j : Int), mRc μ n m j → μ 163 j ≠ 0 := by
    intro m
    induction m with
    | zero => intro j hj; rw [show j = 0 from hj]; exact h0
    | succ m ih => intro j ⟨i, b0, b1, b2, b3⟩; exact ((a3 i b0 b1 (ih i b2)).2.2 j b3).1
  intro m
  induction m with
  | zero =>
    intro j r j0 j1 hj r0 r1 hv ho
    have : j = 0 := hj
    subst this
    rw [Int.mul_zero, Int.zero_add] at hv
    have := a2 r r0 r1
    omega
  | succ m ih =>
    intro j r j0 j1 hj r0 r1 hv ho
    obtain ⟨p0, p1, p2, p3⟩ := rPar_ok (rRc_mRc.mpr hj)
    have hm := rRc_mRc.mp p2
    have he := (rE_mE p0 p1).mp p3
    have ci := come m _ hm
    have vn : μ 165 (300 * j + r) < n := (a3 j j0 j1 (come _ j hj)).2.1 r r0 r1
    have ka : μ 169 (μ 165 (300 * j + r)) = 0 := by
      obtain ⟨s1, -, s3, -⟩ := a1 _ hv vn
      rw [s3]
      exact (hW.at hv vn).2.2.2.2.2.2.2.2.1 (by rw [← s1]; exact ho)
    have gd := ((a3 _ p0 p1 ci).2.2 j he).2 r r0 r1 hv
    unfold rPos
    have e1 := gO_in (μ := μ) p0 p1
    have e2 := gD_in (μ := μ) p0 p1
    rw [e1, e2]
    rcases gd with ⟨⟨g1, g2⟩, g3, g4⟩ | ⟨g1, g2, g3⟩
    · have hx : μ 167 (μ 165 (300 * j + r)) ≠ r := fun e => g4 (Or.inl ⟨ka, e⟩)
      unfold mDf at g1
      rw [if_neg (fun q => hx (q.2.symm.trans g2)), if_pos ⟨g1, g2⟩]
      have := rPos_le (gO μ n) (gD μ n) n m (rPar (gO μ n) (gD μ n) n m j) (μ 167 (μ 165 (300 * j + r)))
      omega
    · unfold mDf at g1 g3
      rw [if_neg (fun q => g3 q.1 (Or.inl ⟨ka, q.2.symm⟩)), if_neg g1]
      have := ih _ r p0 p1 hm r0 r1 (by rw [← g2]; exact hv) (by rw [← g2]; exact ho)
      rw [← g2] at this
      exact this
/-- the ranks of all operands that are registers -/
noncomputable def mPsi (μ : ab_m) (n : Nat) : Nat := ab_sum (fun i => (if μ 149 (500 + (i : Int)) = 0 ∧ (1 ≤ μ 145 (500 + (i : Int)) ∧ μ 145 (500 + (i : Int)) ≤ 22 ∨ μ 145 (500 + (i : Int)) = 24 ∨ μ 145 (500 + (i : Int)) = 26 ∨ μ 145 (500 + (i : Int)) = 27) then rRk (gO μ n) (gD μ n) n i (μ 147 (500 + (i : Int))) else 0) + (if μ 150 (500 + (i : Int)) = 0 ∧ (2 ≤ μ 145 (500 + (i : Int)) ∧ μ 145 (500 + (i : Int)) ≤ 17 ∨ μ 145 (500 + (i : Int)) = 22) then rRk (gO μ n) (gD μ n) n i (μ 148 (500 + (i : Int))) else 0)) n
end M13

/-! THE REFERENCE, part 14: putCopies -/
section M14
variable {X : jm_X} {d : Nat} {P : Int → ab_m → Prop}
def mSk (μ μ' : ab_m) (n : Int) : Prop := ∀ i, 0 ≤ i → i < n → μ' 145 (500 + i) = μ 145 (500 + i) ∧ μ' 146 (500 + i) = μ 146 (500 + i) ∧ μ' 149 (500 + i) = μ 149 (500 + i) ∧ μ' 150 (500 + i) = μ 150 (500 + i)
theorem mSk.rf {μ : ab_m} {n : Int} : mSk μ μ n := fun _ _ _ => ⟨rfl, rfl, rfl, rfl⟩
theorem mSk.trans {μ μ1 μ2 : ab_m} {n : Int} (h : mSk μ μ1 n) (h2 : mSk μ1 μ2 n) : mSk μ μ2 n := fun i a b => ⟨(h2 i a b).1.trans (h i a b).1, (h2 i a b).2.1.trans (h i a b).2.1, (h2 i a b).2.2.1.trans (h i a b).2.2.1, (h2 i a b).2.2.2.trans (h i a b).2.2.2⟩
theorem mSk.phi {μ μ' : ab_m} {n : Nat} (h : mSk μ μ' n) : mPhi μ' n = mPhi μ n := ab_sum_congr fun j hj => by
  obtain ⟨a, b, c, e⟩ := h j (by omega) (by omega)
  rw [a, c, e]
theorem mSk.g {μ μ' : ab_m} {n : Int} (h : mSk μ μ' n) : gO μ' n = gO μ n ∧ gD μ' n = gD μ n := ⟨gO_same fun i a b => (h i a b).1, gD_same fun i a b => (h i a b).2.1⟩
theorem mSameN.sk {μ μ' : ab_m} {n : Int} (h : mSameN μ μ' n) : mSk μ μ' n := fun i a b => ⟨h 145 i (by decide) (by decide) a b, h 146 i (by decide) (by decide) a b, h 149 i (by decide) (by decide) a b, h 150 i (by decide) (by decide) a b⟩
theorem mPsi_sameN {μ μ' : ab_m} {n : Nat} (h : mSameN μ μ' n) : mPsi μ' n = mPsi μ n := by
  unfold mPsi
  rw [h.sk.g.1, h.sk.g.2]
  refine ab_sum_congr fun j hj => ?_
  rw [h 145 j (by decide) (by decide) (by omega) (by omega), h 147 j (by decide) (by decide) (by omega) (by omega), h 148 j (by decide) (by decide) (by omega) (by omega), h 149 j (by decide) (by decide) (by omega) (by omega), h 150 j (by decide) (by decide) (by omega) (by omega)]
/-- operands of one instruction are put by others of less rank -/
theorem mPsi_put {μ μ' : ab_m} {n : Nat} {i : Int} (hi : 0 ≤ i ∧ i < n) (ha : mAg μ μ' i) (hs : mSk μ μ' n)
    (h1 : mUA μ (500 + i) → rRk (gO μ n) (gD μ n) n i (μ' 147 (500 + i)) ≤ rRk (gO μ n) (gD μ n) n i (μ 147 (500 + i))) (h2 : mUB μ (500 + i) → rRk (gO μ n) (gD μ n) n i (μ' 148 (500 + i)) ≤ rRk (gO μ n) (gD μ n) n i (μ 148 (500 + i)))
    (h3 : (mUA μ (500 + i) ∧ rRk (gO μ n) (gD μ n) n i (μ' 147 (500 + i)) < rRk (gO μ n) (gD μ n) n i (μ 147 (500 + i))) ∨ (mUB μ (500 + i) ∧ rRk (gO μ n) (gD μ n) n i (μ' 148 (500 + i)) < rRk (gO μ n) (gD μ n) n i (μ 148 (500 + i)))) : mPsi μ' n < mPsi μ n := by
  unfold mPsi
  rw [hs.g.1, hs.g.2]
  unfold mUA mUB at *
  refine ab_sum_lt (k := i.toNat) (fun j hj => ?_) (by omega) ?_
  · obtain ⟨a, b, c, e⟩ := hs j (by omega) (by omega)
    rw [a, c, e]
    by_cases hji : (j : Int) = i
    · rw [hji]
      refine Nat.add_le_add ?_ ?_
      · split
        · rename_i q; exact h1 q
        · exact Nat.le_refl _
      · split
        · rename_i q; exact h2 q
        · exact Nat.le_refl _
    · rw [ha 147 _ (by omega) (by omega), ha 148 _ (by omega) (by omega)]
      exact Nat.le_refl _
  · obtain ⟨a, b, c, e⟩ := hs i hi.1 hi.2
    rw [Int.toNat_of_nonneg hi.1, a, c, e]
    rcases h3 with ⟨q, w⟩ | ⟨q, w⟩
    · rw [if_pos q, if_pos q]
      refine Nat.add_lt_add_of_lt_of_le w ?_
      split
      · rename_i q2; exact h2 q2
      · exact Nat.le_refl _
    · rw [if_pos (c := _ ∧ (2 ≤ _ ∧ _ ≤ 17 ∨ _)) q, if_pos (c := _ ∧ (2 ≤ _ ∧ _ ≤ 17 ∨ _)) q]
      refine Nat.add_lt_add_of_le_of_lt ?_ w
      split
      · rename_i q2; exact h1 q2
      · exact Nat.le_refl _
/-- lighter, or the same but for operands, which have fallen if anything changed -/
def mCc (μ μ1 : ab_m) (n : Nat) : Prop := mPhi μ1 n < mPhi μ n ∨ (mSk μ μ1 n ∧ mPsi μ1 n ≤ mPsi μ n ∧ (μ1 109 93 = μ 109 93 ∨ mPsi μ1 n < mPsi μ n))
def fCp (μ μ' : ab_m) : Prop := ∀ c i, (c < 163 ∨ 173 < c) → ¬ (c = 109 ∧ (i = 70 ∨ i = 93)) → ¬ (145 ≤ c ∧ c ≤ 150 ∧ 500 ≤ i) → μ' c i = μ c i
def mCe (μ μ' : ab_m) (n : Nat) : Prop := (∃ n' : Nat, μ' 109 70 = n' ∧ mPhi μ' n' < mPhi μ n) ∨ (μ' 109 70 = n ∧ mSk μ μ' n ∧ mPsi μ' n ≤ mPsi μ n ∧ (μ' 109 93 = μ 109 93 ∨ mPsi μ' n < mPsi μ n))
end M14

/-! THE REFERENCE, part 15: putCopies, its loop -/
section M15
variable {X : jm_X} {d : Nat} {P : Int → ab_m → Prop}
/-- what holds in the middle of a turn of putCopies -/
def mCk (μ μf μ1 : ab_m) (n : Nat) (R i : Int) : Prop := mWF μ1 500 n R ∧ (∀ c j, c ≠ 145 → c ≠ 147 → c ≠ 148 → c ≠ 149 → c ≠ 150 → c ≠ 172 → ¬ (c = 109 ∧ j = 93) → μ1 c j = μf c j) ∧ (∀ c j, 145 ≤ c → c ≤ 150 → ¬ (500 ≤ j ∧ j < 500 + i) → μ1 c j = μf c j) ∧ mCc μ μ1 n
def mGn (μ1 : ab_m) (i : Int) : Prop := ∀ j, 0 ≤ j → j < i → μ1 172 j ≠ 0 → μ1 145 (500 + j) = 1
theorem mCk.put {μ μf μ1 μ2 : ab_m} {n : Nat} {R i : Int} (h : mCk μ μf μ1 n R (i + 1)) (hi : 0 ≤ i ∧ i < n) (ha : mAg μ1 μ2 i) (h' : mI μ2 (500 + i) n R) (hl : i = n - 1 → μ2 145 (500 + i) = 25 ∨ μ2 145 (500 + i) = 28) (hc : mCc μ μ2 n) : mCk μ μf μ2 n R (i + 1) := by
  obtain ⟨h1, h2, h3, h4⟩ := h
  refine ⟨h1.put hi ha h' hl, fun c j a b e f g k m => ?_, fun c j a b e => ?_, hc⟩
  · rw [ha c j (by omega) m]; exact h2 c j a b e f g k m
  · rw [ha c j (by omega) (by omega)]; exact h3 c j a b e
theorem mCk.mono {μ μf μ1 : ab_m} {n : Nat} {R i : Int} (h : mCk μ μf μ1 n R i) : mCk μ μf μ1 n R (i + 1) := ⟨h.1, h.2.1, fun c j a b e => h.2.2.1 c j a b (by omega), h.2.2.2⟩
/-- the operand A (c = 147) or B (c = 148) is put by what it is a copy of -/
theorem mCc.put {μ μ1 μ2 : ab_m} {n : Nat} {i : Int} (hc : mCc μ μ1 n) (hi : 0 ≤ i ∧ i < n) (ha : mAg μ1 μ2 i) (h5 : μ2 145 (500 + i) = μ1 145 (500 + i)) (h9 : μ2 149 (500 + i) = μ1 149 (500 + i)) (h0 : μ2 150 (500 + i) = μ1 150 (500 + i))
    (hr : mSk μ μ1 n → mPsi μ2 n < mPsi μ1 n) : mCc μ μ2 n := by
  have sk : mSk μ1 μ2 n := fun j a b => by
    by_cases e : j = i
    · rw [e]; exact ⟨h5, ha 146 _ (by omega) (by omega), h9, h0⟩
    · exact ⟨ha _ _ (by omega) (by omega), ha _ _ (by omega) (by omega), ha _ _ (by omega) (by omega), ha _ _ (by omega) (by omega)⟩
  rcases hc with q | ⟨q1, q2, q3⟩
  · exact Or.inl (by rw [sk.phi]; exact q)
  · have := hr q1
    exact Or.inr ⟨q1.trans sk, by omega, Or.inr (by omega)⟩
theorem c_mM_putCopies {μ : ab_m} {n : Nat} {R : Int} (hW : mWF μ 500 n R) (hR : μ 109 71 = R) (hn : μ 109 70 = n) (hg : ab_Rg μ) (hP : ∀ μ', fCp μ μ' → mWF μ' 500 (μ' 109 70) R → mCe μ μ' n → P 0 μ') : jj_mM_putCopies X (d + 3) 0 (ab_la [109, n]) [] μ P := by
  have n1 : 1 ≤ (n : Int) ∧ (n : Int) ≤ 400 ∧ 0 ≤ R ∧ R ≤ 300 := ⟨hW.1, hW.2.1, hW.2.2.1, hW.2.2.2.1⟩
  refine bk_mM_putCopies_0 rfl ?_
  simp only [la1]
  refine c_mM_findHeld hW hR hg fun μf hff hF hF0 => ?_
  have hWf : mWF μf 500 n R := hW.same fun c i a b => hff c i (by omega)
  have gOf : gO μf n = gO μ n := gO_same fun i _ _ => hff _ _ (by omega)
  have gDf : gD μf n = gD μ n := gD_same fun i _ _ => hff _ _ (by omega)
  -- the rank falls
  have fall : ∀ (i r : Int), 0 ≤ i → i < n → μf 163 i ≠ 0 → 0 ≤ r → r < R → 0 ≤ μf 165 (300 * i + r) → μf 166 (μf 165 (300 * i + r)) = 1 → rRk (gO μ n) (gD μ n) n i (μf 167 (μf 165 (300 * i + r))) < rRk (gO μ n) (gD μ n) n i r := by
    intro i r a b c e f g h
    have hm : mRc μf n (rDs (gO μ n) (gD μ n) n i) i := by
      rw [← gOf, ← gDf]
      obtain ⟨m, hm⟩ := (hF.2.2 i a b c).1
      exact rRc_mRc.mp (rDs_ok ⟨m, rRc_mRc.mpr hm⟩)
    have := hF.rank hWf hF0 _ i r a b hm e f g h
    rw [gOf, gDf] at this
    exact this
  -- what is put is a register
  have reg : ∀ (v : Int), 0 ≤ v → v < n → μf 166 v = 1 → 0 ≤ μf 167 v ∧ μf 167 v < R := by
    intro v a b c
    obtain ⟨s1, s2, s3, -⟩ := hF.1 v a b
    have o := hWf.at a b
    rw [s2]
    exact o.2.2.1 ⟨o.2.2.2.2.2.2.2.2.1 (by rw [← s1]; exact c), Or.inl (by rw [← s1, c]; decide)⟩
  have s7 : ∀ (m : Nat) (l : ab_l) (μ1 : ab_m) (i : Int), l 0 = 109 → l 1 = n → l 2 = i → 0 ≤ i → i ≤ n → ((n : Int) - i).toNat = m → mCk μ μf μ1 n R i → mGn μ1 i → jj_mM_putCopies X (d + 3) 7 l [] μ1 P := by
    intro m
    induction m using Nat.strongRecOn with
    | ind m ih =>
      intro l μ1 i h0 h1 h2 hi hin hm hK hG
      have on : ∀ (l' : ab_l) (μ2 μ3 : ab_m) (v : Int), l' 0 = 109 → l' 1 = n → l' 2 = i + 1 → i < n → mCk μ μf μ2 n R (i + 1) → mGn μ2 i → μ3 = ab_mu μ2 172 i v → (v ≠ 0 → μ2 145 (500 + i) = 1) → jj_mM_putCopies X (d + 3) 7 l' [] μ3 P := by
        intro l' μ2 μ3 v g0 g1 g2 hlt k g e hv
        have u : ∀ c j, c ≠ 172 → μ3 c j = μ2 c j := fun c j hc => by rw [e, mu_ne hc]
        refine ih _ (by omega) l' μ3 (i + 1) g0 g1 g2 (by omega) (by omega) rfl ⟨k.1.same fun c j a b => u c j (by omega), fun c j a b c' e' f g' h => by rw [u c j g']; exact k.2.1 c j a b c' e' f g' h, fun c j a b q => by rw [u c j (by omega)]; exact k.2.2.1 c j a b q, ?_⟩ (fun j a b q => ?_)
        · have sn : mSameN μ2 μ3 n := fun c j a b _ _ => u c _ (by omega)
          rcases k.2.2.2 with q | ⟨q1, q2, q3⟩
          · exact Or.inl (by rw [sn.sk.phi]; exact q)
          · exact Or.inr ⟨q1.trans sn.sk, by rw [mPsi_sameN sn]; exact q2, by rw [mPsi_sameN sn, u 109 93 (by decide)]; exact q3⟩
        · rw [u 145 _ (by decide)]
          rw [e, ab_mud] at q
          split at q
          · rename_i w; rw [w.2]; exact hv q
          · exact g j a (by omega) q
      -- is it gone
      have s324 : ∀ (l' : ab_l) (μ2 : ab_m), l' 0 = 109 → l' 1 = n → l' 2 = i → l' 3 = 500 + i → i < n → mCk μ μf μ2 n R (i + 1) → mGn μ2 i → jj_mM_putCopies X (d + 3) 324 l' [] μ2 P := by
        intro l' μ2 g0 g1 g2 g3 hlt k g
        refine bk_mM_putCopies_324 g0 ?_
        simp only [g2, g3]
        rw [show ab_w (i + 1) = i + 1 from ab_wi (by omega) (by omega)]
        exact ⟨by omega, fun _ => ⟨by omega, fun μ3 e => on _ μ2 μ3 (0 % 2) g0 g1 rfl hlt k g e (fun q => absurd rfl q)⟩, fun q => ⟨by omega, by omega, fun _ => ⟨by omega, fun μ3 e => on _ μ2 μ3 (0 % 2) g0 g1 rfl hlt k g e (fun q => absurd rfl q)⟩, fun _ => ⟨by omega, fun μ3 e => on _ μ2 μ3 (1 % 2) g0 g1 rfl hlt k g e (fun _ => q)⟩⟩⟩
      have s278 : ∀ (l' : ab_l) (μ2 : ab_m) (ho : Int), l' 0 = 109 → l' 1 = n → l' 2 = i → l' 3 = 500 + i → l' 6 = ho → i < n → mCk μ μf μ2 n R (i + 1) → mGn μ2 i → (0 ≤ ho → ho < R ∧ 2 ≤ μ2 145 (500 + i) ∧ μ2 145 (500 + i) ≤ 20) → jj_mM_putCopies X (d + 3) 278 l' [] μ2 P := by
        intro l' μ2 ho g0 g1 g2 g3 g6 hlt k g hh
        refine bk_mM_putCopies_278 g0 ?_
        simp only [g3, g6]
        refine ⟨fun _ => s324 l' μ2 g0 g1 g2 g3 hlt k g, fun q => ⟨by omega, fun μ3 e3 => ⟨by omega, fun μ4 e4 => ⟨by omega, fun μ5 e5 => ⟨by omega, fun μ6 e6 => ⟨by omega, fun μ7 e7 μ8 e8 => ?_⟩⟩⟩⟩⟩⟩
        obtain ⟨w1, w2, w3⟩ := hh q
        have ag : mAg μ2 μ8 i := by rw [e8, e7, e6, e5, e4, e3]; exact (((((mAg.rf.mu (by omega)).mu (by omega)).mu (by omega)).mu (by omega)).mu (by omega)).mu (by omega)
        have v145 : μ8 145 (500 + i) = 1 := by rw [e8, e7, e6, e5, e4, e3]; simp [ab_mud]
        have v146 : μ8 146 (500 + i) = μ2 146 (500 + i) := ag 146 _ (by omega) (by omega)
        have v147 : μ8 147 (500 + i) = ho := by rw [e8, e7, e6, e5, e4]; simp [ab_mud]
        have v149 : μ8 149 (500 + i) = 0 := by rw [e8, e7, e6, e5]; simp [ab_mud]
        have v150 : μ8 150 (500 + i) = 0 := by rw [e8, e7]; simp [ab_mud]
        have od := (k.1.at hi hlt).2.2.2.2.1 (Or.inl (by omega))
        have hne : i ≠ (n : Int) - 1 := fun e => by have := k.1.last hi e; omega
        have wl : mPhi μ8 n < mPhi μ2 n := mPhi_put ⟨hi, hlt⟩ ag (by rw [v145, v149, v150]; exact mWt_copy ⟨w2, w3⟩)
        refine s324 l' μ8 g0 g1 g2 g3 hlt (k.put ⟨hi, hlt⟩ ag ?_ (fun e => absurd e hne) (Or.inl ?_)) ?_
        · unfold mI mUA mUB
          rw [v145, v146, v147]
          exact ⟨by omega, by omega, fun _ => ⟨q, w1⟩, fun w => by omega, fun _ => od, fun w => by omega, fun w => by omega, fun w => by omega, fun _ => v149, fun w => by omega⟩
        · rcases k.2.2.2 with z | ⟨z, -⟩
          · omega
          · rw [z.phi] at wl; exact wl
        · intro j a b w
          have e9 : μ8 172 j = μ2 172 j := ag 172 _ (by omega) (by omega)
          rw [e9] at w
          rw [ag 145 _ (by omega) (by omega)]
          exact g j a b w
      have s178 : ∀ (m2 : Nat) (l' : ab_l) (μ2 : ab_m) (ho r : Int), l' 0 = 109 → l' 1 = n → l' 2 = i → l' 3 = 500 + i → l' 6 = ho → l' 7 = r → -1 ≤ r → r < R → (r + 1).toNat = m2 → i < n → μf 163 i ≠ 0 → mCk μ μf μ2 n R (i + 1) → mGn μ2 i → (0 ≤ ho → ho < R ∧ 2 ≤ μ2 145 (500 + i) ∧ μ2 145 (500 + i) ≤ 20) → jj_mM_putCopies X (d + 3) 178 l' [] μ2 P := by
        intro m2
        induction m2 using Nat.strongRecOn with
        | ind m2 ih2 =>
          intro l' μ2 ho r g0 g1 g2 g3 g6 g7 hr hrR hm2 hlt ci k g hh
          have x : jj_mM_putCopies X (d + 3) 278 l' [] μ2 P := s278 l' μ2 ho g0 g1 g2 g3 g6 hlt k g hh
          refine bk_mM_putCopies_178 g0 ?_
          simp only [g2, g3, g6, g7]
          refine ⟨fun _ => x, fun q => ?_⟩
          simp (disch := omega) only [ab_wi]
          refine ⟨by omega, fun _ => x, fun q1 => ⟨by omega, fun _ => x, fun q2 => ⟨by omega, fun q3 => ?_, fun q3 => ⟨by omega, by omega, by omega, by omega, by omega, ?_⟩⟩⟩⟩
          · exact ih2 _ (by omega) _ μ2 ho (r - 1) g0 g1 g2 g3 rfl (by show r + (-1) = r - 1; omega) (by omega) (by omega) rfl hlt ci k g hh
          · have e165 : μ2 165 (300 * i + r) = μf 165 (300 * i + r) := k.2.1 165 _ (by decide) (by decide) (by decide) (by decide) (by decide) (by decide) (by omega)
            have bd : μ2 165 (300 * i + r) < n := by rw [e165]; exact (hF.2.2 i hi hlt ci).2.1 r q hrR
            refine c_mM_isExpr (by omega) (fun _ _ _ _ _ => ⟨fun w => absurd w (by decide), fun _ => ih2 _ (by omega) _ μ2 r (r - 1) g0 g1 g2 g3 rfl (by show r + (-1) = r - 1; omega) (by omega) (by omega) rfl hlt ci k g (fun _ => ⟨hrR, q1, q2⟩)⟩) ⟨fun _ => ih2 _ (by omega) _ μ2 ho (r - 1) g0 g1 g2 g3 rfl (by show r + (-1) = r - 1; omega) (by omega) (by omega) rfl hlt ci k g hh, fun w => absurd rfl w⟩
      have s133 : ∀ (l' : ab_l) (μ2 : ab_m) (y : Int), l' 0 = 109 → l' 1 = n → l' 2 = i → l' 3 = 500 + i → l' 5 = y → i < n → μf 163 i ≠ 0 → mCk μ μf μ2 n R (i + 1) → mGn μ2 i → (0 ≤ y → mUB μ2 (500 + i) ∧ y = μf 165 (300 * i + μ2 148 (500 + i)) ∧ y < n) → jj_mM_putCopies X (d + 3) 133 l' [] μ2 P := by
        intro l' μ2 y g0 g1 g2 g3 g5 hlt ci k g hy
        have e71 : μ2 109 71 = R := by rw [k.2.1 109 71 (by decide) (by decide) (by decide) (by decide) (by decide) (by decide) (by omega), hff 109 71 (by omega)]; exact hR
        refine bk_mM_putCopies_133 g0 ?_
        simp only [g3, g5, e71]
        rw [show ab_w (R - 1) = R - 1 from ab_wi (by omega) (by omega)]
        have x : jj_mM_putCopies X (d + 3) 178 (ab_up (ab_up l' 6 (-1)) 7 (R - 1)) [] μ2 P := s178 _ _ μ2 (-1) (R - 1) g0 g1 g2 g3 rfl rfl (by omega) (by omega) rfl hlt ci k g (fun w => absurd w (by decide))
        refine ⟨fun _ => x, fun q => ?_⟩
        obtain ⟨w1, w2, w3⟩ := hy q
        have e166 : ∀ c j, 166 ≤ c → c ≤ 171 → μ2 c j = μf c j := fun c j a b => k.2.1 c j (by omega) (by omega) (by omega) (by omega) (by omega) (by omega) (by omega)
        refine ⟨by omega, fun _ => x, fun q2 => ⟨by omega, by omega, fun μ3 e3 μ4 e4 => ?_⟩⟩
        rw [e166 166 _ (by decide) (by decide)] at q2
        have rg := reg y q w3 q2
        have ag : mAg μ2 μ4 i := by rw [e4, e3]; exact (mAg.rf.mu (by omega)).mu (by omega)
        have v145 : μ4 145 (500 + i) = μ2 145 (500 + i) := by rw [e4, e3]; simp [ab_mud]
        have v146 : μ4 146 (500 + i) = μ2 146 (500 + i) := ag 146 _ (by omega) (by omega)
        have v147 : μ4 147 (500 + i) = μ2 147 (500 + i) := by rw [e4, e3]; simp [ab_mud]
        have v148 : μ4 148 (500 + i) = μf 167 y := by rw [e4, e3]; simp [ab_mud]; exact e166 167 _ (by decide) (by decide)
        have v149 : μ4 149 (500 + i) = μ2 149 (500 + i) := by rw [e4, e3]; simp [ab_mud]
        have v150 : μ4 150 (500 + i) = μ2 150 (500 + i) := by rw [e4, e3]; simp [ab_mud]
        have old := k.1.at hi hlt
        have ob := old.2.2.2.1 w1
        have e71' : μ4 109 71 = R := by rw [ag 109 71 (by omega) (by omega)]; exact e71
        rw [e71', show ab_w (R - 1) = R - 1 from ab_wi (by omega) (by omega)]
        have u2 : 2 ≤ μ2 145 (500 + i) ∧ μ2 145 (500 + i) ≤ 17 ∨ μ2 145 (500 + i) = 22 := w1.2
        have k4 : mCk μ μf μ4 n R (i + 1) := by
          refine k.put ⟨hi, hlt⟩ ag ?_ (fun e => by rw [v145]; exact k.1.last hi e) (k.2.2.2.put ⟨hi, hlt⟩ ag v145 v149 v150 fun sk => ?_)
          · obtain ⟨o1, o2, o3, o4, o5, o6, o7, o8, o9⟩ := old
            unfold mI mUA mUB at *
            rw [v145, v146, v147, v148, v149, v150]
            exact ⟨o1, o2, o3, fun _ => rg, o5, o6, fun w => by omega, o8, o9⟩
          · have sk2 : mSk μ2 μ4 n := fun j a b => by
              by_cases e : j = i
              · rw [e]; exact ⟨v145, v146, v149, v150⟩
              · exact ⟨ag _ _ (by omega) (by omega), ag _ _ (by omega) (by omega), ag _ _ (by omega) (by omega), ag _ _ (by omega) (by omega)⟩
            have lt : rRk (gO μ2 n) (gD μ2 n) n i (μ4 148 (500 + i)) < rRk (gO μ2 n) (gD μ2 n) n i (μ2 148 (500 + i)) := by
              rw [sk.g.1, sk.g.2, v148, w2]
              exact fall i _ hi hlt ci ob.1 ob.2 (by rw [← w2]; exact q) (by rw [← w2]; exact q2)
            exact mPsi_put ⟨hi, hlt⟩ ag sk2 (fun _ => by rw [v147]; exact Nat.le_refl _) (fun _ => Nat.le_of_lt lt) (Or.inr ⟨w1, lt⟩)
        refine s178 _ _ μ4 (-1) (R - 1) g0 g1 g2 g3 rfl rfl (by omega) (by omega) rfl hlt ci k4 ?_ (fun w => absurd w (by decide))
        intro j a b w
        rw [ag 172 _ (by omega) (by omega)] at w
        rw [ag 145 _ (by omega) (by omega)]
        exact g j a b w
      have s97 : ∀ (l' : ab_l) (μ2 : ab_m) (x y : Int), l' 0 = 109 → l' 1 = n → l' 2 = i → l' 3 = 500 + i → l' 4 = x → i < n → μf 163 i ≠ 0 → mCk μ μf μ2 n R (i + 1) → mGn μ2 i → (0 ≤ x → mUA μ2 (500 + i) ∧ x = μf 165 (300 * i + μ2 147 (500 + i)) ∧ x < n) → (0 ≤ y → mUB μ2 (500 + i) ∧ y = μf 165 (300 * i + μ2 148 (500 + i)) ∧ y < n) → jj_mM_putCopies X (d + 3) 97 l' [(0, y)] μ2 P := by
        intro l' μ2 x y g0 g1 g2 g3 g4 hlt ci k g hx hy
        refine bk_mM_putCopies_97 g0 ?_
        simp only [g3, g4]
        have z : jj_mM_putCopies X (d + 3) 133 (ab_up l' 5 y) [] μ2 P := s133 _ μ2 y g0 g1 g2 g3 rfl hlt ci k g hy
        refine ⟨fun _ => z, fun q => ?_⟩
        obtain ⟨w1, w2, w3⟩ := hx q
        have e166 : ∀ c j, 166 ≤ c → c ≤ 171 → μ2 c j = μf c j := fun c j a b => k.2.1 c j (by omega) (by omega) (by omega) (by omega) (by omega) (by omega) (by omega)
        refine ⟨by omega, fun _ => z, fun q2 => ⟨by omega, by omega, fun μ3 e3 μ4 e4 => ?_⟩⟩
        rw [e166 166 _ (by decide) (by decide)] at q2
        have rg := reg x q w3 q2
        have ag : mAg μ2 μ4 i := by rw [e4, e3]; exact (mAg.rf.mu (by omega)).mu (by omega)
        have v145 : μ4 145 (500 + i) = μ2 145 (500 + i) := by rw [e4, e3]; simp [ab_mud]
        have v146 : μ4 146 (500 + i) = μ2 146 (500 + i) := ag 146 _ (by omega) (by omega)
        have v147 : μ4 147 (500 + i) = μf 167 x := by rw [e4, e3]; simp [ab_mud]; exact e166 167 _ (by decide) (by decide)
        have v148 : μ4 148 (500 + i) = μ2 148 (500 + i) := by rw [e4, e3]; simp [ab_mud]
        have v149 : μ4 149 (500 + i) = μ2 149 (500 + i) := by rw [e4, e3]; simp [ab_mud]
        have v150 : μ4 150 (500 + i) = μ2 150 (500 + i) := by rw [e4, e3]; simp [ab_mud]
        have old := k.1.at hi hlt
        have oa := old.2.2.1 w1
        have k4 : mCk μ μf μ4 n R (i + 1) := by
          refine k.put ⟨hi, hlt⟩ ag ?_ (fun e => by rw [v145]; exact k.1.last hi e) (k.2.2.2.put ⟨hi, hlt⟩ ag v145 v149 v150 fun sk => ?_)
          · obtain ⟨o1, o2, o3, o4, o5, o6, o7, o8, o9⟩ := old
            unfold mI mUA mUB at *
            rw [v145, v146, v147, v148, v149, v150]
            exact ⟨o1, o2, fun _ => rg, o4, o5, o6, o7, o8, o9⟩
          · have sk2 : mSk μ2 μ4 n := fun j a b => by
              by_cases e : j = i
              · rw [e]; exact ⟨v145, v146, v149, v150⟩
              · exact ⟨ag _ _ (by omega) (by omega), ag _ _ (by omega) (by omega), ag _ _ (by omega) (by omega), ag _ _ (by omega) (by omega)⟩
            have lt : rRk (gO μ2 n) (gD μ2 n) n i (μ4 147 (500 + i)) < rRk (gO μ2 n) (gD μ2 n) n i (μ2 147 (500 + i)) := by
              rw [sk.g.1, sk.g.2, v147, w2]
              exact fall i _ hi hlt ci oa.1 oa.2 (by rw [← w2]; exact q) (by rw [← w2]; exact q2)
            exact mPsi_put ⟨hi, hlt⟩ ag sk2 (fun _ => Nat.le_of_lt lt) (fun _ => by rw [v148]; exact Nat.le_refl _) (Or.inl ⟨w1, lt⟩)
        refine s133 _ μ4 y g0 g1 g2 g3 rfl hlt ci k4 (fun j a b w => ?_) (fun w => ?_)
        · rw [ag 172 _ (by omega) (by omega)] at w
          rw [ag 145 _ (by omega) (by omega)]
          exact g j a b w
        · obtain ⟨z1, z2, z3⟩ := hy w
          unfold mUB at z1 ⊢
          rw [v145, v148, v150]
          exact ⟨z1, z2, z3⟩
      have e165 : ∀ μ2, mCk μ μf μ2 n R i → ∀ j, μ2 165 j = μf 165 j := fun μ2 k j => k.2.1 165 j (by decide) (by decide) (by decide) (by decide) (by decide) (by decide) (by omega)
      have s66 : ∀ (l' : ab_l) (μ2 : ab_m) (x : Int), l' 0 = 109 → l' 1 = n → l' 2 = i → l' 3 = 500 + i → i < n → μf 163 i ≠ 0 → mCk μ μf μ2 n R i → mGn μ2 i → (0 ≤ x → mUA μ2 (500 + i) ∧ x = μf 165 (300 * i + μ2 147 (500 + i)) ∧ x < n) → jj_mM_putCopies X (d + 3) 66 l' [(0, x)] μ2 P := by
        intro l' μ2 x g0 g1 g2 g3 hlt ci k g hx
        refine bk_mM_putCopies_66 g0 ?_
        simp only [g2, g3]
        refine c_mM_usesB (by omega) (fun u => ⟨fun w => absurd w (by decide), fun _ => ?_⟩) (fun _ => ⟨fun _ => s97 _ μ2 x (-1) g0 g1 g2 g3 rfl hlt ci k.mono g hx (fun w => absurd w (by decide)), fun w => absurd rfl w⟩)
        have ob := (k.1.at hi hlt).2.2.2.1 u
        simp (disch := omega) only [ab_wi]
        refine ⟨by omega, by omega, ?_⟩
        rw [e165 μ2 k]
        exact s97 _ μ2 x _ g0 g1 g2 g3 rfl hlt ci k.mono g hx (fun w => ⟨u, rfl, (hF.2.2 i hi hlt ci).2.1 _ ob.1 ob.2⟩)
      refine bk_mM_putCopies_7 h0 ?_
      simp only [h1, h2]
      rw [show ab_w (500 + i) = 500 + i from ab_wi (by omega) (by omega), show ab_w (i + 1) = i + 1 from ab_wi (by omega) (by omega)]
      refine ⟨fun q => ?_, fun h => ⟨by omega, fun μ2 e2 => ⟨by omega, fun q => ?_, fun q => ?_⟩⟩⟩
      · -- the end: leaveOut
        have hin' : i = n := by omega
        subst hin'
        refine ok_rg fun hg1 => ?_
        have e70 : μ1 109 70 = (n : Int) := by rw [hK.2.1 109 70 (by decide) (by decide) (by decide) (by decide) (by decide) (by decide) (by omega), hff 109 70 (by omega)]; exact hn
        have hd : ∀ i : Nat, i < n → mIsL (μ1 145 (500 + (i : Int))) → 0 ≤ μ1 146 (500 + (i : Int)) ∧ μ1 146 (500 + (i : Int)) ≤ n := by
          intro i a b
          have := (hK.1.at (i := (i : Int)) (by omega) (by omega)).2.2.2.2.2.1 b
          omega
        have b93 : μ1 109 93 = 0 ∨ μ1 109 93 = 1 := by
          have : ab_rg 4 (μ1 109 93) := hg1 109 93 (by decide)
          have this : 0 ≤ μ1 109 93 ∧ μ1 109 93 ≤ 1 := this
          omega
        refine c_mM_leaveOut e70 (by omega) hg1 hd fun μ2 hf2 hl2 => ?_
        have kp : mKp μ1 n (n - 1) := by
          have la := hK.1.last (i := ((n - 1 : Nat) : Int)) (by omega) (by omega)
          refine ⟨by omega, ?_, la, fun j a b => by omega, fun i a b c => ?_⟩
          · refine Classical.byContradiction fun w => ?_
            have := hG ((n - 1 : Nat) : Int) (by omega) (by omega) w
            omega
          · have := (hK.1.at (i := (i : Int)) (by omega) (by omega)).2.2.2.2.2.1 c
            omega
        refine hP μ2 (fun c j a b e => ?_) (hl2.wf hK.1 kp) ?_
        · rw [hf2 c j (by omega) b e]
          by_cases hc : 145 ≤ c ∧ c ≤ 150
          · rw [hK.2.2.1 c j hc.1 hc.2 (by omega)]; exact hff c j (by omega)
          · rw [hK.2.1 c j (by omega) (by omega) (by omega) (by omega) (by omega) (by omega) (by omega)]; exact hff c j (by omega)
        · have zl := ab_z_le (μ1 172) n
          have ph := hl2.phi
          by_cases hz : ab_z (μ1 172) n = n
          · have sn := hl2.all hd hz
            have ec := hl2.chg b93 hz
            have e7 : μ2 109 70 = (n : Int) := by rw [hl2.1, hz]
            rcases hK.2.2.2 with w | ⟨w1, w2, w3⟩
            · exact Or.inl ⟨n, e7, by rw [sn.sk.phi]; exact w⟩
            · exact Or.inr ⟨e7, w1.trans sn.sk, by rw [mPsi_sameN sn]; exact w2, by rw [mPsi_sameN sn, ec]; exact w3⟩
          · refine Or.inl ⟨_, hl2.1, ?_⟩
            have := ph.2 (by omega)
            rcases hK.2.2.2 with w | ⟨w1, w2, w3⟩
            · omega
            · rw [w1.phi] at this; exact this
      · -- a turn
        have u : ∀ c j, c ≠ 172 → μ2 c j = μ1 c j := fun c j hc => by rw [e2, mu_ne hc]
        have sn : mSameN μ1 μ2 n := fun c j a b _ _ => u c _ (by omega)
        have k2 : mCk μ μf μ2 n R i := by
          refine ⟨hK.1.same fun c j a b => u c j (by omega), fun c j a b c' e' f g' h => by rw [u c j g']; exact hK.2.1 c j a b c' e' f g' h, fun c j a b w => by rw [u c j (by omega)]; exact hK.2.2.1 c j a b w, ?_⟩
          rcases hK.2.2.2 with w | ⟨w1, w2, w3⟩
          · exact Or.inl (by rw [sn.sk.phi]; exact w)
          · exact Or.inr ⟨w1.trans sn.sk, by rw [mPsi_sameN sn]; exact w2, by rw [mPsi_sameN sn, u 109 93 (by decide)]; exact w3⟩
        have g2 : mGn μ2 i := by
          intro j a b w
          rw [u 145 _ (by decide)]
          rw [e2, ab_mud, if_neg (by omega)] at w
          exact hG j a b w
        have ci : μf 163 i ≠ 0 := by rw [← k2.2.1 163 i (by decide) (by decide) (by decide) (by decide) (by decide) (by decide) (by omega)]; exact q
        refine c_mM_usesA (by omega) (fun ua => ⟨fun w => absurd w (by decide), fun _ => ?_⟩) (fun _ => ⟨fun _ => s66 _ μ2 (-1) h0 h1 h2 rfl h ci k2 g2 (fun w => absurd w (by decide)), fun w => absurd rfl w⟩)
        have oa := (k2.1.at hi h).2.2.1 ua
        simp (disch := omega) only [ab_wi]
        refine ⟨by omega, by omega, ?_⟩
        rw [e165 μ2 k2]
        exact s66 _ μ2 _ h0 h1 h2 rfl h ci k2 g2 (fun w => ⟨ua, rfl, (hF.2.2 i hi h ci).2.1 _ oa.1 oa.2⟩)
      · exact on _ μ1 μ2 (0 % 2) h0 h1 rfl h hK.mono hG e2 (fun w => absurd rfl w)
  refine s7 _ _ μf 0 rfl rfl rfl (by omega) (by omega) rfl ⟨hWf, fun _ _ _ _ _ _ _ _ _ => rfl, fun _ _ _ _ _ => rfl, Or.inr ⟨fun i a b => ⟨hff _ _ (by omega), hff _ _ (by omega), hff _ _ (by omega), hff _ _ (by omega)⟩, ?_, Or.inl (hff 109 93 (by omega))⟩⟩ (fun j a b => by omega)
  rw [mPsi_sameN (fun c i a b _ _ => hff c _ (by omega))]
  exact Nat.le_refl _
end M15

/-! THE REFERENCE, part 16: putOutDead -/
section M16
variable {X : jm_X} {d : Nat} {P : Int → ab_m → Prop}
theorem c_mM_isCell {μ : ab_m} {row i : Int} (hw : μ 109 18 = 0 ∨ μ 109 18 = 1) (hr : 0 ≤ row ∧ row < 8) (h1 : 0 ≤ i → i < μ 121 (8 * μ 109 18 + row) → P 1 μ) (h0 : P 0 μ) : jj_mM_isCell X d 0 (ab_la [109, row, i]) [] μ P := by
  refine bk_mM_isCell_0 rfl ?_
  simp only [la1, la2]
  simp (disch := omega) only [ab_wi]
  exact ⟨fun _ => h0, fun q => ⟨by omega, fun _ => h0, fun q2 => h1 q q2⟩⟩
/-- lighter, or the same -/
def mDe (μ μ' : ab_m) (n : Nat) : Prop := (∃ n' : Nat, μ' 109 70 = n' ∧ mPhi μ' n' < mPhi μ n) ∨ (μ' 109 70 = n ∧ mSameN μ μ' n ∧ μ' 109 93 = μ 109 93)
theorem mLv.de {μ μ' : ab_m} {n : Nat} (h : mLv μ μ' n) (hd : ∀ i : Nat, i < n → mIsL (μ 145 (500 + (i : Int))) → 0 ≤ μ 146 (500 + (i : Int)) ∧ μ 146 (500 + (i : Int)) ≤ n) (hb : μ 109 93 = 0 ∨ μ 109 93 = 1) : mDe μ μ' n := by
  have zl := ab_z_le (μ 172) n
  by_cases hz : ab_z (μ 172) n = n
  · exact Or.inr ⟨by rw [h.1, hz], h.all hd hz, h.chg hb hz⟩
  · exact Or.inl ⟨_, h.1, h.phi.2 (by omega)⟩
theorem rg93 {μ : ab_m} (hg : ab_Rg μ) : μ 109 93 = 0 ∨ μ 109 93 = 1 := by
  have : ab_rg 4 (μ 109 93) := hg 109 93 (by decide)
  have this : 0 ≤ μ 109 93 ∧ μ 109 93 ≤ 1 := this
  omega
theorem mWF.dn {μ : ab_m} {n : Nat} {R : Int} (hW : mWF μ 500 n R) : ∀ i : Nat, i < n → mIsL (μ 145 (500 + (i : Int))) → 0 ≤ μ 146 (500 + (i : Int)) ∧ μ 146 (500 + (i : Int)) ≤ n := by
  intro i a b
  have := (hW.at (i := (i : Int)) (by omega) (by omega)).2.2.2.2.2.1 b
  omega
/-- nothing of the end is gone -/
theorem mWF.kp {μ : ab_m} {n : Nat} {R : Int} (hW : mWF μ 500 n R) (hG : μ 172 ((n - 1 : Nat) : Int) = 0) : mKp μ n (n - 1) := by
  have n1 : 1 ≤ (n : Int) := hW.1
  refine ⟨by omega, hG, hW.last (i := ((n - 1 : Nat) : Int)) (by omega) (by omega), fun j a b => by omega, fun i a b c => ?_⟩
  have := (hW.at (i := (i : Int)) (by omega) (by omega)).2.2.2.2.2.1 c
  omega
def fDd (μ μ' : ab_m) : Prop := ∀ c i, (c < 172 ∨ 174 < c) → ¬ (c = 109 ∧ (i = 70 ∨ i = 93)) → ¬ (145 ≤ c ∧ c ≤ 150 ∧ 500 ≤ i) → μ' c i = μ c i
theorem c_mM_putOutDead {μ : ab_m} {n : Nat} {R : Int} (hW : mWF μ 500 n R) (hR : μ 109 71 = R) (hn : μ 109 70 = n) (hw : μ 109 18 = 0 ∨ μ 109 18 = 1) (hP : ∀ μ', fDd μ μ' → mWF μ' 500 (μ' 109 70) R → mDe μ μ' n → P 0 μ') : jj_mM_putOutDead X (d + 3) 0 (ab_la [109, n]) [] μ P := by
  have n1 : 1 ≤ (n : Int) ∧ (n : Int) ≤ 400 ∧ 0 ≤ R ∧ R ≤ 300 := ⟨hW.1, hW.2.1, hW.2.2.1, hW.2.2.2.1⟩
  have s10 : ∀ (m : Nat) (l : ab_l) (μ1 : ab_m) (i : Int), l 0 = 109 → l 1 = n → l 2 = i → 0 ≤ i → i ≤ n → ((n : Int) - i).toNat = m → (∀ c j, c ≠ 172 → c ≠ 174 → μ1 c j = μ c j) → (∀ j, 0 ≤ j → j < i → μ1 172 j ≠ 0 → μ 145 (500 + j) ≤ 21) → jj_mM_putOutDead X (d + 3) 10 l [] μ1 P := by
    intro m
    induction m using Nat.strongRecOn with
    | ind m ih =>
      intro l μ1 i h0 h1 h2 hi hin hm hf hG
      have on : ∀ (l' : ab_l) (μ3 : ab_m) (v : Int), l' 0 = 109 → l' 1 = n → l' 2 = i + 1 → i < n → μ3 = ab_mu μ1 172 i v → (v ≠ 0 → μ 145 (500 + i) ≤ 21) → jj_mM_putOutDead X (d + 3) 10 l' [] μ3 P := by
        intro l' μ3 v g0 g1 g2 hlt e hv
        refine ih _ (by omega) l' μ3 (i + 1) g0 g1 g2 (by omega) (by omega) rfl (fun c j a b => by rw [e, mu_ne a]; exact hf c j a b) (fun j a b q => ?_)
        rw [e, ab_mud] at q
        split at q
        · rename_i w; rw [w.2]; exact hv q
        · exact hG j a (by omega) q
      have s116 : ∀ (l' : ab_l) (s : Int), l' 0 = 109 → l' 1 = n → l' 2 = i → l' 3 = 500 + i → i < n → jj_mM_putOutDead X (d + 3) 116 l' [(0, s)] μ1 P := by
        intro l' s g0 g1 g2 g3 hlt
        refine bk_mM_putOutDead_116 g0 ?_
        simp only [g2, g3, hf 145 _ (by decide) (by decide), hf 146 _ (by decide) (by decide)]
        rw [show ab_w (i + 1) = i + 1 from ab_wi (by omega) (by omega)]
        refine ⟨by omega, fun _ => ⟨by omega, fun μ3 e => on _ μ3 (0 % 2) g0 g1 rfl hlt e (fun q => absurd rfl q)⟩, fun q => ⟨fun _ => ⟨by omega, fun μ3 e => on _ μ3 (0 % 2) g0 g1 rfl hlt e (fun q => absurd rfl q)⟩, fun _ => ?_⟩⟩
        have od := (hW.at hi hlt).2.2.2.2.1 (Or.inl q)
        simp (disch := omega) only [ab_wi]
        exact ⟨by omega, by omega, fun _ => ⟨by omega, fun μ3 e => on _ μ3 (0 % 2) g0 g1 rfl hlt e (fun q => absurd rfl q)⟩, fun _ => ⟨by omega, fun μ3 e => on _ μ3 (1 % 2) g0 g1 rfl hlt e (fun _ => q)⟩⟩
      have s65 : ∀ (l' : ab_l) (s : Int), l' 0 = 109 → l' 1 = n → l' 2 = i → l' 3 = 500 + i → i < n → jj_mM_putOutDead X (d + 3) 65 l' [(0, s)] μ1 P := by
        intro l' s g0 g1 g2 g3 hlt
        refine bk_mM_putOutDead_65 g0 ?_
        simp only [g3, hf 145 _ (by decide) (by decide)]
        have x : ∀ v, jj_mM_putOutDead X (d + 3) 116 (ab_up l' 4 s) [(0, v)] μ1 P := fun v => s116 _ v g0 g1 g2 g3 hlt
        refine ⟨fun _ => x 1, fun _ => ⟨by omega, fun _ => x 0, fun q => ⟨by omega, fun _ => x 1, fun _ => ⟨by omega, by omega, ?_⟩⟩⟩⟩
        have ob := (hW.at hi hlt).2.2.2.2.2.2.1 q
        refine c_mM_isCell (by rw [hf 109 18 (by decide) (by decide)]; exact hw) (by rw [hf 148 _ (by decide) (by decide)]; exact ob) (fun _ _ => ⟨fun _ => x 0, fun w => absurd w (by decide)⟩) ⟨fun w => absurd rfl w, fun _ => x 1⟩
      have s42 : ∀ (l' : ab_l), l' 0 = 109 → l' 1 = n → l' 2 = i → l' 3 = 500 + i → i < n → jj_mM_putOutDead X (d + 3) 42 l' [] μ1 P := by
        intro l' g0 g1 g2 g3 hlt
        refine bk_mM_putOutDead_42 g0 ?_
        simp only [g3]
        exact ⟨by omega, fun _ => s65 l' 1 g0 g1 g2 g3 hlt, fun _ => ⟨by omega, fun _ => s65 l' 0 g0 g1 g2 g3 hlt, fun _ => s65 l' 1 g0 g1 g2 g3 hlt⟩⟩
      refine bk_mM_putOutDead_10 h0 ?_
      simp only [h1, h2]
      rw [show ab_w (500 + i) = 500 + i from ab_wi (by omega) (by omega)]
      refine ⟨fun q => ?_, fun h => ⟨by omega, fun _ => s42 _ h0 h1 h2 rfl h, fun _ => ⟨by omega, fun _ => s65 _ 0 h0 h1 h2 rfl h, fun _ => s42 _ h0 h1 h2 rfl h⟩⟩⟩
      have hin' : i = n := by omega
      subst hin'
      refine ok_rg fun hg1 => ?_
      have hW1 : mWF μ1 500 n R := hW.same fun c j a b => hf c j (by omega) (by omega)
      refine c_mM_leaveOut (by rw [hf 109 70 (by decide) (by decide)]; exact hn) (by omega) hg1 hW1.dn fun μ2 hf2 hl2 => ?_
      have kp : mKp μ1 n (n - 1) := hW1.kp (Classical.byContradiction fun w => by
        have a := hG ((n - 1 : Nat) : Int) (by omega) (by omega) w
        have b := hW.last (i := ((n - 1 : Nat) : Int)) (by omega) (by omega)
        omega)
      refine hP μ2 (fun c j a b e => ?_) (hl2.wf hW1 kp) ?_
      · rw [hf2 c j (by omega) b e]; exact hf c j (by omega) (by omega)
      · have s : mSame μ μ1 := fun c j a b => hf c j (by omega) (by omega)
        rcases hl2.de hW1.dn (rg93 hg1) with ⟨n', w1, w2⟩ | ⟨w1, w2, w3⟩
        · exact Or.inl ⟨n', w1, by rw [mPhi_same s] at w2; exact w2⟩
        · exact Or.inr ⟨w1, fun c j a b e f => by rw [w2 c j a b e f]; exact s c _ a b, by rw [w3]; exact hf 109 93 (by decide) (by decide)⟩
  refine bk_mM_putOutDead_0 rfl ?_
  simp only [la1]
  exact c_mM_findLive (Or.inr rfl) (by omega) (by rw [hR]; omega) hW.lp fun μ1 ho => s10 _ _ μ1 0 rfl rfl rfl (by omega) (by omega) rfl (fun c j a b => ho c j b) (fun j a b => by omega)
end M16

/-! THE REFERENCE, part 17: findReached, leaveUnreached, leads -/
section M17
variable {X : jm_X} {d : Nat} {P : Int → ab_m → Prop}
theorem c_mM_findReached {μ : ab_m} {n R : Int} (hW : mWF μ 500 n R) (hP : ∀ μ', mOff 163 μ μ' → μ' 163 0 ≠ 0 → (∀ i, 0 ≤ i → i < n → μ' 163 i ≠ 0 → ∀ j, mE μ i j → μ' 163 j ≠ 0) → P 0 μ') : jj_mM_findReached X (d + 1) 0 (ab_la [109, n]) [] μ P := by
  have n1 : 1 ≤ n ∧ n ≤ 400 := ⟨hW.1, hW.2.1⟩
  -- more = 0: all ways of instructions before i are gone
  have s38 : ∀ (m : Nat) (l : ab_l) (μ1 : ab_m) (i more : Int) (c : Nat), l 0 = 109 → l 1 = n → l 2 = more → l 3 = i → 0 ≤ i → i ≤ n → (n - i).toNat = m → mOff 163 μ μ1 → μ1 163 0 ≠ 0 → (more = 0 ∧ ab_z (μ1 163) 402 ≤ c ∧ (∀ j, 0 ≤ j → j < i → μ1 163 j ≠ 0 → ∀ k, mE μ j k → μ1 163 k ≠ 0) ∨ more = 1 ∧ ab_z (μ1 163) 402 < c) →
      (∀ (l' : ab_l) (μ2 : ab_m) (more' : Int), l' 0 = 109 → l' 1 = n → l' 2 = more' → mOff 163 μ μ2 → μ2 163 0 ≠ 0 → (more' = 0 ∧ ab_z (μ2 163) 402 ≤ c ∧ (∀ j, 0 ≤ j → j < n → μ2 163 j ≠ 0 → ∀ k, mE μ j k → μ2 163 k ≠ 0) ∨ more' = 1 ∧ ab_z (μ2 163) 402 < c) → jj_mM_findReached X (d + 1) 30 l' [] μ2 P) → jj_mM_findReached X (d + 1) 38 l [] μ1 P := by
    intro m
    induction m using Nat.strongRecOn with
    | ind m ih =>
      intro l μ1 i more c h0 h1 h2 h3 hi hin hm ho h00 hc k
      refine bk_mM_findReached_38 h0 ?_
      simp only [h1, h3]
      rw [show ab_w (500 + i) = 500 + i from ab_wi (by omega) (by omega), show ab_w (i + 1) = i + 1 from ab_wi (by omega) (by omega)]
      -- behind the first way
      have s93 : ∀ (l' : ab_l) (μ2 : ab_m) (mo : Int), l' 0 = 109 → l' 1 = n → l' 2 = mo → l' 3 = i → l' 4 = 500 + i → i < n → mOff 163 μ μ2 → μ2 163 0 ≠ 0 → (mo = 0 ∧ ab_z (μ2 163) 402 ≤ c ∧ (∀ j, 0 ≤ j → j < i → μ2 163 j ≠ 0 → ∀ k, mE μ j k → μ2 163 k ≠ 0) ∧ (μ 145 (500 + i) ≠ 25 → μ 145 (500 + i) ≠ 28 → μ2 163 (i + 1) ≠ 0) ∨ mo = 1 ∧ ab_z (μ2 163) 402 < c) → jj_mM_findReached X (d + 1) 93 l' [] μ2 P := by
        intro l' μ2 mo g0 g1 g2 g3 g4 hlt ho2 h02 hc2
        refine bk_mM_findReached_93 g0 ?_
        simp only [g3, g4]
        rw [show ab_w (i + 1) = i + 1 from ab_wi (by omega) (by omega)]
        have e5 : μ2 145 (500 + i) = μ 145 (500 + i) := ho2 145 _ (by decide)
        have e6 : μ2 146 (500 + i) = μ 146 (500 + i) := ho2 146 _ (by decide)
        have nx : (mIsL (μ 145 (500 + i)) → μ2 163 (μ 146 (500 + i)) ≠ 0) → jj_mM_findReached X (d + 1) 38 (ab_up l' 3 (i + 1)) [] μ2 P := by
          intro hl
          refine ih _ (by omega) _ μ2 (i + 1) mo c g0 g1 g2 rfl (by omega) (by omega) rfl ho2 h02 ?_ k
          rcases hc2 with ⟨q1, q2, q3, q4⟩ | q
          · refine Or.inl ⟨q1, q2, fun j a b e kk hk => ?_⟩
            by_cases eji : j = i
            · subst eji
              rcases hk with ⟨w1, w2, w3⟩ | ⟨w1, w2⟩
              · rw [w3]; exact q4 w1 w2
              · rw [w2]; exact hl w1
            · exact q3 j a (by omega) e kk hk
          · exact Or.inr q
        refine c_mM_leaps (by omega) (fun q => ⟨fun w => absurd w (by decide), fun _ => ?_⟩) (fun q1 q2 q3 => ⟨fun _ => nx (fun w => by rw [e5] at q1 q2 q3; rcases w with w | w | w; exact absurd w q1; exact absurd w q2; exact absurd w q3), fun w => absurd rfl w⟩)
        rw [e5] at q
        rw [e6]
        have dd := (hW.at hi hlt).2.2.2.2.2.1 q
        refine ⟨by omega, by omega, fun w => nx (fun _ => w), fun w => ⟨by omega, by omega, fun μ3 e3 => ?_⟩⟩
        have lt : ab_z (μ3 163) 402 < ab_z (μ2 163) 402 := by rw [e3]; exact z_lt (by omega) (by omega) w (by decide)
        refine ih _ (by omega) _ μ3 (i + 1) 1 c g0 g1 rfl rfl (by omega) (by omega) rfl (by rw [e3]; exact ho2.mu) ?_ (Or.inr ⟨rfl, by rcases hc2 with v | v <;> omega⟩) k
        rw [e3, ab_mud]
        split
        · decide
        · exact h02
      refine ⟨fun q => k l μ1 more h0 h1 h2 ho h00 ?_, fun h => ⟨by omega, fun hz => ?_, fun hz => ?_⟩⟩
      · rcases hc with q1 | q1
        · exact Or.inl ⟨q1.1, q1.2.1, fun j a b => q1.2.2 j a (by omega)⟩
        · exact Or.inr q1
      · have e5 : μ1 145 (500 + i) = μ 145 (500 + i) := ho 145 _ (by decide)
        have go : (μ 145 (500 + i) ≠ 25 → μ 145 (500 + i) ≠ 28 → μ1 163 (i + 1) ≠ 0) → jj_mM_findReached X (d + 1) 93 (ab_up l 4 (500 + i)) [] μ1 P := by
          intro w
          refine s93 _ μ1 more h0 h1 h2 h3 rfl h ho h00 ?_
          rcases hc with q1 | q1
          · exact Or.inl ⟨q1.1, q1.2.1, q1.2.2, w⟩
          · exact Or.inr q1
        refine c_mM_goesOn (by omega) (fun q1 q2 => ⟨fun w => absurd w (by decide), fun _ => ⟨by omega, fun w => go (fun _ _ => w), fun w => ⟨by omega, fun μ2 e2 => ?_⟩⟩⟩) (fun q => ⟨fun _ => go (fun a b => by rw [e5] at q; omega), fun w => absurd rfl w⟩)
        have lt : ab_z (μ2 163) 402 < ab_z (μ1 163) 402 := by rw [e2]; exact z_lt (by omega) (by omega) w (by decide)
        refine s93 _ μ2 1 h0 h1 rfl h3 rfl h (by rw [e2]; exact ho.mu) ?_ (Or.inr ⟨rfl, by rcases hc with v | v <;> omega⟩)
        rw [e2, ab_mud]
        split
        · decide
        · exact h00
      · refine ih _ (by omega) _ μ1 (i + 1) more c h0 h1 h2 rfl (by omega) (by omega) rfl ho h00 ?_ k
        rcases hc with q1 | q1
        · refine Or.inl ⟨q1.1, q1.2.1, fun j a b e => ?_⟩
          by_cases eji : j = i
          · subst eji; exact absurd hz e
          · exact q1.2.2 j a (by omega) e
        · exact Or.inr q1
  have s30 : ∀ (m : Nat) (l : ab_l) (μ1 : ab_m) (more : Int), l 0 = 109 → l 1 = n → l 2 = more → (more = 0 ∧ (∀ j, 0 ≤ j → j < n → μ1 163 j ≠ 0 → ∀ k, mE μ j k → μ1 163 k ≠ 0) ∨ more = 1) → 2 * ab_z (μ1 163) 402 + more.toNat = m → mOff 163 μ μ1 → μ1 163 0 ≠ 0 → jj_mM_findReached X (d + 1) 30 l [] μ1 P := by
    intro m
    induction m using Nat.strongRecOn with
    | ind m ih =>
      intro l μ1 more h0 h1 h2 hmr hm ho h00
      refine bk_mM_findReached_30 h0 ?_
      rw [h2]
      refine ⟨fun q => hP μ1 ho h00 ?_, fun h => ?_⟩
      · rcases hmr with w | w
        · exact w.2
        · omega
      · exact s38 _ _ μ1 0 0 (ab_z (μ1 163) 402) h0 h1 rfl rfl (by omega) (by omega) rfl ho h00 (Or.inl ⟨rfl, Nat.le_refl _, fun j a b => by omega⟩) fun l' μ2 more' g0 g1 g2 g3 g4 g6 => by
          refine ih (2 * ab_z (μ2 163) 402 + more'.toNat) ?_ l' μ2 more' g0 g1 g2 ?_ rfl g3 g4
          · rcases g6 with w | w <;> omega
          · rcases g6 with w | w
            · exact Or.inl ⟨w.1, w.2.2⟩
            · exact Or.inr w.1
  have s2 : ∀ (m : Nat) (l : ab_l) (μ1 : ab_m) (i : Int), l 0 = 109 → l 1 = n → l 2 = i → 0 ≤ i → i ≤ n → (n - i).toNat = m → mOff 163 μ μ1 → (0 < i → μ1 163 0 ≠ 0) → jj_mM_findReached X (d + 1) 2 l [] μ1 P := by
    intro m
    induction m using Nat.strongRecOn with
    | ind m ih =>
      intro l μ1 i h0 h1 h2 hi hin hm ho h00
      refine bk_mM_findReached_2 h0 ?_
      simp only [h1, h2]
      rw [show ab_w (i + 1) = i + 1 from ab_wi (by omega) (by omega)]
      refine ⟨fun q => s30 _ _ μ1 1 h0 h1 rfl (Or.inr rfl) rfl ho (h00 (by omega)), fun h => ⟨fun q => ⟨by omega, fun μ2 e => ?_⟩, fun q => ⟨by omega, fun μ2 e => ?_⟩⟩⟩
      · refine ih _ (by omega) _ μ2 (i + 1) h0 h1 rfl (by omega) (by omega) rfl (by rw [e]; exact ho.mu) (fun _ => ?_)
        rw [e, ab_mud, if_neg (by omega)]
        exact h00 (by omega)
      · refine ih _ (by omega) _ μ2 (i + 1) h0 h1 rfl (by omega) (by omega) rfl (by rw [e]; exact ho.mu) (fun _ => ?_)
        rw [e, ab_mud, if_pos ⟨rfl, q.symm⟩]
        decide
  exact bk_mM_findReached_0 rfl (s2 _ _ μ 0 rfl rfl rfl (by omega) (by omega) rfl mOff.rfl' (fun h => absurd h (by decide)))
def fLu (μ μ' : ab_m) : Prop := ∀ c i, c ≠ 163 → c ≠ 172 → c ≠ 173 → ¬ (c = 109 ∧ (i = 70 ∨ i = 93)) → ¬ (145 ≤ c ∧ c ≤ 150 ∧ 500 ≤ i) → μ' c i = μ c i
theorem c_mM_leaveUnreached {μ : ab_m} {n : Nat} {R : Int} (hW : mWF μ 500 n R) (hn : μ 109 70 = n) (hP : ∀ μ', fLu μ μ' → mWF μ' 500 (μ' 109 70) R → mDe μ μ' n → P 0 μ') : jj_mM_leaveUnreached X (d + 2) 0 (ab_la [109]) [] μ P := by
  have n1 : 1 ≤ (n : Int) ∧ (n : Int) ≤ 400 := ⟨hW.1, hW.2.1⟩
  refine bk_mM_leaveUnreached_0 rfl ?_
  rw [hn]
  refine c_mM_findReached hW fun μf hf h00 hcl => ?_
  have s10 : ∀ (m : Nat) (l : ab_l) (μ1 : ab_m) (i : Int), l 0 = 109 → l 1 = i → 0 ≤ i → i ≤ n → ((n : Int) - i).toNat = m → (∀ c j, c ≠ 172 → μ1 c j = μf c j) → (∀ j, 0 ≤ j → j < i → (μ1 172 j = 0 ↔ μf 163 j ≠ 0)) → jj_mM_leaveUnreached X (d + 2) 10 l [] μ1 P := by
    intro m
    induction m using Nat.strongRecOn with
    | ind m ih =>
      intro l μ1 i h0 h1 hi hin hm hu hG
      refine bk_mM_leaveUnreached_10 h0 ?_
      have e70 : μ1 109 70 = (n : Int) := by rw [hu 109 70 (by decide), hf 109 70 (by decide)]; exact hn
      simp only [h1, e70]
      rw [show ab_w (i + 1) = i + 1 from ab_wi (by omega) (by omega), hu 163 _ (by decide)]
      have on : ∀ (μ2 : ab_m) (v : Int), μ2 = ab_mu μ1 172 i v → (v = 0 ↔ μf 163 i ≠ 0) → i < n → jj_mM_leaveUnreached X (d + 2) 10 (ab_up l 1 (i + 1)) [] μ2 P := by
        intro μ2 v e hv hlt
        refine ih _ (by omega) _ μ2 (i + 1) h0 rfl (by omega) (by omega) rfl (fun c j a => by rw [e, mu_ne a]; exact hu c j a) (fun j a b => ?_)
        rw [e, ab_mud]
        split
        · rename_i w; rw [w.2]; exact hv
        · exact hG j a (by omega)
      refine ⟨fun q => ?_, fun h => ⟨by omega, fun w => ⟨by omega, fun μ2 e => on μ2 (0 % 2) e ⟨fun _ => w, fun _ => rfl⟩ h⟩, fun w => ⟨by omega, fun μ2 e => on μ2 (1 % 2) e ⟨fun v => absurd v (by decide), fun v => absurd w v⟩ h⟩⟩⟩
      have hin' : i = n := by omega
      subst hin'
      refine ok_rg fun hg1 => ?_
      have sm : mSame μ μ1 := fun c j a b => by rw [hu c j (by omega)]; exact hf c j (by omega)
      have hW1 : mWF μ1 500 n R := hW.same sm
      refine c_mM_leaveOut e70 (by omega) hg1 hW1.dn fun μ2 hf2 hl2 => ?_
      -- the last that is reached
      have lst : ∀ k : Nat, k < n → μf 163 (k : Int) ≠ 0 → ∃ L : Nat, k ≤ L ∧ L < n ∧ μf 163 (L : Int) ≠ 0 ∧ ∀ j : Nat, L < j → j < n → μf 163 (j : Int) = 0 := by
        have : ∀ m k : Nat, k < n → n - k = m → μf 163 (k : Int) ≠ 0 → ∃ L : Nat, k ≤ L ∧ L < n ∧ μf 163 (L : Int) ≠ 0 ∧ ∀ j : Nat, L < j → j < n → μf 163 (j : Int) = 0 := by
          intro m
          induction m using Nat.strongRecOn with
          | ind m ih2 =>
            intro k a b c
            by_cases hex : ∃ j : Nat, k < j ∧ j < n ∧ μf 163 (j : Int) ≠ 0
            · obtain ⟨j, j1, j2, j3⟩ := hex
              obtain ⟨L, L1, L2, L3, L4⟩ := ih2 (n - j) (by omega) j j2 rfl j3
              exact ⟨L, by omega, L2, L3, L4⟩
            · exact ⟨k, Nat.le_refl _, a, c, fun j j1 j2 => Classical.byContradiction fun w => hex ⟨j, j1, j2, w⟩⟩
        exact fun k a b => this _ k a rfl b
      obtain ⟨L, -, L2, L3, L4⟩ := lst 0 (by omega) h00
      have kp : mKp μ1 n L := by
        have opL : μ1 145 (500 + (L : Int)) = μ 145 (500 + (L : Int)) := sm 145 _ (by decide) (by decide)
        refine ⟨L2, (hG L (by omega) (by omega)).mpr L3, ?_, fun j a b w => ?_, fun i a b c => ?_⟩
        · rw [opL]
          refine Classical.byContradiction fun w => ?_
          have e1 : mE μ L (L + 1) := Or.inl ⟨fun q => w (Or.inl q), fun q => w (Or.inr q), rfl⟩
          have e2 := hW.e (by omega) (by omega) e1
          have e3 := hcl L (by omega) (by omega) L3 _ e1
          exact e3 (L4 (L + 1) (by omega) (by omega))
        · exact ((hG j (by omega) (by omega)).mp w) (L4 j a b)
        · have ci : μf 163 (i : Int) ≠ 0 := (hG i (by omega) (by omega)).mp b
          rw [sm 145 _ (by decide) (by decide)] at c
          rw [sm 146 _ (by decide) (by decide)]
          have e1 : mE μ i (μ 146 (500 + (i : Int))) := Or.inr ⟨c, rfl⟩
          have e2 := hW.e (by omega) (by omega) e1
          have e3 := hcl i (by omega) (by omega) ci _ e1
          refine Classical.byContradiction fun w => e3 ?_
          have := L4 (μ 146 (500 + (i : Int))).toNat (by omega) (by omega)
          rw [Int.toNat_of_nonneg e2.1] at this
          exact this
      refine hP μ2 (fun c j a b e f g => ?_) (hl2.wf hW1 kp) ?_
      · rw [hf2 c j e f g, hu c j b]; exact hf c j a
      · rcases hl2.de hW1.dn (rg93 hg1) with ⟨n', w1, w2⟩ | ⟨w1, w2, w3⟩
        · exact Or.inl ⟨n', w1, by rw [mPhi_same sm] at w2; exact w2⟩
        · exact Or.inr ⟨w1, fun c j a b e f => by rw [w2 c j a b e f]; exact sm c _ a b, by rw [w3, hu 109 93 (by decide)]; exact hf 109 93 (by decide)⟩
  exact s10 _ _ μf 0 rfl rfl (by omega) (by omega) rfl (fun _ _ _ => rfl) (fun j a b => by omega)
end M17

/-! THE REFERENCE, part 18: leads, putJumps -/
section M18
variable {X : jm_X} {d : Nat} {P : Int → ab_m → Prop}
/-- JUMPs that go round -/
def mLoop (μ : ab_m) (n t : Int) : Prop := ∃ V : Int → Prop, V t ∧ ∀ x, V x → 0 ≤ x ∧ x < n ∧ μ 145 (500 + x) = 25 ∧ V (μ 146 (500 + x))
theorem mLoop.nx {μ : ab_m} {n t : Int} (h : mLoop μ n t) : 0 ≤ t ∧ t < n ∧ μ 145 (500 + t) = 25 ∧ mLoop μ n (μ 146 (500 + t)) := by
  obtain ⟨V, h1, h2⟩ := h
  obtain ⟨a, b, c, e⟩ := h2 t h1
  exact ⟨a, b, c, V, e, h2⟩
theorem mLoop.same {μ μ' : ab_m} {n t : Int} (h : mLoop μ n t) (hs : ∀ i, 0 ≤ i → i < n → μ' 145 (500 + i) = μ 145 (500 + i) ∧ μ' 146 (500 + i) = μ 146 (500 + i)) : mLoop μ' n t := by
  obtain ⟨V, h1, h2⟩ := h
  refine ⟨V, h1, fun x hx => ?_⟩
  obtain ⟨a, b, c, e⟩ := h2 x hx
  rw [(hs x a b).1, (hs x a b).2]
  exact ⟨a, b, c, e⟩
/-- what leads answers -/
def mLd (μ : ab_m) (n f r : Int) : Prop := 0 ≤ r ∧ r < n ∧ (μ 145 (500 + r) ≠ 25 ∨ r = f ∧ mLoop μ n f) ∧ (mLoop μ n f → r = f) ∧ (μ 145 (500 + f) ≠ 25 → r = f)
theorem c_mM_leads {μ : ab_m} {n R f : Int} (hW : mWF μ 500 n R) (hn : μ 109 70 = n) (hf : 0 ≤ f ∧ f < n) (hP : ∀ r μ', mOff 164 μ μ' → mLd μ n f r → P r μ') : jj_mM_leads X d 0 (ab_la [109, f]) [] μ P := by
  have n1 : 1 ≤ n ∧ n ≤ 400 := ⟨hW.1, hW.2.1⟩
  have s25 : ∀ (m : Nat) (l : ab_l) (μ1 : ab_m) (t : Int), l 0 = 109 → l 1 = f → l 2 = t → 0 ≤ t → t < n → ab_z (μ1 164) 402 = m → mOff 164 μ μ1 → (∀ x, 0 ≤ x → x < n → μ1 164 x ≠ 0 → μ 145 (500 + x) = 25 ∧ (μ1 164 (μ 146 (500 + x)) ≠ 0 ∨ μ 146 (500 + x) = t)) → (μ1 164 f ≠ 0 ∨ t = f) → (mLoop μ n f → mLoop μ n t) → jj_mM_leads X d 25 l [] μ1 P := by
    intro m
    induction m using Nat.strongRecOn with
    | ind m ih =>
      intro l μ1 t h0 h1 h2 ht htn hm ho hV hfr hlp
      refine bk_mM_leads_25 h0 ?_
      simp only [h1, h2, ho 145 _ (by decide)]
      rw [show ab_w (500 + t) = 500 + t from ab_wi (by omega) (by omega)]
      refine ⟨by omega, fun q => hP t μ1 ho ⟨ht, htn, Or.inl q, fun w => absurd (hlp w).nx.2.2.1 q, fun w => ?_⟩, fun q => ⟨by omega, fun hz => ⟨by omega, fun μ2 e => ⟨by omega, ?_⟩⟩, fun hz => hP f μ1 ho ?_⟩⟩
      · rcases hfr with v | v
        · exact absurd (hV f hf.1 hf.2 v).1 w
        · exact v
      · have e6 : μ2 146 (500 + t) = μ 146 (500 + t) := by rw [e, mu_ne (by decide)]; exact ho 146 _ (by decide)
        rw [e6]
        have dd := (hW.at ht htn).2.2.2.2.2.1 (Or.inl q)
        have lt : ab_z (μ2 164) 402 < ab_z (μ1 164) 402 := by rw [e]; exact z_lt (by omega) (by omega) hz (by decide)
        have mk : ∀ x, μ1 164 x ≠ 0 → μ2 164 x ≠ 0 := fun x hx => by
          rw [e, ab_mud]
          split
          · decide
          · exact hx
        have mt : μ2 164 t ≠ 0 := by rw [e, ab_mud, if_pos ⟨rfl, rfl⟩]; decide
        refine ih _ (by omega) _ μ2 _ h0 h1 rfl dd.1 dd.2 rfl (by rw [e]; exact ho.mu) (fun x a b c => ?_) (Or.inl ?_) (fun w => (hlp w).nx.2.2.2)
        · by_cases ex : x = t
          · subst ex; exact ⟨q, Or.inr rfl⟩
          · rw [e, ab_mud, if_neg (by omega)] at c
            obtain ⟨c1, c2⟩ := hV x a b c
            refine ⟨c1, Or.inl ?_⟩
            rcases c2 with c2 | c2
            · exact mk _ c2
            · rw [c2]; exact mt
        · rcases hfr with v | v
          · exact mk _ v
          · rw [← v]; exact mt
      · have vf : μ1 164 f ≠ 0 := by
          rcases hfr with v | v
          · exact v
          · rw [← v]; exact hz
        have lp : mLoop μ n f := by
          refine ⟨fun x => 0 ≤ x ∧ x < n ∧ μ1 164 x ≠ 0, ⟨hf.1, hf.2, vf⟩, fun x ⟨a, b, c⟩ => ?_⟩
          obtain ⟨c1, c2⟩ := hV x a b c
          have dd := (hW.at a b).2.2.2.2.2.1 (Or.inl c1)
          refine ⟨a, b, c1, dd.1, dd.2, ?_⟩
          rcases c2 with c2 | c2
          · exact c2
          · rw [c2]; exact hz
        exact ⟨hf.1, hf.2, Or.inr ⟨rfl, lp⟩, fun _ => rfl, fun _ => rfl⟩
  have s2 : ∀ (m : Nat) (l : ab_l) (μ1 : ab_m) (i : Int), l 0 = 109 → l 1 = f → l 2 = i → 0 ≤ i → i ≤ n → (n - i).toNat = m → mOff 164 μ μ1 → (∀ j, 0 ≤ j → j < i → μ1 164 j = 0) → jj_mM_leads X d 2 l [] μ1 P := by
    intro m
    induction m using Nat.strongRecOn with
    | ind m ih =>
      intro l μ1 i h0 h1 h2 hi hin hm ho hz
      refine bk_mM_leads_2 h0 ?_
      simp only [h1, h2, ho 109 70 (by decide), hn]
      rw [show ab_w (i + 1) = i + 1 from ab_wi (by omega) (by omega)]
      refine ⟨fun q => s25 _ _ μ1 f h0 h1 rfl hf.1 hf.2 rfl ho (fun x a b c => absurd (hz x a (by omega)) c) (Or.inr rfl) (fun w => w), fun q => ⟨by omega, fun μ2 e => ?_⟩⟩
      refine ih _ (by omega) _ μ2 (i + 1) h0 h1 rfl (by omega) (by omega) rfl (by rw [e]; exact ho.mu) (fun j a b => ?_)
      rw [e, ab_mud]
      split
      · rfl
      · exact hz j a (by omega)
  exact bk_mM_leads_0 rfl (s2 _ _ μ 0 rfl rfl rfl (by omega) (by omega) rfl mOff.rfl' (fun j a b => by omega))
/-- each jump goes to what is no JUMP, or round -/
def mSt (μ : ab_m) (n : Int) : Prop := ∀ i, 0 ≤ i → i < n → mIsL (μ 145 (500 + i)) → μ 145 (500 + μ 146 (500 + i)) ≠ 25 ∨ mLoop μ n (μ 146 (500 + i))
theorem mSt.same {μ μ' : ab_m} {n R : Int} (h : mSt μ n) (hW : mWF μ 500 n R) (hs : mSameN μ μ' n) : mSt μ' n := by
  intro i a b c
  rw [hs 145 i (by decide) (by decide) a b] at c
  have dd := (hW.at a b).2.2.2.2.2.1 c
  rw [hs 146 i (by decide) (by decide) a b, hs 145 _ (by decide) (by decide) dd.1 dd.2]
  rcases h i a b c with q | q
  · exact Or.inl q
  · exact Or.inr (q.same fun j a b => ⟨hs 145 j (by decide) (by decide) a b, hs 146 j (by decide) (by decide) a b⟩)
theorem mSameN.trans {μ μ1 μ2 : ab_m} {n : Int} (h : mSameN μ μ1 n) (h2 : mSameN μ1 μ2 n) : mSameN μ μ2 n := fun c i a b e f => (h2 c i a b e f).trans (h c i a b e f)
theorem mSameN.symm {μ μ1 : ab_m} {n : Int} (h : mSameN μ μ1 n) : mSameN μ1 μ n := fun c i a b e f => (h c i a b e f).symm
/-- putJumps, its first stages; its last -/
def mQ1 (μ μ1 : ab_m) (n : Nat) (R : Int) : Prop := ∃ k : Nat, μ1 109 70 = k ∧ mWF μ1 500 k R ∧ (mPhi μ1 k < mPhi μ n ∨ k = n ∧ mSameN μ μ1 n ∧ μ1 109 93 = μ 109 93)
def mSd (μ μ1 : ab_m) (n : Int) : Prop := ∀ c i, 145 ≤ c → c ≤ 150 → c ≠ 146 → 0 ≤ i → i < n → μ1 c (500 + i) = μ c (500 + i)
def mQ2 (μ μ1 : ab_m) (n : Nat) (R : Int) : Prop := ∃ k : Nat, μ1 109 70 = k ∧ mWF μ1 500 k R ∧ (mPhi μ1 k < mPhi μ n ∨ k = n ∧ mSd μ μ1 n ∧ mSt μ1 n ∧ (mSt μ n → mSameN μ μ1 n ∧ μ1 109 93 = μ 109 93))
theorem mQ1.de {μ μ1 μ2 : ab_m} {n k : Nat} {R : Int} (h : mQ1 μ μ1 n R) (hk : μ1 109 70 = k) (hW : mWF μ2 500 (μ2 109 70) R) (hd : mDe μ1 μ2 k) : mQ1 μ μ2 n R := by
  obtain ⟨k', h1, h2, h3⟩ := h
  have : k' = k := by rw [hk] at h1; omega
  subst this
  rcases hd with ⟨n', w1, w2⟩ | ⟨w1, w2, w3⟩
  · refine ⟨n', w1, by rw [w1] at hW; exact hW, Or.inl ?_⟩
    rcases h3 with q | ⟨q1, q2, q3⟩
    · omega
    · subst q1; rw [q2.sk.phi] at w2; exact w2
  · refine ⟨k', w1, by rw [w1] at hW; exact hW, ?_⟩
    rcases h3 with q | ⟨q1, q2, q3⟩
    · exact Or.inl (by rw [w2.sk.phi]; exact q)
    · subst q1; exact Or.inr ⟨rfl, q2.trans w2, w3.trans q3⟩
theorem mSd.phi {μ μ1 : ab_m} {n : Nat} (h : mSd μ μ1 n) : mPhi μ1 n = mPhi μ n := ab_sum_congr fun j hj => by
  rw [h 145 j (by decide) (by decide) (by decide) (by omega) (by omega), h 149 j (by decide) (by decide) (by decide) (by omega) (by omega), h 150 j (by decide) (by decide) (by decide) (by omega) (by omega)]
theorem mQ2.de {μ μ1 μ2 : ab_m} {n k : Nat} {R : Int} (h : mQ2 μ μ1 n R) (hk : μ1 109 70 = k) (hW : mWF μ2 500 (μ2 109 70) R) (hd : mDe μ1 μ2 k) : mQ2 μ μ2 n R := by
  obtain ⟨k', h1, h2, h3⟩ := h
  have : k' = k := by rw [hk] at h1; omega
  subst this
  rcases hd with ⟨n', w1, w2⟩ | ⟨w1, w2, w3⟩
  · refine ⟨n', w1, by rw [w1] at hW; exact hW, Or.inl ?_⟩
    rcases h3 with q | ⟨q1, q2, q3⟩
    · omega
    · subst q1; rw [q2.phi] at w2; exact w2
  · refine ⟨k', w1, by rw [w1] at hW; exact hW, ?_⟩
    rcases h3 with q | ⟨q1, q2, q3, q4⟩
    · exact Or.inl (by rw [w2.sk.phi]; exact q)
    · subst q1
      exact Or.inr ⟨rfl, fun c i a b e f g => (w2 c i a b f g).trans (q2 c i a b e f g), q3.same h2 w2, fun s => ⟨(q4 s).1.trans w2, w3.trans (q4 s).2⟩⟩
end M18

/-! THE REFERENCE, part 19: putJumps -/
section M19
variable {X : jm_X} {d : Nat} {P : Int → ab_m → Prop}
def fPj (μ μ' : ab_m) : Prop := ∀ c i, (c < 163 ∨ 164 < c) → c ≠ 172 → c ≠ 173 → ¬ (c = 109 ∧ (i = 70 ∨ i = 93)) → ¬ (145 ≤ c ∧ c ≤ 150 ∧ 500 ≤ i) → μ' c i = μ c i
theorem fPj.trans {μ μ1 μ2 : ab_m} (h : fPj μ μ1) (h2 : fPj μ1 μ2) : fPj μ μ2 := fun c i a b e f g => (h2 c i a b e f g).trans (h c i a b e f g)
theorem fLv.pj {μ μ' : ab_m} (h : fLv μ μ') : fPj μ μ' := fun c i _ _ e f g => h c i e f g
theorem fLu.pj {μ μ' : ab_m} (h : fLu μ μ') : fPj μ μ' := fun c i a b e f g => h c i (by omega) b e f g
/-- the last stage: jumps to the next go -/
theorem c_mM_pj4 {μ : ab_m} {n : Nat} {R : Int} {l : ab_l} (h0 : l 0 = 109) (h1 : l 1 = 0) (hW : mWF μ 500 n R) (hn : μ 109 70 = n) (hP : ∀ μ', fPj μ μ' → mWF μ' 500 (μ' 109 70) R → mDe μ μ' n → P 0 μ') : jj_mM_putJumps X (d + 3) 283 l [] μ P := by
  have n1 : 1 ≤ (n : Int) ∧ (n : Int) ≤ 400 := ⟨hW.1, hW.2.1⟩
  have s283 : ∀ (m : Nat) (l : ab_l) (μ1 : ab_m) (i : Int), l 0 = 109 → l 1 = i → 0 ≤ i → i ≤ n → ((n : Int) - i).toNat = m → mOff 172 μ μ1 → (∀ j, 0 ≤ j → j < i → μ1 172 j ≠ 0 → mIsL (μ 145 (500 + j)) ∧ μ 146 (500 + j) = j + 1) → jj_mM_putJumps X (d + 3) 283 l [] μ1 P := by
    intro m
    induction m using Nat.strongRecOn with
    | ind m ih =>
      intro l μ1 i h0 h1 hi hin hm ho hG
      refine bk_mM_putJumps_283 h0 ?_
      simp only [h1, ho 109 70 (by decide), hn]
      rw [show ab_w (500 + i) = 500 + i from ab_wi (by omega) (by omega), show ab_w (i + 1) = i + 1 from ab_wi (by omega) (by omega)]
      have on : ∀ (μ2 : ab_m) (v : Int), μ2 = ab_mu μ1 172 i v → (v ≠ 0 → mIsL (μ 145 (500 + i)) ∧ μ 146 (500 + i) = i + 1) → i < n → jj_mM_putJumps X (d + 3) 283 (ab_up l 1 (i + 1)) [] μ2 P := by
        intro μ2 v e hv hlt
        refine ih _ (by omega) _ μ2 (i + 1) h0 rfl (by omega) (by omega) rfl (by rw [e]; exact ho.mu) (fun j a b c => ?_)
        rw [e, ab_mud] at c
        split at c
        · rename_i w; rw [w.2]; exact hv c
        · exact hG j a (by omega) c
      refine ⟨fun q => ?_, fun h => ?_⟩
      · have hin' : i = n := by omega
        subst hin'
        refine ok_rg fun hg1 => ?_
        have sm : mSame μ μ1 := fun c j a b => ho c j (by omega)
        have hW1 : mWF μ1 500 n R := hW.same sm
        refine c_mM_leaveOut (by rw [ho 109 70 (by decide)]; exact hn) (by omega) hg1 hW1.dn fun μ2 hf2 hl2 => ?_
        have kp : mKp μ1 n (n - 1) := hW1.kp (Classical.byContradiction fun w => by
          obtain ⟨a, b⟩ := hG ((n - 1 : Nat) : Int) (by omega) (by omega) w
          have c := (hW.at (i := ((n - 1 : Nat) : Int)) (by omega) (by omega)).2.2.2.2.2.1 a
          omega)
        refine hP μ2 (fun c j a b e f g => ?_) (hl2.wf hW1 kp) ?_
        · rw [hf2 c j e f g]; exact ho c j b
        · rcases hl2.de hW1.dn (rg93 hg1) with ⟨n', w1, w2⟩ | ⟨w1, w2, w3⟩
          · exact Or.inl ⟨n', w1, by rw [mPhi_same sm] at w2; exact w2⟩
          · exact Or.inr ⟨w1, fun c j a b e f => by rw [w2 c j a b e f]; exact sm c _ a b, by rw [w3]; exact ho 109 93 (by decide)⟩
      · have e5 : μ1 145 (500 + i) = μ 145 (500 + i) := ho 145 _ (by decide)
        have e6 : μ1 146 (500 + i) = μ 146 (500 + i) := ho 146 _ (by decide)
        exact c_mM_leaps (by omega) (fun q => ⟨fun w => absurd w (by decide), fun _ => ⟨by omega, fun _ => ⟨by omega, fun μ2 e => on μ2 (0 % 2) e (fun w => absurd rfl w) h⟩, fun w => ⟨by omega, fun μ2 e => on μ2 (1 % 2) e (fun _ => ⟨by rw [← e5]; exact q, by rw [← e6]; exact w⟩) h⟩⟩⟩) (fun _ _ _ => ⟨fun _ => ⟨by omega, fun μ2 e => on μ2 (0 % 2) e (fun w => absurd rfl w) h⟩, fun w => absurd rfl w⟩)
  exact s283 _ l μ 0 h0 h1 (by omega) (by omega) rfl mOff.rfl' (fun j a b => by omega)
/-- the third: each jump gets its aim -/
theorem c_mM_pj3 {μ : ab_m} {n : Nat} {R : Int} {l : ab_l} (h0 : l 0 = 109) (h1 : l 1 = 0) (hW : mWF μ 500 n R) (hn : μ 109 70 = n) (hl : ∀ (i : Int), 0 ≤ i → i < n → mIsL (μ 145 (500 + i)) → mLd μ n (μ 146 (500 + i)) (μ 173 i)) (hP : ∀ (l' : ab_l) μ', l' 0 = 109 → l' 1 = n → fPj μ μ' → μ' 109 70 = n → mWF μ' 500 n R → mSd μ μ' n → mSt μ' n → (mSt μ n → mSameN μ μ' n ∧ μ' 109 93 = μ 109 93) → jj_mM_leaveUnreached X (d + 2) 0 (ab_la [109]) [] μ' (fun r2 μ1 => jj_mM_putJumps X (d + 3) 283 (ab_up l' 1 0) [] μ1 P)) : jj_mM_putJumps X (d + 3) 217 l [] μ P := by
  have n1 : 1 ≤ (n : Int) ∧ (n : Int) ≤ 400 := ⟨hW.1, hW.2.1⟩
  have s217 : ∀ (m : Nat) (l : ab_l) (μ1 : ab_m) (i : Int), l 0 = 109 → l 1 = i → 0 ≤ i → i ≤ n → ((n : Int) - i).toNat = m → (∀ c j, c ≠ 146 → ¬ (c = 109 ∧ j = 93) → μ1 c j = μ c j) → (∀ j, ¬ (500 ≤ j ∧ j < 500 + i) → μ1 146 j = μ 146 j) → (∀ j, 0 ≤ j → j < i → μ1 146 (500 + j) = μ 146 (500 + j) ∧ ¬ mIsL (μ 145 (500 + j)) ∨ mIsL (μ 145 (500 + j)) ∧ μ1 146 (500 + j) = μ 173 j) → (mSt μ n → μ1 109 93 = μ 109 93) → jj_mM_putJumps X (d + 3) 217 l [] μ1 P := by
    intro m
    induction m using Nat.strongRecOn with
    | ind m ih =>
      intro l μ1 i h0 h1 hi hin hm ho hu hG hc
      refine bk_mM_putJumps_217 h0 ?_
      have e70 : μ1 109 70 = (n : Int) := by rw [ho 109 70 (by decide) (by omega)]; exact hn
      simp only [h1, e70]
      rw [show ab_w (500 + i) = 500 + i from ab_wi (by omega) (by omega), show ab_w (i + 1) = i + 1 from ab_wi (by omega) (by omega)]
      have e5 : ∀ j, μ1 145 j = μ 145 j := fun j => ho 145 j (by decide) (by omega)
      have e6 : μ1 146 (500 + i) = μ 146 (500 + i) := hu _ (by omega)
      have e3 : ∀ j, μ1 173 j = μ 173 j := fun j => ho 173 j (by decide) (by omega)
      refine ⟨fun q => ?_, fun h => ?_⟩
      · have hin' : i = n := by omega
        subst hin'
        have sd : mSd μ μ1 n := fun c j a b e f g => ho c _ e (by omega)
        -- the new aims
        have nd : ∀ (j : Int), 0 ≤ j → j < n → mIsL (μ 145 (500 + j)) → mLd μ n (μ 146 (500 + j)) (μ1 146 (500 + j)) := by
          intro j a b c
          rcases hG j a b with q | q
          · exact absurd c q.2
          · rw [q.2]; exact hl j a b c
        have same : ∀ (j : Int), 0 ≤ j → j < n → ¬ mIsL (μ 145 (500 + j)) → μ1 146 (500 + j) = μ 146 (500 + j) := by
          intro j a b c
          rcases hG j a b with q | q
          · exact q.1
          · exact absurd q.1 c
        have lp : ∀ t, mLoop μ n t → mLoop μ1 n t := by
          intro t ht
          refine ⟨fun x => mLoop μ n x, ht, fun x hx => ?_⟩
          obtain ⟨a, b, c, e⟩ := hx.nx
          refine ⟨a, b, by rw [e5]; exact c, ?_⟩
          have := (nd x a b (Or.inl c)).2.2.2.1 e
          rw [this]; exact e
        refine hP _ μ1 h0 h1 (fun c j a b e f g => ?_) e70 ?_ sd ?_ (fun s => ⟨fun c j a b e f => ?_, hc s⟩)
        · by_cases c6 : c = 146
          · subst c6; exact hu j (by omega)
          · exact ho c j c6 (by omega)
        · refine mWF.mk ⟨hW.1, hW.2.1⟩ ⟨hW.2.2.1, hW.2.2.2.1⟩ (fun j a b => ?_) (by rw [e5]; exact hW.last (by omega) rfl)
          obtain ⟨o1, o2, o3, o4, o5, o6, o7, o8, o9⟩ := hW.at a b
          unfold mI mUA mUB at *
          rw [e5, ho 147 _ (by decide) (by omega), ho 148 _ (by decide) (by omega), ho 149 _ (by decide) (by omega), ho 150 _ (by decide) (by omega)]
          refine ⟨o1, o2, o3, o4, fun w => ?_, fun w => ?_, o7, fun w => ?_, o9⟩
          · rw [same j a b (fun v => by unfold mIsL at v; omega)]; exact o5 w
          · have := nd j a b w; exact ⟨this.1, this.2.1⟩
          · rw [same j a b (fun v => by unfold mIsL at v; omega)]; exact o8 w
        · intro j a b c
          rw [e5] at c
          rw [e5]
          obtain ⟨x1, x2, x3, x4, x5⟩ := nd j a b c
          rcases x3 with x3 | ⟨x3, x6⟩
          · exact Or.inl x3
          · rw [x3]; exact Or.inr (lp _ x6)
        · by_cases c6 : c = 146
          · subst c6
            by_cases c7 : mIsL (μ 145 (500 + j))
            · obtain ⟨x1, x2, x3, x4, x5⟩ := nd j e f c7
              rcases s j e f c7 with w | w
              · exact x5 w
              · exact x4 w
            · exact same j e f c7
          · exact ho c _ c6 (by omega)
      · have st : ∀ (l' : ab_l) (μ2 : ab_m), l' 0 = 109 → l' 1 = i + 1 → (∀ c j, c ≠ 146 → ¬ (c = 109 ∧ j = 93) → μ2 c j = μ c j) → (∀ j, ¬ (500 ≤ j ∧ j < 500 + (i + 1)) → μ2 146 j = μ 146 j) → (∀ j, 0 ≤ j → j < i → μ2 146 (500 + j) = μ1 146 (500 + j)) → (μ2 146 (500 + i) = μ 146 (500 + i) ∧ ¬ mIsL (μ 145 (500 + i)) ∨ mIsL (μ 145 (500 + i)) ∧ μ2 146 (500 + i) = μ 173 i) → (mSt μ n → μ2 109 93 = μ 109 93) → jj_mM_putJumps X (d + 3) 217 l' [] μ2 P := by
          intro l' μ2 g0 g1 w1 w2 w3 w4 w5
          refine ih _ (by omega) l' μ2 (i + 1) g0 g1 (by omega) (by omega) rfl w1 w2 (fun j a b => ?_) w5
          by_cases e : j = i
          · subst e; exact w4
          · rw [w3 j a (by omega)]; exact hG j a (by omega)
        refine c_mM_leaps (by omega) (fun q => ⟨fun w => absurd w (by decide), fun _ => ⟨by omega, by omega, fun w => ?_, fun w => ⟨by omega, by omega, fun μ2 q2 μ3 q3 => ?_⟩⟩⟩) (fun q1 q2 q3 => ⟨fun _ => st _ μ1 h0 rfl ho (fun j w => hu j (by omega)) (fun _ _ _ => rfl) (Or.inl ⟨e6, fun v => by rw [e5] at q1 q2 q3; rcases v with v | v | v; exact absurd v q1; exact absurd v q2; exact absurd v q3⟩) hc, fun w => absurd rfl w⟩)
        · rw [e5] at q
          exact st _ μ1 h0 rfl ho (fun j w => hu j (by omega)) (fun _ _ _ => rfl) (Or.inr ⟨q, by rw [w]; exact e3 i⟩) hc
        · rw [e5] at q
          rw [e6, e3] at w
          have c6 : ∀ j, μ3 146 j = if j = 500 + i then μ 173 i else μ1 146 j := fun j => by rw [q3, mu_ne (by decide), q2, ab_mud, e3]; simp
          refine st _ μ3 h0 rfl (fun c j a b => ?_) (fun j v => ?_) (fun j a b => ?_) (Or.inr ⟨q, ?_⟩) (fun s => ?_)
          · rw [q3, ab_mud, if_neg (by omega), q2, mu_ne a]; exact ho c j a b
          · rw [c6, if_neg (by omega)]; exact hu j (by omega)
          · rw [c6, if_neg (by omega)]
          · rw [c6, if_pos rfl]
          · refine absurd ?_ w
            obtain ⟨x1, x2, x3, x4, x5⟩ := hl i hi h q
            rcases s i hi h q with v | v
            · exact (x5 v).symm
            · exact (x4 v).symm
  exact s217 _ l μ 0 h0 h1 (by omega) (by omega) rfl (fun _ _ _ _ => rfl) (fun _ _ => rfl) (fun j a b => by omega) (fun _ => rfl)
end M19

/-! THE REFERENCE, part 20: putJumps, whole -/
section M20
variable {X : jm_X} {d : Nat} {P : Int → ab_m → Prop}
/-- the second stage: where each jump leads -/
theorem c_mM_pj2 {μ : ab_m} {n : Nat} {R : Int} {l : ab_l} (h0 : l 0 = 109) (h1 : l 1 = 0) (hW : mWF μ 500 n R) (hn : μ 109 70 = n) (hP : ∀ (l' : ab_l) μ', l' 0 = 109 → l' 1 = 0 → (∀ c j, c ≠ 164 → c ≠ 173 → μ' c j = μ c j) → (∀ (i : Int), 0 ≤ i → i < n → mIsL (μ 145 (500 + i)) → mLd μ n (μ 146 (500 + i)) (μ' 173 i)) → jj_mM_putJumps X (d + 3) 217 l' [] μ' P) : jj_mM_putJumps X (d + 3) 165 l [] μ P := by
  have n1 : 1 ≤ (n : Int) ∧ (n : Int) ≤ 400 := ⟨hW.1, hW.2.1⟩
  have s165 : ∀ (m : Nat) (l : ab_l) (μ1 : ab_m) (i : Int), l 0 = 109 → l 1 = i → 0 ≤ i → i ≤ n → ((n : Int) - i).toNat = m → (∀ c j, c ≠ 164 → c ≠ 173 → μ1 c j = μ c j) → (∀ j, 0 ≤ j → j < i → mIsL (μ 145 (500 + j)) → mLd μ n (μ 146 (500 + j)) (μ1 173 j)) → jj_mM_putJumps X (d + 3) 165 l [] μ1 P := by
    intro m
    induction m using Nat.strongRecOn with
    | ind m ih =>
      intro l μ1 i h0 h1 hi hin hm ho hG
      refine bk_mM_putJumps_165 h0 ?_
      have e70 : μ1 109 70 = (n : Int) := by rw [ho 109 70 (by decide) (by decide)]; exact hn
      simp only [h1, e70]
      rw [show ab_w (500 + i) = 500 + i from ab_wi (by omega) (by omega), show ab_w (i + 1) = i + 1 from ab_wi (by omega) (by omega)]
      have on : ∀ (μ2 μ3 : ab_m) (v : Int), (∀ c j, c ≠ 164 → μ2 c j = μ1 c j) → μ3 = ab_mu μ2 173 i v → (mIsL (μ 145 (500 + i)) → mLd μ n (μ 146 (500 + i)) v) → i < n → jj_mM_putJumps X (d + 3) 165 (ab_up l 1 (i + 1)) [] μ3 P := by
        intro μ2 μ3 v h2 e hv hlt
        refine ih _ (by omega) _ μ3 (i + 1) h0 rfl (by omega) (by omega) rfl (fun c j a b => by rw [e, mu_ne b, h2 c j a]; exact ho c j a b) (fun j a b c => ?_)
        rw [e, ab_mud]
        split
        · rename_i w
          rw [w.2] at c ⊢
          exact hv c
        · rw [h2 173 _ (by decide)]
          exact hG j a (by omega) c
      refine ⟨fun q => hP _ μ1 h0 rfl ho (fun j a b c => hG j a (by omega) c), fun h => ?_⟩
      have e5 : μ1 145 (500 + i) = μ 145 (500 + i) := ho 145 _ (by decide) (by decide)
      have e6 : μ1 146 (500 + i) = μ 146 (500 + i) := ho 146 _ (by decide) (by decide)
      have sm : mSame μ μ1 := fun c j a b => ho c j (by omega) (by omega)
      refine c_mM_leaps (by omega) (fun q => ⟨fun w => absurd w (by decide), fun _ => ⟨by omega, ?_⟩⟩) (fun q1 q2 q3 => ⟨fun _ => ⟨by omega, fun μ3 e => on μ1 μ3 0 (fun _ _ _ => rfl) e (fun v => by rw [e5] at q1 q2 q3; rcases v with v | v | v; exact absurd v q1; exact absurd v q2; exact absurd v q3) h⟩, fun w => absurd rfl w⟩)
      rw [e5] at q
      rw [e6]
      have dd := (hW.at hi h).2.2.2.2.2.1 q
      refine c_mM_leads (hW.same sm) e70 dd fun r μ2 ho2 hr => ⟨by omega, fun μ3 e => on μ2 μ3 r (fun c j a => ho2 c j a) e (fun _ => ?_) h⟩
      obtain ⟨x1, x2, x3, x4, x5⟩ := hr
      have e5' : ∀ j, μ1 145 j = μ 145 j := fun j => ho 145 j (by decide) (by decide)
      have lp : ∀ t, mLoop μ1 n t → mLoop μ n t := fun t ht => ht.same fun j _ _ => ⟨(e5' _).symm, (ho 146 _ (by decide) (by decide)).symm⟩
      have lp2 : ∀ t, mLoop μ n t → mLoop μ1 n t := fun t ht => ht.same fun j _ _ => ⟨e5' _, ho 146 _ (by decide) (by decide)⟩
      rw [e5'] at x3 x5
      exact ⟨x1, x2, x3.elim Or.inl (fun w => Or.inr ⟨w.1, lp _ w.2⟩), fun w => x4 (lp2 _ w), x5⟩
  exact s165 _ l μ 0 h0 h1 (by omega) (by omega) rfl (fun _ _ _ _ => rfl) (fun j a b => by omega)
/-- the first stage: tests that are told -/
theorem c_mM_pj1 {μ : ab_m} {n : Nat} {R : Int} {l : ab_l} (h0 : l 0 = 109) (h1 : l 1 = 0) (hW : mWF μ 500 n R) (hn : μ 109 70 = n) (hP : ∀ (l' : ab_l) μ', l' 0 = 109 → fPj μ μ' → mQ1 μ μ' n R → jj_mM_leaveUnreached X (d + 2) 0 (ab_la [109]) [] μ' (fun r5 μ4 => jj_mM_putJumps X (d + 3) 165 (ab_up l' 1 0) [] μ4 P)) : jj_mM_putJumps X (d + 3) 2 l [] μ P := by
  have n1 : 1 ≤ (n : Int) ∧ (n : Int) ≤ 400 := ⟨hW.1, hW.2.1⟩
  have s2 : ∀ (m : Nat) (l : ab_l) (μ1 : ab_m) (i : Int), l 0 = 109 → l 1 = i → 0 ≤ i → i ≤ n → ((n : Int) - i).toNat = m → fPj μ μ1 → μ1 109 70 = n → mWF μ1 500 n R → (mPhi μ1 n < mPhi μ n ∨ mSameN μ μ1 n ∧ μ1 109 93 = μ 109 93) → (∀ j, 0 ≤ j → j < i → μ1 172 j ≠ 0 → μ1 145 (500 + j) = 26 ∨ μ1 145 (500 + j) = 27) → jj_mM_putJumps X (d + 3) 2 l [] μ1 P := by
    intro m
    induction m using Nat.strongRecOn with
    | ind m ih =>
      intro l μ1 i h0 h1 hi hin hm hf e70 hW1 hq hG
      have s116 : ∀ (l' : ab_l) (g go : Int), l' 0 = 109 → l' 1 = i → l' 2 = 500 + i → l' 4 = go → i < n → (g ≠ 0 → (μ1 145 (500 + i) = 26 ∨ μ1 145 (500 + i) = 27) ∧ go = 0) → (go ≠ 0 → μ1 145 (500 + i) = 26 ∨ μ1 145 (500 + i) = 27) → (g = 0 ∨ g = 1) → jj_mM_putJumps X (d + 3) 116 l' [(0, g), (0, i), (2, 172)] μ1 P := by
        intro l' g go g0 g1 g2 g4 hlt hg hgo hg01
        refine bk_mM_putJumps_116 g0 ?_
        simp only [g1, g2, g4]
        rw [show ab_w (i + 1) = i + 1 from ab_wi (by omega) (by omega)]
        refine ⟨by omega, fun μ2 e2 => ⟨fun q => ?_, fun q => ⟨by omega, fun μ3 e3 => ⟨by omega, fun μ4 e4 => ⟨by omega, fun μ5 e5 μ6 e6 => ?_⟩⟩⟩⟩⟩
        · have u : ∀ c j, c ≠ 172 → μ2 c j = μ1 c j := fun c j a => by rw [e2, mu_ne a]
          have sn : mSameN μ1 μ2 n := fun c j a b _ _ => u c _ (by omega)
          refine ih _ (by omega) _ μ2 (i + 1) g0 rfl (by omega) (by omega) rfl (fun c j a b e f g => by rw [u c j b]; exact hf c j a b e f g) (by rw [u 109 70 (by decide)]; exact e70) (hW1.same fun c j a b => u c j (by omega)) ?_ (fun j a b c => ?_)
          · rcases hq with w | w
            · exact Or.inl (by rw [sn.sk.phi]; exact w)
            · exact Or.inr ⟨w.1.trans sn, by rw [u 109 93 (by decide)]; exact w.2⟩
          · rw [u 145 _ (by decide)]
            rw [e2, ab_mud] at c
            split at c
            · rename_i w; rw [w.2]; exact (hg (by omega)).1
            · exact hG j a (by omega) c
        · have op := hgo q
          have gz : g = 0 := Classical.byContradiction fun w => q (hg w).2
          have ag : ∀ c j, c ≠ 172 → ¬ ((c = 145 ∨ c = 147 ∨ c = 149) ∧ j = 500 + i) → ¬ (c = 109 ∧ j = 93) → μ6 c j = μ1 c j := by
            intro c j a b e
            rw [e6, ab_mud, if_neg (by omega), e5, ab_mud, if_neg (by omega), e4, ab_mud, if_neg (by omega), e3, ab_mud, if_neg (by omega), e2, mu_ne a]
          have ag2 : mAg μ2 μ6 i := by rw [e6, e5, e4, e3]; exact (((mAg.rf.mu (by omega)).mu (by omega)).mu (by omega)).mu (by omega)
          have u : ∀ c j, c ≠ 172 → μ2 c j = μ1 c j := fun c j a => by rw [e2, mu_ne a]
          have v145 : μ6 145 (500 + i) = 25 := by rw [e6, e5, e4, e3]; simp [ab_mud]
          have v146 : μ6 146 (500 + i) = μ1 146 (500 + i) := ag 146 _ (by decide) (by omega) (by omega)
          have v149 : μ6 149 (500 + i) = 0 := by rw [e6, e5]; simp [ab_mud]
          have hW2 : mWF μ2 500 n R := hW1.same fun c j a b => u c j (by omega)
          have wl : mPhi μ6 n < mPhi μ2 n := mPhi_put ⟨hi, hlt⟩ ag2 (by rw [v145, v149, u 145 _ (by decide)]; exact mWt_jump op)
          have sn : mSameN μ1 μ2 n := fun c j a b _ _ => u c _ (by omega)
          rw [sn.sk.phi] at wl
          have hne : i ≠ (n : Int) - 1 := fun e => by have := hW1.last hi e; omega
          have od := (hW1.at hi hlt).2.2.2.2.2.1 (Or.inr op)
          refine ih _ (by omega) _ μ6 (i + 1) g0 rfl (by omega) (by omega) rfl (fun c j a b e f g => by rw [ag c j b (by omega) (by omega)]; exact hf c j a b e f g) (by rw [ag 109 70 (by decide) (by omega) (by omega)]; exact e70) (hW2.put ⟨hi, hlt⟩ ag2 ?_ (fun e => absurd e hne)) (Or.inl ?_) (fun j a b c => ?_)
          · unfold mI mUA mUB
            rw [v145, v146]
            exact ⟨by omega, by omega, fun w => by omega, fun w => by omega, fun w => by omega, fun _ => od, fun w => by omega, fun w => by omega, fun w => by omega, fun w => by omega⟩
          · rcases hq with w | w
            · omega
            · rw [w.1.sk.phi] at wl; exact wl
          · have e72 : μ6 172 j = μ2 172 j := by rw [e6, mu_ne (by decide), e5, mu_ne (by decide), e4, mu_ne (by decide), e3, mu_ne (by decide)]
            rw [e72, e2, ab_mud] at c
            split at c
            · rw [gz] at c; exact absurd rfl c
            · rename_i w
              rw [ag 145 _ (by decide) (by omega) (by omega)]
              exact hG j a (by omega) c
      have s87 : ∀ (l' : ab_l) (s0 s1 t : Int), l' 0 = 109 → l' 1 = i → l' 2 = 500 + i → l' 3 = t → t ≠ 0 → i < n → (μ1 145 (500 + i) = 26 ∨ μ1 145 (500 + i) = 27) → jj_mM_putJumps X (d + 3) 87 l' [(0, s1), (0, s0)] μ1 P := by
        intro l' s0 s1 t g0 g1 g2 g3 ht hlt op
        refine bk_mM_putJumps_87 g0 ?_
        simp only [g1, g3]
        exact ⟨fun _ => ⟨fun w => absurd w ht, fun _ => s116 _ 1 0 g0 g1 g2 rfl hlt (fun _ => ⟨op, rfl⟩) (fun w => absurd rfl w) (Or.inr rfl)⟩, fun _ => ⟨fun w => absurd w ht, fun _ => s116 _ 0 1 g0 g1 g2 rfl hlt (fun w => absurd rfl w) (fun _ => op) (Or.inl rfl)⟩⟩
      have s52 : ∀ (l' : ab_l) (t : Int), l' 0 = 109 → l' 1 = i → l' 2 = 500 + i → i < n → (t ≠ 0 → μ1 145 (500 + i) = 26 ∨ μ1 145 (500 + i) = 27) → jj_mM_putJumps X (d + 3) 52 l' [(0, t)] μ1 P := by
        intro l' t g0 g1 g2 hlt op
        refine bk_mM_putJumps_52 g0 ?_
        simp only [g1, g2]
        refine ⟨fun q => ⟨fun _ => s116 _ 0 0 g0 g1 g2 rfl hlt (fun w => absurd rfl w) (fun w => absurd rfl w) (Or.inl rfl), fun w => absurd q w⟩, fun q => ⟨by omega, fun _ => ⟨by omega, fun _ => s87 _ _ _ t g0 g1 g2 rfl q hlt (op q), fun _ => s87 _ _ _ t g0 g1 g2 rfl q hlt (op q)⟩, fun _ => ⟨by omega, fun _ => s87 _ _ _ t g0 g1 g2 rfl q hlt (op q), fun _ => s87 _ _ _ t g0 g1 g2 rfl q hlt (op q)⟩⟩⟩
      refine bk_mM_putJumps_2 h0 ?_
      simp only [h1, e70]
      rw [show ab_w (500 + i) = 500 + i from ab_wi (by omega) (by omega)]
      refine ⟨fun q => ?_, fun h => ⟨by omega, fun q => ⟨by omega, fun _ => s52 _ 0 h0 h1 rfl h (fun w => absurd rfl w), fun _ => s52 _ 1 h0 h1 rfl h (fun _ => Or.inl q)⟩, fun _ => ⟨by omega, fun _ => s52 _ 0 h0 h1 rfl h (fun w => absurd rfl w), fun q => ⟨by omega, fun _ => s52 _ 0 h0 h1 rfl h (fun w => absurd rfl w), fun _ => s52 _ 1 h0 h1 rfl h (fun _ => Or.inr q)⟩⟩⟩⟩
      have hin' : i = n := by omega
      subst hin'
      refine ok_rg fun hg1 => ?_
      refine c_mM_leaveOut e70 (by omega) hg1 hW1.dn fun μ2 hf2 hl2 => ?_
      have kp : mKp μ1 n (n - 1) := hW1.kp (Classical.byContradiction fun w => by
        have a := hG ((n - 1 : Nat) : Int) (by omega) (by omega) w
        have b := hW1.last (i := ((n - 1 : Nat) : Int)) (by omega) (by omega)
        omega)
      refine hP l μ2 h0 (hf.trans hf2.pj) ?_
      refine mQ1.de (μ1 := μ1) (k := n) ⟨n, e70, hW1, ?_⟩ e70 (hl2.wf hW1 kp) (hl2.de hW1.dn (rg93 hg1))
      rcases hq with w | w
      · exact Or.inl w
      · exact Or.inr ⟨rfl, w.1, w.2⟩
  exact s2 _ l μ 0 h0 h1 (by omega) (by omega) rfl (fun _ _ _ _ _ _ _ => rfl) hn hW (Or.inr ⟨fun _ _ _ _ _ _ => rfl, rfl⟩) (fun j a b => by omega)
theorem c_mM_putJumps {μ : ab_m} {n : Nat} {R : Int} (hW : mWF μ 500 n R) (hn : μ 109 70 = n) (hP : ∀ μ', fPj μ μ' → mQ2 μ μ' n R → P 0 μ') : jj_mM_putJumps X (d + 3) 0 (ab_la [109]) [] μ P := by
  refine bk_mM_putJumps_0 rfl ?_
  refine c_mM_pj1 rfl rfl hW hn fun l1 μ1 g1 f1 q1 => ?_
  have q1b := q1
  obtain ⟨k1, e1, w1, -⟩ := q1b
  refine c_mM_leaveUnreached w1 e1 fun μ2 f2 w2 d2 => ?_
  have q2 := q1.de e1 w2 d2
  obtain ⟨k2, e2, w2', c2⟩ := q2
  refine c_mM_pj2 g1 rfl w2' e2 fun l3 μ3 g3 g3' f3 hl3 => ?_
  have sm : mSame μ2 μ3 := fun c j a b => f3 c j (by omega) (by omega)
  have w3 : mWF μ3 500 k2 R := w2'.same sm
  have e3 : μ3 109 70 = k2 := by rw [f3 109 70 (by decide) (by decide)]; exact e2
  have p3 : fPj μ μ3 := (f1.trans f2.pj).trans fun c j a b e _ _ => f3 c j (by omega) e
  have c3 : mPhi μ3 k2 < mPhi μ n ∨ k2 = n ∧ mSameN μ μ3 n ∧ μ3 109 93 = μ 109 93 := by
    rcases c2 with v | ⟨v1, v2, v3⟩
    · exact Or.inl (by rw [mPhi_same sm]; exact v)
    · exact Or.inr ⟨v1, v2.trans (fun c j a b _ _ => sm c _ a b), by rw [f3 109 93 (by decide) (by decide)]; exact v3⟩
  refine c_mM_pj3 g3 g3' w3 e3 (fun i a b c => ?_) fun l4 μ4 g4 g4' f4 e4 w4 sd4 st4 s4 => ?_
  · rw [sm 145 _ (by decide) (by decide)] at c
    rw [sm 146 _ (by decide) (by decide)]
    obtain ⟨x1, x2, x3, x4, x5⟩ := hl3 i a b c
    have lp : ∀ t, mLoop μ2 k2 t ↔ mLoop μ3 k2 t := fun t => ⟨fun ht => ht.same fun j _ _ => ⟨sm _ _ (by decide) (by decide), sm _ _ (by decide) (by decide)⟩, fun ht => ht.same fun j _ _ => ⟨(sm _ _ (by decide) (by decide)).symm, (sm _ _ (by decide) (by decide)).symm⟩⟩
    refine ⟨x1, x2, ?_, fun w => x4 ((lp _).mpr w), fun w => x5 (by rw [← sm 145 _ (by decide) (by decide)]; exact w)⟩
    rcases x3 with w | w
    · left; rw [sm 145 _ (by decide) (by decide)]; exact w
    · right; exact ⟨w.1, (lp _).mp w.2⟩
  · have q4 : mQ2 μ μ4 n R := by
      refine ⟨k2, e4, w4, ?_⟩
      rcases c3 with v | ⟨v1, v2, v3⟩
      · exact Or.inl (by rw [sd4.phi]; exact v)
      · subst v1
        refine Or.inr ⟨rfl, fun c i a b e f g => (sd4 c i a b e f g).trans (v2 c i a b f g), st4, fun s => ?_⟩
        have := s4 (s.same hW v2)
        exact ⟨v2.trans this.1, this.2.trans v3⟩
    refine c_mM_leaveUnreached w4 e4 fun μ5 f5 w5 d5 => ?_
    have q5 := q4.de e4 w5 d5
    have q5b := q5
    obtain ⟨k5, e5, w5', -⟩ := q5b
    refine c_mM_pj4 g4 rfl w5' e5 fun μ6 f6 w6 d6 => ?_
    exact hP μ6 (((p3.trans f4).trans f5.pj).trans f6) (q5.de e5 w6 d6)
end M20

