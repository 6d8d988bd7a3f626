/-! DECODED INSTRUCTIONS: by the number of a method -/
def jde (t pc : Nat) : Option (Instr × Nat) := (bif Nat.blt t 8 then (bif Nat.blt t 4 then (bif Nat.blt t 2 then (bif Nat.beq t 1 then jde_1 pc else none) else (bif Nat.blt t 3 then (bif Nat.beq t 2 then jde_2 pc else none) else (bif Nat.beq t 3 then jde_3 pc else none))) else (bif Nat.blt t 6 then (bif Nat.blt t 5 then (bif Nat.beq t 4 then jde_4 pc else none) else (bif Nat.beq t 5 then jde_5 pc else none)) else (bif Nat.blt t 7 then (bif Nat.beq t 6 then jde_6 pc else none) else (bif Nat.beq t 7 then jde_7 pc else none)))) else (bif Nat.blt t 11 then (bif Nat.blt t 9 then (bif Nat.beq t 8 then jde_8 pc else none) else (bif Nat.blt t 10 then (bif Nat.beq t 9 then jde_9 pc else none) else (bif Nat.beq t 10 then jde_10 pc else none))) else (bif Nat.blt t 13 then (bif Nat.blt t 12 then (bif Nat.beq t 11 then jde_11 pc else none) else (bif Nat.beq t 12 then jde_12 pc else none)) else (bif Nat.blt t 14 then (bif Nat.beq t 13 then jde_13 pc else none) else (bif Nat.beq t 14 then jde_14 pc else none)))))
def jde_ok (t : Nat) (M : jm_M) : Prop := ∀ pc r, jde t pc = some r → decode M.2.1 pc = .ok r
theorem jde_ok_0 (M : jm_M) : jde_ok 0 M := fun pc r h => by cases h
theorem jde_ok_1 : jde_ok 1 mL_law := fun pc r h => jde_1_ok pc r h
theorem jde_ok_2 : jde_ok 2 mP_init := fun pc r h => jde_2_ok pc r h
theorem jde_ok_3 : jde_ok 3 mCo_init := fun pc r h => jde_3_ok pc r h
theorem jde_ok_4 : jde_ok 4 mHo_init := fun pc r h => jde_4_ok pc r h
theorem jde_ok_5 : jde_ok 5 mIm_init := fun pc r h => jde_5_ok pc r h
theorem jde_ok_6 : jde_ok 6 mKn_init := fun pc r h => jde_6_ok pc r h
theorem jde_ok_7 : jde_ok 7 mLi_init := fun pc r h => jde_7_ok pc r h
theorem jde_ok_8 : jde_ok 8 mMa_init := fun pc r h => jde_8_ok pc r h
theorem jde_ok_9 : jde_ok 9 mNa_init := fun pc r h => jde_9_ok pc r h
theorem jde_ok_10 : jde_ok 10 mRe_init := fun pc r h => jde_10_ok pc r h
theorem jde_ok_11 : jde_ok 11 mRu_init := fun pc r h => jde_11_ok pc r h
theorem jde_ok_12 : jde_ok 12 mSc_init := fun pc r h => jde_12_ok pc r h
theorem jde_ok_13 : jde_ok 13 mWo_init := fun pc r h => jde_13_ok pc r h
theorem jde_ok_14 : jde_ok 14 mM_init := fun pc r h => jde_14_ok pc r h
def jdI_l : List (Nat × Nat × Nat) := [(0, 17, 10), (0, 24, 12), (0, 38, 8), (0, 45, 3), (0, 52, 7), (0, 59, 6), (0, 66, 5), (0, 78, 11), (13, 58, 2), (13, 61, 14), (3, 11, 4), (3, 20, 7), (8, 11, 13), (8, 20, 9)]
def jdI_P (r : Nat × Nat × Nat) : Prop := ∀ N k, jp_M r.1 r.2.1 = some (N, k) → jde_ok r.2.2 N
theorem jdI_0_17 : jdI_P (0, 17, 10) := by
  intro N k h
  have e : ∃ j, jp_M 0 17 = some (mRe_init, j) := ⟨_, rfl⟩
  obtain ⟨j, e⟩ := e
  have h2 := e.symm.trans h
  cases h2
  exact jde_ok_10
theorem jdI_0_24 : jdI_P (0, 24, 12) := by
  intro N k h
  have e : ∃ j, jp_M 0 24 = some (mSc_init, j) := ⟨_, rfl⟩
  obtain ⟨j, e⟩ := e
  have h2 := e.symm.trans h
  cases h2
  exact jde_ok_12
theorem jdI_0_38 : jdI_P (0, 38, 8) := by
  intro N k h
  have e : ∃ j, jp_M 0 38 = some (mMa_init, j) := ⟨_, rfl⟩
  obtain ⟨j, e⟩ := e
  have h2 := e.symm.trans h
  cases h2
  exact jde_ok_8
theorem jdI_0_45 : jdI_P (0, 45, 3) := by
  intro N k h
  have e : ∃ j, jp_M 0 45 = some (mCo_init, j) := ⟨_, rfl⟩
  obtain ⟨j, e⟩ := e
  have h2 := e.symm.trans h
  cases h2
  exact jde_ok_3
theorem jdI_0_52 : jdI_P (0, 52, 7) := by
  intro N k h
  have e : ∃ j, jp_M 0 52 = some (mLi_init, j) := ⟨_, rfl⟩
  obtain ⟨j, e⟩ := e
  have h2 := e.symm.trans h
  cases h2
  exact jde_ok_7
theorem jdI_0_59 : jdI_P (0, 59, 6) := by
  intro N k h
  have e : ∃ j, jp_M 0 59 = some (mKn_init, j) := ⟨_, rfl⟩
  obtain ⟨j, e⟩ := e
  have h2 := e.symm.trans h
  cases h2
  exact jde_ok_6
theorem jdI_0_66 : jdI_P (0, 66, 5) := by
  intro N k h
  have e : ∃ j, jp_M 0 66 = some (mIm_init, j) := ⟨_, rfl⟩
  obtain ⟨j, e⟩ := e
  have h2 := e.symm.trans h
  cases h2
  exact jde_ok_5
theorem jdI_0_78 : jdI_P (0, 78, 11) := by
  intro N k h
  have e : ∃ j, jp_M 0 78 = some (mRu_init, j) := ⟨_, rfl⟩
  obtain ⟨j, e⟩ := e
  have h2 := e.symm.trans h
  cases h2
  exact jde_ok_11
theorem jdI_13_58 : jdI_P (13, 58, 2) := by
  intro N k h
  have e : ∃ j, jp_M 13 58 = some (mP_init, j) := ⟨_, rfl⟩
  obtain ⟨j, e⟩ := e
  have h2 := e.symm.trans h
  cases h2
  exact jde_ok_2
theorem jdI_13_61 : jdI_P (13, 61, 14) := by
  intro N k h
  have e : ∃ j, jp_M 13 61 = some (mM_init, j) := ⟨_, rfl⟩
  obtain ⟨j, e⟩ := e
  have h2 := e.symm.trans h
  cases h2
  exact jde_ok_14
theorem jdI_3_11 : jdI_P (3, 11, 4) := by
  intro N k h
  have e : ∃ j, jp_M 3 11 = some (mHo_init, j) := ⟨_, rfl⟩
  obtain ⟨j, e⟩ := e
  have h2 := e.symm.trans h
  cases h2
  exact jde_ok_4
theorem jdI_3_20 : jdI_P (3, 20, 7) := by
  intro N k h
  have e : ∃ j, jp_M 3 20 = some (mLi_init, j) := ⟨_, rfl⟩
  obtain ⟨j, e⟩ := e
  have h2 := e.symm.trans h
  cases h2
  exact jde_ok_7
theorem jdI_8_11 : jdI_P (8, 11, 13) := by
  intro N k h
  have e : ∃ j, jp_M 8 11 = some (mWo_init, j) := ⟨_, rfl⟩
  obtain ⟨j, e⟩ := e
  have h2 := e.symm.trans h
  cases h2
  exact jde_ok_13
theorem jdI_8_20 : jdI_P (8, 20, 9) := by
  intro N k h
  have e : ∃ j, jp_M 8 20 = some (mNa_init, j) := ⟨_, rfl⟩
  obtain ⟨j, e⟩ := e
  have h2 := e.symm.trans h
  cases h2
  exact jde_ok_9
theorem jdI_all : ∀ r ∈ jdI_l, jdI_P r := List.forall_mem_cons.mpr ⟨jdI_0_17, List.forall_mem_cons.mpr ⟨jdI_0_24, List.forall_mem_cons.mpr ⟨jdI_0_38, List.forall_mem_cons.mpr ⟨jdI_0_45, List.forall_mem_cons.mpr ⟨jdI_0_52, List.forall_mem_cons.mpr ⟨jdI_0_59, List.forall_mem_cons.mpr ⟨jdI_0_66, List.forall_mem_cons.mpr ⟨jdI_0_78, List.forall_mem_cons.mpr ⟨jdI_13_58, List.forall_mem_cons.mpr ⟨jdI_13_61, List.forall_mem_cons.mpr ⟨jdI_3_11, List.forall_mem_cons.mpr ⟨jdI_3_20, List.forall_mem_cons.mpr ⟨jdI_8_11, List.forall_mem_cons.mpr ⟨jdI_8_20, (fun _ h => by cases h)⟩⟩⟩⟩⟩⟩⟩⟩⟩⟩⟩⟩⟩⟩
def jdI (q i : Nat) : Nat := match jdI_l.find? (fun r => Nat.beq r.1 q && Nat.beq r.2.1 i) with
  | some r => r.2.2
  | none => 0
theorem jdI_ok {q i k : Nat} {N : jm_M} (h : jp_M q i = some (N, k)) : jde_ok (jdI q i) N := by
  unfold jdI
  split
  · rename_i r hr
    have h1 := List.find?_some hr
    simp only [Bool.and_eq_true] at h1
    have h2 := jdI_all r (List.mem_of_find?_eq_some hr)
    exact h2 N k (by rw [Nat.eq_of_beq_eq_true h1.1, Nat.eq_of_beq_eq_true h1.2]; exact h)
  · exact jde_ok_0 N
def jdV_l : List (Nat × Nat) := []
def jdV_P (r : Nat × Nat) : Prop := ∀ N, jp_V r.1 = some N → jde_ok r.2 N.1
theorem jdV_all : ∀ r ∈ jdV_l, jdV_P r := (fun _ h => by cases h)
def jdV (i : Nat) : Nat := match jdV_l.find? (fun r => Nat.beq r.1 i) with
  | some r => r.2
  | none => 0
theorem jdV_ok {i : Nat} {N : jm_M × jm_Hh} (h : jp_V i = some N) : jde_ok (jdV i) N.1 := by
  unfold jdV
  split
  · rename_i r hr
    have h1 := List.find?_some hr
    have h2 := jdV_all r (List.mem_of_find?_eq_some hr)
    exact h2 N (by rw [Nat.eq_of_beq_eq_true h1]; exact h)
  · exact jde_ok_0 N.1
def js_ix (i : Instr) : Nat := match i with
  | .invokevirtual idx => idx
  | .invokestatic idx => idx
  | .invokespecial idx => idx
  | _ => 0
theorem js_inv_ix {M N : jm_M} {i : Instr} {len f : Nat} {st as r : List js_V} {D : js_S} (h : js_inv M i len st D = some (N, f, as, r)) : jde_ok (jdI (jm_q M) (js_ix i)) N := by
  have : ∃ k, jp_M (jm_q M) (js_ix i) = some (N, k) := by
    unfold js_inv at h
    split at h
    · rename_i idx
      split at h
      · rename_i N1 hN
        split at h
        · split at h
          · split at h
            · split at h
              · cases h
                exact ⟨_, hN⟩
              · cases h
            · cases h
          · cases h
        · cases h
      · cases h
    · rename_i idx
      split at h
      · rename_i N1 k1 hN
        split at h
        · cases h
          exact ⟨_, hN⟩
        · cases h
      · cases h
    · rename_i idx
      split at h
      · rename_i N1 k1 hN
        split at h
        · split at h
          · cases h
            exact ⟨_, hN⟩
          · cases h
        · cases h
      · cases h
    · cases h
  obtain ⟨k, hk⟩ := this
  exact jdI_ok hk
theorem js_winv_ix {M : jm_M} {N : jm_M × jm_Hh} {i : Instr} {len : Nat} {st as r : List js_V} (h : js_winv M i len st = some (N, as, r)) : jde_ok (jdV (js_ix i)) N.1 := by
  have : jp_V (js_ix i) = some N := by
    unfold js_winv at h
    split at h
    · rename_i idx
      split at h
      · split at h
        · rename_i N1 hN
          split at h
          · cases h
            exact hN
          · cases h
        · cases h
      · cases h
    · cases h
  exact jdV_ok this
