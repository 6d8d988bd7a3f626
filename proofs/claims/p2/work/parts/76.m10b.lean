/-! THE REFERENCE, part 64: readStatement -/
section M64
variable {X : jm_X} {d : Nat} {P : Int → ab_m → Prop} {K : Int → Int} {W g : Int} {s0 : aS} {μ0 μ ν μ' : ab_m} {s s' : aS}
set_option maxHeartbeats 1000000 in
theorem c_rd_readStatement (hJ : J K W g s0 μ0 μ s) (hm : s.1 = 1) (hF : ∀ ν', rFt g μ0 ν' → P 0 ν') (hE : ∀ ν', rEd K W g s0 μ0 ν' → P 0 ν') (hN : ∀ ν' s', J K W g s0 μ0 ν' s' ∧ aMs W s' < aMs W s → P 0 ν') : jj_mM_readStatement X (d + 6) 0 (ab_la [109]) [] μ P := by
  obtain ⟨Γ, F, dd, Ln, G, hO, hZ⟩ := hJ.get
  have at0 := hJ.at'
  have len := hJ.len
  have hp := hJ.i.w.m1 (Or.inl hm)
  obtain ⟨-, r2, -, r4, r5⟩ := hJ.i.r
  have v0 := hJ.v0 hO
  have tp : 1 ≤ μ 109 38 ∧ μ 109 38 ≤ 3010 ∧ μ 129 (μ 109 38 - 1) = aTop s.2.2.2 := by
    cases hs : s.2.2.2 with
    | nil => rw [hs] at hp; exact hp.elim
    | cons e r =>
      rw [hs] at r4 r5 len
      have ll : ((e :: r).length : Int) = r.length + 1 := by simp
      rw [r4, ll]
      refine ⟨by omega, by omega, ?_⟩
      rw [show (r.length : Int) + 1 - 1 = r.length by omega]
      exact r5.1.1
  obtain ⟨t1, t2, t3⟩ := tp
  have top : ∀ {Q : Int → ab_m → Prop}, Q (aTop s.2.2.2) μ → jj_mM_top X (d + 5) 0 (ab_la [109]) [] μ Q := fun h => c_mM_top ⟨t1, t2⟩ (by rw [t3]; exact h)
  have s139 : ∀ l : ab_l, l 0 = 109 → l 1 = K s.2.1 → (l 2 ≠ 0 → aTop s.2.2.2 = 1 ∨ aTop s.2.2.2 = 2 ∨ aTop s.2.2.2 = 3) → jj_mM_readStatement X (d + 6) 139 l [] μ P := by
    intro l l0 l1 l2
    refine bk_mM_readStatement_139 l0 ?_
    rw [l1]
    refine ⟨⟨fun z => c_rd_readNamed (P := fun _ μ => P 0 μ) hJ hm z hF hN, fun z => c_rd_readLeave (P := fun _ μ => P 0 μ) hJ hm rfl (Or.inl z) hF hN, fun z => c_rd_do (P := fun _ μ => P 0 μ) hJ hm z hF hN, fun z => c_rd_readTested (P := fun _ μ => P 0 μ) hJ hm rfl (Or.inl z) hF hN, fun z => ⟨fun n0 ν1 e1 => ?_, fun _ => c_V_misfit hJ.i v0 (by omega) hF⟩, fun z => c_rd_readLeave (P := fun _ μ => P 0 μ) hJ hm rfl (Or.inr z) hF hN, fun z => c_rd_readTold (P := fun _ μ => P 0 μ) hJ hm rfl (Or.inr z) hF hN, fun z => c_rd_readRead (P := fun _ μ => P 0 μ) hJ hm z hF hN, fun z => c_rd_readTold (P := fun _ μ => P 0 μ) hJ hm rfl (Or.inl z) hF hN, fun z => c_rd_readTested (P := fun _ μ => P 0 μ) hJ hm rfl (Or.inr z) hF hN, fun z => c_rd_block (P := fun _ μ => P 0 μ) hJ hm z hF hN, trivial⟩, fun _ => c_V_misfit hJ.i v0 (by omega) hF⟩
    exact c_rd_readInts (P := fun _ μ => P 0 μ) hJ hO hZ (by rw [e1]; exact mF1.mu) z (Or.inr ⟨hm, rfl, l2 n0⟩) hF hN
  have s113 : ∀ l : ab_l, l 0 = 109 → l 1 = K s.2.1 → (l 2 ≠ 0 → aTop s.2.2.2 = 1 ∨ aTop s.2.2.2 = 2 ∨ aTop s.2.2.2 = 3) → jj_mM_readStatement X (d + 6) 113 l [] μ P := by
    intro l l0 l1 l2
    refine bk_mM_readStatement_113 l0 ?_
    rw [l1]
    exact ⟨fun _ => s139 l l0 l1 l2, fun z => top ⟨fun _ => s139 l l0 l1 l2, fun y => c_rd_stop hJ hm z y hE⟩⟩
  have s59 : ∀ l : ab_l, l 0 = 109 → l 1 = K s.2.1 → (l 2 ≠ 0 → aTop s.2.2.2 = 1 ∨ aTop s.2.2.2 = 2 ∨ aTop s.2.2.2 = 3) → jj_mM_readStatement X (d + 6) 59 l [] μ P := by
    intro l l0 l1 l2
    refine bk_mM_readStatement_59 l0 ?_
    rw [l1]
    exact ⟨fun _ => s113 l l0 l1 l2, fun z => top ⟨fun _ => s113 l l0 l1 l2, fun y => c_rd_endBlock hJ hm z y hN⟩⟩
  have s39 : ∀ (l : ab_l) (b : Int), l 0 = 109 → l 1 = K s.2.1 → (b ≠ 0 → aTop s.2.2.2 = 1 ∨ aTop s.2.2.2 = 2 ∨ aTop s.2.2.2 = 3) → jj_mM_readStatement X (d + 6) 39 l [(0, b)] μ P := by
    intro l b l0 l1 hb
    refine bk_mM_readStatement_39 l0 ?_
    rw [l1]
    exact ⟨fun _ => s59 _ l0 l1 hb, fun z => top ⟨fun _ => s59 _ l0 l1 hb, fun y => c_rd_endDef (P := fun _ μ => P 0 μ) hJ hm z y hN⟩⟩
  refine bk_mM_readStatement_0 rfl ?_
  rw [r2, hJ.i.K]
  refine ⟨by omega, top ⟨fun y => s39 _ 1 rfl rfl fun _ => Or.inl y, fun _ => top ⟨fun y => s39 _ 1 rfl rfl fun _ => Or.inr (Or.inl y), fun _ => top ⟨fun _ => s39 _ 0 rfl rfl fun z => absurd rfl z, fun y => s39 _ 1 rfl rfl fun _ => Or.inr (Or.inr y)⟩⟩⟩⟩
end M64

