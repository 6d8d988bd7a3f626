/-! THE REFERENCE, part 73: the measure of a run of the text -/
section M73
variable {μ : ab_m} {g N dn : Int} {Γ : tQ}
/-- what the frames below may still do without fuel -/
def rtM (μ : ab_m) (g : Int) (Γ : tQ) (N : Int) : List Int → Nat
  | [] => 0
  | b :: bs => rtK μ g Γ N b * ((2 * N).toNat + 1) ^ (Γ.2.2.2.1 b).toNat + rtM μ g Γ N bs
def rtT (μ : ab_m) (g : Int) (Γ : tQ) (N : Int) (L : List Int) (pc : Int) : Nat := rtM μ g Γ N (pc :: L)
/-- on in the same frame -/
theorem rtT_on {L : List Int} {k k' : Int} (h : rtK μ g Γ N k' < rtK μ g Γ N k) (r : Γ.2.2.2.1 k' = Γ.2.2.2.1 k) : rtT μ g Γ N L k' < rtT μ g Γ N L k := by
  unfold rtT rtM
  rw [r]
  have p : 0 < ((2 * N).toNat + 1) ^ (Γ.2.2.2.1 k).toNat := Nat.pow_pos (by omega)
  have := Nat.mul_lt_mul_of_pos_right h p
  omega
/-- into a def -/
theorem rtT_call {L : List Int} {k b : Int} (h : rtK μ g Γ N (k + 1) < rtK μ g Γ N k) (r : Γ.2.2.2.1 (k + 1) = Γ.2.2.2.1 k) (b0 : 0 ≤ b) (rb : 0 ≤ Γ.2.2.2.1 b ∧ Γ.2.2.2.1 b < Γ.2.2.2.1 k) : rtT μ g Γ N ((k + 1) :: L) b < rtT μ g Γ N L k := by
  unfold rtT
  show rtK μ g Γ N b * ((2 * N).toNat + 1) ^ (Γ.2.2.2.1 b).toNat + (rtK μ g Γ N (k + 1) * ((2 * N).toNat + 1) ^ (Γ.2.2.2.1 (k + 1)).toNat + rtM μ g Γ N L) < rtK μ g Γ N k * ((2 * N).toNat + 1) ^ (Γ.2.2.2.1 k).toNat + rtM μ g Γ N L
  rw [r]
  have l1 := rtK_le (μ := μ) (g := g) (Γ := Γ) (N := N) b0
  generalize (2 * N).toNat = B at *
  have p : 0 < (B + 1) ^ (Γ.2.2.2.1 b).toNat := Nat.pow_pos (by omega)
  have e1 : rtK μ g Γ N b * (B + 1) ^ (Γ.2.2.2.1 b).toNat < (B + 1) ^ ((Γ.2.2.2.1 b).toNat + 1) := by
    rw [Nat.pow_succ, Nat.mul_comm ((B + 1) ^ (Γ.2.2.2.1 b).toNat)]
    exact Nat.mul_lt_mul_of_pos_right (by omega) p
  have e2 : (B + 1) ^ ((Γ.2.2.2.1 b).toNat + 1) ≤ (B + 1) ^ (Γ.2.2.2.1 k).toNat := Nat.pow_le_pow_right (by omega) (by omega)
  have e3 : (rtK μ g Γ N (k + 1) + 1) * (B + 1) ^ (Γ.2.2.2.1 k).toNat ≤ rtK μ g Γ N k * (B + 1) ^ (Γ.2.2.2.1 k).toNat := Nat.mul_le_mul_right _ h
  rw [Nat.add_mul, Nat.one_mul] at e3
  omega
/-- back out of a def -/
theorem rtT_back {L : List Int} {k b : Int} (h : 0 < rtK μ g Γ N k) : rtT μ g Γ N L b < rtT μ g Γ N (b :: L) k := by
  unfold rtT
  show rtM μ g Γ N (b :: L) < rtK μ g Γ N k * ((2 * N).toNat + 1) ^ (Γ.2.2.2.1 k).toNat + rtM μ g Γ N (b :: L)
  have p : 0 < ((2 * N).toNat + 1) ^ (Γ.2.2.2.1 k).toNat := Nat.pow_pos (by omega)
  have := Nat.mul_pos h p
  omega
end M73

