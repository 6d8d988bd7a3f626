/-! THE REFERENCE, part 72: what runs over well-made text keep -/
section M72
variable {μ : ab_m} {g N dn : Int} {Γ : tQ}
theorem tW.tr (t : tW μ g Γ N dn) {k : Int} (a : 0 ≤ k) (b : k < N) : tR Γ k := by
  have N9 := t.n0
  have tf : tF (tEv μ g dn) Γ (N - 1) (fun _ => False) := fun k a b => ⟨(t.k k a (by omega)).1, fun go => Or.inr ((t.k k a (by omega)).2 go)⟩
  have := tf.nr t.base (fun k a b => t.ns k a b) k.toNat (by omega)
  rwa [Int.toNat_of_nonneg a] at this
/-- the next step, where it isn't the last -/
theorem tW.nx (t : tW μ g Γ N dn) {k : Int} (a : 0 ≤ k) (b : k < N) (h29 : μ 115 (9000 * g + k) ≠ 29) (h30 : μ 115 (9000 * g + k) ≠ 30) : k + 1 < N ∧ tMv (μ 115 (9000 * g + k)) (tAr (tEv μ g dn) (μ 115 (9000 * g + k)) (μ 116 (9000 * g + k))) (Γ.1 k) (Γ.2.1 k) = some (Γ.1 (k + 1), Γ.2.1 (k + 1)) ∧ Γ.2.2.2.1 (k + 1) = Γ.2.2.2.1 k ∧ Γ.2.2.1 (k + 1) = Γ.2.2.1 k + tPu (μ 115 (9000 * g + k)) ∧ Γ.2.2.2.2 (k + 1) = Γ.2.2.2.2 k := by
  have st := t.st
  have ne : k ≠ N - 1 := fun z => by rw [z] at h30; exact h30 st
  rcases (t.k k a b).1.1 with h | h | h
  · exact absurd h.1 h29
  · exact absurd h.1 h30
  · exact ⟨by omega, h.1, h.2.2.1, h.2.1, h.2.2.2⟩
theorem tW.rstep (t : tW μ g Γ N dn) {k : Int} (a : 0 ≤ k) (b : k + 1 < N) : Γ.2.2.2.1 k ≤ Γ.2.2.2.1 (k + 1) ∧ Γ.2.2.1 k ≤ Γ.2.2.1 (k + 1) := by
  rcases (t.k k a (by omega)).1.1 with h | h | h
  · have := h.2.2.2.2.2.2.1; have := h.2.2.2.2.2.1; omega
  · exact absurd h.1 (t.ns k a (by omega))
  · have := tPu0 ((tEv μ g dn).1 k)
    have := h.2.2.1; have := h.2.1; omega
theorem tW.rmono (t : tW μ g Γ N dn) {k : Int} (a : 0 ≤ k) : ∀ n : Nat, k + n < N → Γ.2.2.2.1 k ≤ Γ.2.2.2.1 (k + n) ∧ Γ.2.2.1 k ≤ Γ.2.2.1 (k + n) := by
  intro n
  induction n with
  | zero => intro _; simp
  | succ n ih =>
    intro b
    have i := ih (by omega)
    have s := t.rstep (k := k + n) (by omega) (by omega)
    rw [show k + ((n + 1 : Nat) : Int) = k + n + 1 by omega]
    omega
theorem tW.mono (t : tW μ g Γ N dn) {k k' : Int} (a : 0 ≤ k) (b : k ≤ k') (c : k' < N) : Γ.2.2.2.1 k ≤ Γ.2.2.2.1 k' ∧ Γ.2.2.1 k ≤ Γ.2.2.1 k' := by
  have := t.rmono a (k' - k).toNat (by omega)
  rwa [show k + ((k' - k).toNat : Int) = k' by omega] at this
/-- all of an earlier def stands before a def begins -/
theorem tW.before (t : tW μ g Γ N dn) {k b : Int} (a : 0 ≤ k) (ak : k < N) (a' : 0 ≤ b) (bk : b < N) (h : Γ.2.2.2.1 k < Γ.2.2.2.1 b) : k < Γ.2.2.2.2 b := by
  have tr := t.tr a' bk
  have rz := tr.rz
  have z0 := tr.z0
  have hz := tr.hz
  have h0 := tr.h0
  by_cases c : Γ.2.2.2.2 b ≤ k
  · have := (t.mono z0 c ak).1
    omega
  · omega
theorem tW.rle (t : tW μ g Γ N dn) {k : Int} (a : 0 ≤ k) (b : k < N) : 0 ≤ Γ.2.2.2.1 k ∧ Γ.2.2.2.1 k ≤ dn := by
  have := (t.mono a (show k ≤ N - 1 by omega) (by omega)).1
  have := t.rN
  have := (t.tr a b).r0
  omega
/-- the frames below: where they go on; p: the def at hand, v: the values below it -/
def rFr (Γ : tQ) (N dn : Int) : List Int → Int → Int → Prop
  | [], p, v => p = dn ∧ v = 0
  | b :: bs, p, v => 0 ≤ b ∧ b < N ∧ p < Γ.2.2.2.1 b ∧ 1 ≤ Γ.1 b ∧ ∃ v', v = v' + Γ.1 b - 1 ∧ rFr Γ N dn bs (Γ.2.2.2.1 b) v'
theorem rFr.le (t : tW μ g Γ N dn) : ∀ {L : List Int} {p v : Int}, rFr Γ N dn L p v → 0 ≤ v ∧ (∀ k, 0 ≤ k → k < N → Γ.2.2.2.1 k = p → v + k ≤ N - 1) ∧ (L.length : Int) ≤ dn - p
  | [], p, v, h => ⟨by rw [h.2]; decide, fun k a b _ => by rw [h.2]; omega, by rw [h.1]; simp⟩
  | b :: bs, p, v, h => by
    obtain ⟨h1, h2, h3, h4, v', h5, h6⟩ := h
    obtain ⟨i1, i2, i3⟩ := h6.le t
    have tr := t.tr h1 h2
    have hz := tr.hz
    have ib := i2 b h1 h2 rfl
    refine ⟨by omega, fun k a c e => ?_, by simp; omega⟩
    have := t.before a c h1 h2 (by omega)
    omega
/-- only DO_TEST lets a 6 in -/
theorem tMv_6 {k m h : Int} {s : List Int} (k22 : k ≠ 22) : oAl (fun x : Int × List Int => 6 ∈ x.2 → 6 ∈ s) (tMv k m h s) := by
  unfold tMv
  have S : ∀ a : Int, oAl (fun x : Int × List Int => 6 ∈ x.2 → 6 ∈ s) (some (a, s)) := fun a => oAl_s fun z => z
  have St : ∀ a : Int, oAl (fun x : Int × List Int => 6 ∈ x.2 → 6 ∈ s) (some (a, s.tail)) := fun a => oAl_s fun z => List.mem_of_mem_tail z
  have Sc : ∀ a v : Int, v ≠ 6 → oAl (fun x : Int × List Int => 6 ∈ x.2 → 6 ∈ s) (some (a, v :: s)) := fun a v hv => oAl_s fun z => by
    rcases List.mem_cons.mp z with y | y
    · exact absurd y.symm hv
    · exact y
  have Sr : ∀ a v : Int, v ≠ 6 → oAl (fun x : Int × List Int => 6 ∈ x.2 → 6 ∈ s) (some (a, v :: s.tail)) := fun a v hv => oAl_s fun z => by
    rcases List.mem_cons.mp z with y | y
    · exact absurd y.symm hv
    · exact List.mem_of_mem_tail y
  refine oAl_i (fun _ => S _) fun _ => oAl_i (fun _ => oAl_i (fun _ => S _) fun _ => oAl_n) fun _ => oAl_i (fun _ => oAl_i (fun _ => S _) fun _ => oAl_n) fun _ => oAl_i (fun _ => Sc _ _ (by decide)) fun _ => oAl_i (fun _ => oAl_i (fun _ => Sr _ _ (by decide)) fun _ => oAl_n) fun _ => oAl_i (fun _ => oAl_i (fun _ => St _) fun _ => oAl_n) fun _ => oAl_i (fun _ => oAl_i (fun _ => S _) fun _ => oAl_n) fun _ => oAl_i (fun _ => oAl_i (fun _ => S _) fun _ => oAl_n) fun _ => oAl_i (fun _ => oAl_i (fun _ => S _) fun _ => oAl_n) fun _ => oAl_i (fun _ => S _) fun _ => oAl_i (fun _ => oAl_i (fun _ => Sc _ _ (by decide)) fun _ => oAl_n) fun _ => oAl_i (fun _ => oAl_i (fun _ => S _) fun _ => oAl_n) fun _ => oAl_i (fun _ => oAl_i (fun _ => St _) fun _ => oAl_n) fun _ => oAl_i (fun _ => Sc _ _ (by decide)) fun _ => oAl_i (fun _ => oAl_i (fun _ => Sr _ _ (by decide)) fun _ => oAl_n) fun _ => oAl_i (fun _ => oAl_i (fun _ => St _) fun _ => oAl_n) fun _ => oAl_i (fun _ => Sc _ _ (by decide)) fun _ => oAl_i (fun z => absurd z k22) fun _ => oAl_i (fun _ => oAl_i (fun _ => St _) fun _ => oAl_n) fun _ => oAl_i (fun _ => oAl_i (fun _ => S _) fun _ => oAl_n) fun _ => oAl_n
/-- how far a step is from the next use of fuel -/
def rtK (μ : ab_m) (g : Int) (Γ : tQ) (N k : Int) : Nat := if μ 115 (9000 * g + k) = 14 ∨ μ 115 (9000 * g + k) = 18 ∨ μ 115 (9000 * g + k) = 22 then 0 else if 6 ∈ Γ.2.1 k then (2 * N - k).toNat else (N - k).toNat
theorem rtK_pos {k : Int} (b : k < N) (N0 : 0 < N) (h : ¬ (μ 115 (9000 * g + k) = 14 ∨ μ 115 (9000 * g + k) = 18 ∨ μ 115 (9000 * g + k) = 22)) : (N - k).toNat ≤ rtK μ g Γ N k ∧ 0 < rtK μ g Γ N k ∧ (6 ∈ Γ.2.1 k → rtK μ g Γ N k = (2 * N - k).toNat) := by
  unfold rtK
  rw [if_neg h]
  split
  · next z => exact ⟨by omega, by omega, fun _ => rfl⟩
  · next z => exact ⟨by omega, by omega, fun y => absurd y z⟩
theorem rtK_le {k : Int} (a : 0 ≤ k) : rtK μ g Γ N k ≤ (2 * N).toNat := by
  unfold rtK
  split
  · omega
  · split <;> omega
/-- forward, and no 6 comes in: nearer -/
theorem rtK_lt {k k' : Int} (a : 0 ≤ k) (b : k < k') (c : k' < N) (h : ¬ (μ 115 (9000 * g + k) = 14 ∨ μ 115 (9000 * g + k) = 18 ∨ μ 115 (9000 * g + k) = 22)) (h6 : 6 ∈ Γ.2.1 k' → 6 ∈ Γ.2.1 k) : rtK μ g Γ N k' < rtK μ g Γ N k := by
  have p := rtK_pos (Γ := Γ) (show k < N by omega) (by omega) h
  have e : rtK μ g Γ N k' = 0 ∨ (6 ∈ Γ.2.1 k' ∧ rtK μ g Γ N k' = (2 * N - k').toNat) ∨ rtK μ g Γ N k' = (N - k').toNat := by
    unfold rtK
    split
    · exact Or.inl rfl
    · split
      · next z => exact Or.inr (Or.inl ⟨z, rfl⟩)
      · exact Or.inr (Or.inr rfl)
  rcases e with e | ⟨z, e⟩ | e
  · omega
  · rw [e, p.2.2 (h6 z)]; omega
  · omega
/-- the next step is nearer -/
theorem tW.rk (t : tW μ g Γ N dn) {k : Int} (a : 0 ≤ k) (b : k < N) (h29 : μ 115 (9000 * g + k) ≠ 29) (h30 : μ 115 (9000 * g + k) ≠ 30) (h : ¬ (μ 115 (9000 * g + k) = 14 ∨ μ 115 (9000 * g + k) = 18 ∨ μ 115 (9000 * g + k) = 22)) : rtK μ g Γ N (k + 1) < rtK μ g Γ N k := by
  obtain ⟨n1, n2, -⟩ := t.nx a b h29 h30
  exact rtK_lt a (by omega) n1 h fun z => tMv_6 (by omega) _ n2 z
/-- a jump goes nearer -/
theorem tW.rkj (t : tW μ g Γ N dn) {k : Int} (a : 0 ≤ k) (b : k < N) (go : tGo (μ 115 (9000 * g + k))) : 0 ≤ μ 116 (9000 * g + k) ∧ μ 116 (9000 * g + k) < N ∧ Γ.2.2.2.1 (μ 116 (9000 * g + k)) = Γ.2.2.2.1 k ∧ Γ.1 (μ 116 (9000 * g + k)) = tHj (μ 115 (9000 * g + k)) (Γ.1 k) ∧ rtK μ g Γ N (μ 116 (9000 * g + k)) < rtK μ g Γ N k := by
  have N9 := t.n0
  obtain ⟨j1, j2, j3, j4, j5⟩ := (t.k k a b).2 go
  have j1 : 0 ≤ μ 116 (9000 * g + k) := j1
  have j2 : μ 116 (9000 * g + k) ≤ N - 1 := j2
  have nf : ¬ (μ 115 (9000 * g + k) = 14 ∨ μ 115 (9000 * g + k) = 18 ∨ μ 115 (9000 * g + k) = 22) := by unfold tGo at go; omega
  refine ⟨j1, by omega, j3, j4, ?_⟩
  have p := rtK_pos (Γ := Γ) b (by omega) nf
  rcases j5 with ⟨-, z⟩ | ⟨z1, z2⟩ | ⟨-, z1, z2, z3⟩
  · have z : μ 115 (9000 * g + μ 116 (9000 * g + k)) = 18 := z
    have : rtK μ g Γ N (μ 116 (9000 * g + k)) = 0 := by unfold rtK; rw [if_pos (by omega)]
    omega
  · exact rtK_lt a z1 (by omega) nf z2
  · have e1 := p.2.2 z1
    have e2 : rtK μ g Γ N (μ 116 (9000 * g + k)) ≤ (N - μ 116 (9000 * g + k)).toNat := by
      unfold rtK
      split
      · omega
      · rw [if_neg (show ¬ 6 ∈ Γ.2.1 (μ 116 (9000 * g + k)) from z2)]; omega
    omega
end M72

