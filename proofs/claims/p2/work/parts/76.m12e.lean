/-! THE REFERENCE, part 83: the frames of lower, lowerCall -/
section M83
variable {X : jm_X} {d : Nat} {P : Int → ab_m → Prop} {μ0 μ : ab_m} {g N dn dp : Int} {Γ : tQ} {U U' : Int → Prop} {O : List Int}
/-- the frames below: where they go on; p: the def at hand, v: the operands below it, R: what is open below it -/
def lFr (Γ : tQ) (N dn : Int) : List Int → Int → Int → List Int → Prop
  | [], p, v, R => p = dn ∧ v = 0 ∧ R = []
  | b :: bs, p, v, R => 0 ≤ b ∧ b < N ∧ p < Γ.2.2.2.1 b ∧ 1 ≤ Γ.1 b ∧ ∃ v' R', v = v' + Γ.1 b - 1 ∧ R = Γ.2.1 b ++ R' ∧ lFr Γ N dn bs (Γ.2.2.2.1 b) v' R'
theorem lFr.le (t : tW μ g Γ N dn) : ∀ {L : List Int} {p v : Int} {R : List Int}, lFr Γ N dn L p v R → 0 ≤ v ∧ (∀ k, 0 ≤ k → k < N → Γ.2.2.2.1 k = p → v + k ≤ N - 1 ∧ (R.length : Int) + Γ.2.2.1 k ≤ 3000) ∧ (L.length : Int) ≤ dn - p
  | [], p, v, R, h => ⟨by rw [h.2.1]; decide, fun k a b _ => by
      have := (t.mono a (show k ≤ N - 1 by omega) (by omega)).2
      have := t.w
      rw [h.2.1, h.2.2]
      exact ⟨by omega, by simp; omega⟩, by rw [h.1]; simp⟩
  | b :: bs, p, v, R, h => by
    obtain ⟨h1, h2, h3, h4, v', R', h5, h7, h6⟩ := h
    obtain ⟨i1, i2, i3⟩ := h6.le t
    have tr := t.tr h1 h2
    have hz := tr.hz
    have sw := tr.sw
    have h0 := tr.h0
    obtain ⟨ib, iw⟩ := i2 b h1 h2 rfl
    refine ⟨by omega, fun k a c e => ?_, by simp; omega⟩
    have kz := t.before a c h1 h2 (by omega)
    have := (t.mono a (show k ≤ Γ.2.2.2.2 b by omega) (by omega)).2
    refine ⟨by omega, ?_⟩
    rw [h7, List.length_append]
    omega
/-- where the frames go on -/
def lBk (μ : ab_m) : List Int → Prop
  | [] => True
  | b :: bs => μ 159 bs.length = b ∧ lBk μ bs
theorem lBk.same {μ μ' : ab_m} : ∀ {L : List Int}, lBk μ L → (∀ j, 0 ≤ j → j < (L.length : Int) → μ' 159 j = μ 159 j) → lBk μ' L
  | [], _, _ => trivial
  | b :: bs, h, f => ⟨by rw [f _ (by omega) (by simp; omega)]; exact h.1, h.2.same fun j a c => f j a (by simp; omega)⟩
/-- how much is left to lower -/
def lwM (Γ : tQ) (N : Int) : List Int → Nat
  | [] => 0
  | b :: bs => (N - b).toNat * (N.toNat + 1) ^ (Γ.2.2.2.1 b).toNat + lwM Γ N bs
theorem lwM_on {L : List Int} {k : Int} (h : k < N) (r : Γ.2.2.2.1 (k + 1) = Γ.2.2.2.1 k) : lwM Γ N ((k + 1) :: L) < lwM Γ N (k :: L) := by
  unfold lwM
  rw [r]
  have p : 0 < (N.toNat + 1) ^ (Γ.2.2.2.1 k).toNat := Nat.pow_pos (by omega)
  have := Nat.mul_lt_mul_of_pos_right (show (N - (k + 1)).toNat < (N - k).toNat by omega) p
  omega
theorem lwM_call {L : List Int} {k b : Int} (h : k < N) (r : Γ.2.2.2.1 (k + 1) = Γ.2.2.2.1 k) (b0 : 0 ≤ b) (rb : 0 ≤ Γ.2.2.2.1 b ∧ Γ.2.2.2.1 b < Γ.2.2.2.1 k) : lwM Γ N (b :: (k + 1) :: L) < lwM Γ N (k :: L) := by
  show (N - b).toNat * (N.toNat + 1) ^ (Γ.2.2.2.1 b).toNat + ((N - (k + 1)).toNat * (N.toNat + 1) ^ (Γ.2.2.2.1 (k + 1)).toNat + lwM Γ N L) < (N - k).toNat * (N.toNat + 1) ^ (Γ.2.2.2.1 k).toNat + lwM Γ N L
  rw [r]
  have l1 : (N - b).toNat ≤ N.toNat := by omega
  have l2 : (N - (k + 1)).toNat + 1 ≤ (N - k).toNat := by omega
  generalize N.toNat = B at *
  have p : 0 < (B + 1) ^ (Γ.2.2.2.1 b).toNat := Nat.pow_pos (by omega)
  have e1 : (N - b).toNat * (B + 1) ^ (Γ.2.2.2.1 b).toNat < (B + 1) ^ ((Γ.2.2.2.1 b).toNat + 1) := by
    rw [Nat.pow_succ, Nat.mul_comm ((B + 1) ^ (Γ.2.2.2.1 b).toNat)]
    exact Nat.mul_lt_mul_of_pos_right (by omega) p
  have e2 : (B + 1) ^ ((Γ.2.2.2.1 b).toNat + 1) ≤ (B + 1) ^ (Γ.2.2.2.1 k).toNat := Nat.pow_le_pow_right (by omega) (by omega)
  have e3 : ((N - (k + 1)).toNat + 1) * (B + 1) ^ (Γ.2.2.2.1 k).toNat ≤ (N - k).toNat * (B + 1) ^ (Γ.2.2.2.1 k).toNat := Nat.mul_le_mul_right _ l2
  rw [Nat.add_mul, Nat.one_mul] at e3
  omega
theorem lwM_back {L : List Int} {k b : Int} (h : k < N) : lwM Γ N (b :: L) < lwM Γ N (k :: b :: L) := by
  show lwM Γ N (b :: L) < (N - k).toNat * (N.toNat + 1) ^ (Γ.2.2.2.1 k).toNat + lwM Γ N (b :: L)
  have p : 0 < (N.toNat + 1) ^ (Γ.2.2.2.1 k).toNat := Nat.pow_pos (by omega)
  have := Nat.mul_pos (show 0 < (N - k).toNat by omega) p
  omega
/-- steps of one def begin at one place -/
theorem tW.zeq (t : tW μ g Γ N dn) {k : Int} (a : 0 ≤ k) : ∀ n : Nat, k + n < N → Γ.2.2.2.1 (k + n) = Γ.2.2.2.1 k → Γ.2.2.2.2 (k + n) = Γ.2.2.2.2 k := by
  intro n
  induction n with
  | zero => intro _ _; simp
  | succ n ih =>
    intro b e
    have e0 : k + ((n + 1 : Nat) : Int) = k + n + 1 := by omega
    rw [e0] at e b ⊢
    have m1 := (t.mono a (show k ≤ k + n by omega) (by omega)).1
    have m2 := (t.mono (show 0 ≤ k + n by omega) (show k + n ≤ k + n + 1 by omega) b).1
    have ih := ih (by omega) (by omega)
    rcases (t.k (k + n) (by omega) (by omega)).1.1 with h | h | h
    · have := h.2.2.2.2.2.2.1; omega
    · exact absurd h.1 (t.ns _ (by omega) (by omega))
    · rw [h.2.2.2, ih]
theorem tW.first (t : tW μ g Γ N dn) {j b : Int} (a : 0 ≤ j) (c : j < b) (e : b < N) (r : Γ.2.2.2.1 j = Γ.2.2.2.1 b) (z : Γ.2.2.2.2 b = b) : False := by
  have := t.zeq a (b - j).toNat (by rw [show j + ((b - j).toNat : Int) = b by omega]; exact e) (by rw [show j + ((b - j).toNat : Int) = b by omega]; exact r.symm)
  rw [show j + ((b - j).toNat : Int) = b by omega, z] at this
  have tr := t.tr a (show j < N by omega)
  have := tr.hz
  have := tr.h0
  omega
/-- the ints that have registers -/
def lU (μ : ab_m) (g dn : Int) (Γ : tQ) (pc : Int) (L : List Int) (y : Int) : Prop := tOk (tEv μ g dn) Γ pc y ∨ ∃ b ∈ L, tOk (tEv μ g dn) Γ b y
theorem lU.on {L : List Int} {pc y : Int} (r : Γ.2.2.2.1 (pc + 1) = Γ.2.2.2.1 pc) (h : lU μ g dn Γ (pc + 1) L y) : lU μ g dn Γ pc L y ∨ (μ 115 (9000 * g + pc) = 11 ∧ y = μ 116 (9000 * g + pc)) := by
  rcases h with h | h
  · rcases h with h | h | ⟨j, j0, j1, j2, j3, j4⟩
    · exact Or.inl (Or.inl (Or.inl h))
    · exact Or.inl (Or.inl (Or.inr (Or.inl (by rw [r] at h; exact h))))
    · by_cases e : j = pc
      · subst e; exact Or.inr ⟨j2, j4.symm⟩
      · exact Or.inl (Or.inl (Or.inr (Or.inr ⟨j, j0, by omega, j2, by rw [j3, r], j4⟩)))
  · exact Or.inl (Or.inr h)
theorem lU.into (t : tW μ g Γ N dn) {L : List Int} {pc b y T : Int} (r : Γ.2.2.2.1 (pc + 1) = Γ.2.2.2.1 pc) (s : μ 115 (9000 * g + pc) ≠ 11) (b0 : 0 ≤ b) (bN : b < N) (rb : Γ.2.2.2.1 b = T) (zb : Γ.2.2.2.2 b = b) (h : lU μ g dn Γ b ((pc + 1) :: L) y) : lU μ g dn Γ pc L y ∨ (μ 119 (16 * g + T) ≤ y ∧ y < μ 119 (16 * g + T) + μ 120 (16 * g + T)) := by
  rcases h with h | ⟨x, hx, h⟩
  · rcases h with h | h | ⟨j, j0, j1, j2, j3, j4⟩
    · exact Or.inl (Or.inl (Or.inl h))
    · rw [rb] at h; exact Or.inr h.2
    · exact (t.first j0 j1 bN j3 zb).elim
  · rcases List.mem_cons.mp hx with e | e
    · subst e
      rcases lU.on (L := L) r (Or.inl h) with z | z
      · exact Or.inl z
      · exact absurd z.1 s
    · exact Or.inl (Or.inr ⟨x, e, h⟩)
set_option maxHeartbeats 1000000 in
theorem c_lw_call {T lm lf mt : Int} (hS : lS μ0 μ O dp mt U) (z : μ 109 74 = 0) (hg : μ0 109 18 = g) (g01 : g = 0 ∨ g = 1) (T0 : 0 ≤ T ∧ T < 16) (e1 : μ0 120 (16 * g + T) = lm) (e2 : μ0 119 (16 * g + T) = lf) (lm0 : 0 ≤ lm ∧ lm ≤ 6) (lf0 : 0 ≤ lf ∧ lf + lm ≤ 3002) (hm : lm ≤ mt ∧ mt ≤ 9000) (dp0 : 0 ≤ dp ∧ dp < 20) (hU : ∀ y, U' y → U y ∨ (lf ≤ y ∧ y < lf + lm)) (hP : ∀ μ', (∀ j, μ' 159 j = μ 159 j) → lS μ0 μ' O (dp + 1) (mt - lm) U' → P 0 μ') : jj_mM_lowerCall X (d + 2) 0 (ab_la [109, T, dp]) [] μ P := by
  have hb := hS.b
  obtain ⟨w, Q⟩ := hS.q z
  have L1 : (ab_la [109, T, dp]) 1 = T := rfl
  have wt : ab_w (ab_w (16 * g) + T) = 16 * g + T := by rw [show ab_w (16 * g) = 16 * g from ab_wi (by omega) (by omega)]; exact ab_wi (by omega) (by omega)
  have o0 := hS.k
  have s90 : ∀ (l : ab_l) (μ1 : ab_m), l 0 = 109 → l 2 = dp → lB μ0 μ1 → μ1 109 78 = mt - lm → μ1 109 83 = O.length → (∀ j, μ1 159 j = μ 159 j) → (μ1 109 74 = 0 → ∃ w, lQ μ1 w O dp mt (-1) U') → jj_mM_lowerCall X (d + 2) 90 l [] μ1 P := by
    intro l μ1 l0 l2 b1 m1 k1 b9 q1
    refine bk_mM_lowerCall_90 l0 ?_
    rw [l2]
    refine c_lw_reg b1 fun r μ2 b2 f2 r2 g2 => ⟨by omega, fun μ3 e3 => ⟨by omega, fun μ4 e4 => ⟨by omega, ?_⟩⟩⟩
    have f3 : ∀ c j, c ≠ 158 → μ3 c j = μ2 c j := fun c j y => by rw [e3, mu_ne y]
    have f4 : ∀ c j, c ≠ 160 → μ4 c j = μ3 c j := fun c j y => by rw [e4, mu_ne y]
    have e158 : μ4 158 dp = r := by rw [f4 158 dp (by decide), e3, ab_mud, if_pos ⟨rfl, rfl⟩]
    rw [e158]
    refine c_lw_emit ((b2.mu e3 (by omega)).mu e4 (by omega)) fun r5 μ5 b5 f5 _ g5 => hP μ5 (fun j => by rw [f5 159 j (by omega) (by omega), f4 159 j (by decide), f3 159 j (by decide), f2 159 j (by omega)]; exact b9 j) ⟨b5, by rw [f5 109 78 (by omega) (by omega), f4 109 78 (by decide), f3 109 78 (by decide), f2 109 78 (by omega)]; exact m1, by rw [f5 109 83 (by omega) (by omega), f4 109 83 (by decide), f3 109 83 (by decide), f2 109 83 (by omega)]; exact k1, fun z5 => ?_⟩
    obtain ⟨z4, -, e5⟩ := g5 z5
    rw [f4 109 74 (by decide), f3 109 74 (by decide)] at z4
    obtain ⟨z1, lr⟩ := g2 z4
    obtain ⟨w1, Q1⟩ := q1 z1
    have Q2 : lQ μ2 w1 O dp (mt - lm) (-1) U' := Q1.fr (fun c i y1 y2 y3 => f2 c i (by omega)) (f2 109 69 (by omega)) r2 (by omega)
    have Q4 : lQ μ4 w1 O (dp + 1) (mt - lm) (-1) U' := Q2.call dp0.2 (fun c i y => by
      rw [e4, ab_mud, if_neg (by omega), e3, ab_mud, if_neg (by omega)]) (by rw [e158]; exact lr) (by rw [e4, ab_mud, if_pos ⟨rfl, rfl⟩])
    exact ⟨w1, Q4.em e5 (lI.of e5 (by omega) (fun y => absurd y (by decide)) (fun _ y => by omega) (fun _ => lr.le (by rw [f4 109 71 (by decide), f3 109 71 (by decide)]; exact Int.le_refl _)) (fun y => by omega) (fun y => by omega) (fun y => by omega) ⟨fun y => by omega, fun _ => by decide⟩)⟩
  have s28 : ∀ (n : Nat) (l : ab_l) (μ1 : ab_m) (i : Int), l 0 = 109 → l 1 = T → l 2 = dp → l 3 = lm → l 4 = i → 0 ≤ i → i ≤ lm → (lm - i).toNat = n → lB μ0 μ1 → μ1 109 78 = mt - lm → μ1 109 83 = O.length → (∀ j, μ1 159 j = μ 159 j) → (μ1 109 74 = 0 → ∃ w, lQ μ1 w O dp mt (-1) (fun y => U y ∨ (lf ≤ y ∧ y < lf + i))) → jj_mM_lowerCall X (d + 2) 28 l [] μ1 P := by
    intro n
    induction n with
    | zero =>
      intro l μ1 i l0 l1 l2 l3 l4 i0 i1 en b1 m1 k1 b9 q1
      have : i = lm := by omega
      subst this
      refine bk_mM_lowerCall_28 l0 ⟨fun _ => s90 l μ1 l0 l2 b1 m1 k1 b9 fun y => ?_, fun y => by rw [l3, l4] at y; omega⟩
      obtain ⟨w1, Q1⟩ := q1 y
      exact ⟨w1, Q1.sub hU⟩
    | succ n ih =>
      intro l μ1 i l0 l1 l2 l3 l4 i0 i1 en b1 m1 k1 b9 q1
      refine bk_mM_lowerCall_28 l0 ⟨fun y => by rw [l3, l4] at y; omega, fun _ => ⟨fun y => s90 l μ1 l0 l2 b1 m1 k1 b9 fun q => absurd q y, fun y => ?_⟩⟩
      rw [l1, l4]
      refine c_lw_reg b1 fun r μ2 b2 f2 r2 g2 => ?_
      have x18 : μ2 109 18 = g := by rw [b2.fr 109 18 (by omega) (by omega)]; exact hg
      rw [x18, wt, b2.fr 119 _ (by omega) (by omega), e2, show ab_w (lf + i) = lf + i from ab_wi (by omega) (by omega)]
      refine ⟨by omega, by omega, fun μ3 e3 => ?_⟩
      have f3 : ∀ c j, c ≠ 151 → μ3 c j = μ2 c j := fun c j y => by rw [e3, mu_ne y]
      have m3 : μ3 109 78 = mt - lm := by rw [f3 109 78 (by decide), f2 109 78 (by omega)]; exact m1
      rw [m3, show ab_w (mt - lm + i) = mt - lm + i from ab_wi (by omega) (by omega), show ab_w (i + 1) = i + 1 from ab_wi (by omega) (by omega)]
      refine c_lw_lay (b2.mu e3 (by omega)) (by omega) fun μ4 b4 f4 g4 => ih _ μ4 (i + 1) l0 l1 l2 l3 rfl (by omega) (by omega) (by omega) b4 (by rw [f4 109 78 (by omega) (by omega)]; exact m3) (by rw [f4 109 83 (by omega) (by omega), f3 109 83 (by decide), f2 109 83 (by omega)]; exact k1) (fun j => by rw [f4 159 j (by omega) (by omega), f3 159 j (by decide), f2 159 j (by omega)]; exact b9 j) fun z4 => ?_
      obtain ⟨z3, e4⟩ := g4 z4
      rw [f3 109 74 (by decide)] at z3
      obtain ⟨z1, lr⟩ := g2 z3
      obtain ⟨w1, Q1⟩ := q1 z1
      have Q2 : lQ μ2 w1 O dp mt (-1) (fun y => U y ∨ (lf ≤ y ∧ y < lf + i)) := Q1.fr (fun c i y1 y2 y3 => f2 c i (by omega)) (f2 109 69 (by omega)) r2 (Int.le_refl _)
      have Q3 := Q2.reg (U' := fun y => U y ∨ (lf ≤ y ∧ y < lf + (i + 1))) e3 lr fun y q => by
        rcases q with q | q
        · exact Or.inr (Or.inl q)
        · by_cases e : y = lf + i
          · exact Or.inl e
          · exact Or.inr (Or.inr (by omega))
      have o1 : lOp μ3 (mt - lm + i) := Q3.o _ (by omega) (by omega)
      have lr3 : lR μ3 r := lr.le (by rw [f3 109 71 (by decide)]; exact Int.le_refl _)
      refine ⟨w1, Q3.em e4 ?_⟩
      by_cases q : μ3 152 (mt - lm + i) = 0
      · rw [if_pos q] at e4
        exact lI.of e4 (by omega) (fun y _ => o1.r y) (fun _ y => by omega) (fun _ => lr3) (fun y => by omega) (fun y => by omega) (fun y => by omega) ⟨fun _ => by rw [q]; rfl, fun y => by omega⟩
      · rw [if_neg q] at e4
        exact lI.of e4 (by omega) (fun y _ => o1.r y) (fun _ y => by omega) (fun _ => lr3) (fun y => by omega) (fun y => by omega) (fun y => by omega) ⟨fun y => by omega, fun _ y => q (o1.elim (fun p => p.1) fun p => by rw [p] at y; exact absurd y (by decide))⟩
  refine bk_mM_lowerCall_0 rfl ?_
  rw [L1, hb.fr 109 18 (by omega) (by omega), hg, wt, hb.fr 120 _ (by omega) (by omega), e1, hS.n8, show ab_w (mt - lm) = mt - lm from ab_wi (by omega) (by omega)]
  refine ⟨by omega, fun μ1 ee => ?_⟩
  have f1 : ∀ c j, ¬ (c = 109 ∧ j = 78) → μ1 c j = μ c j := fun c j y => by rw [ee, ab_mud, if_neg y]
  refine s28 _ _ μ1 0 rfl rfl rfl rfl rfl (by omega) (by omega) rfl (hb.mu ee (by omega)) (by rw [ee, ab_mud, if_pos ⟨rfl, rfl⟩]) (by rw [f1 109 83 (by omega)]; exact o0) (fun j => f1 159 j (by omega)) fun _ => ⟨w, (Q.fr (fun c i y1 y2 y3 => f1 c i (by omega)) (f1 109 69 (by omega)) (by rw [f1 109 71 (by omega)]; exact Int.le_refl _) (Int.le_refl _)).sub fun y q => q.elim id fun q => by omega⟩
end M83

