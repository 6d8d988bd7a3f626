/-! THE REFERENCE, part 81: lowerValue -/
section M81
variable {X : jm_X} {d : Nat} {P : Int → ab_m → Prop} {μ0 μ : ab_m} {dp : Int} {U : Int → Prop}
set_option maxHeartbeats 1000000 in
theorem c_lw_value {k t or h h' v : Int} {s s' R : List Int} (hS : lS μ0 μ (s ++ R) dp (v + h) U) (z : μ 109 74 = 0) (k8 : 1 ≤ k ∧ k ≤ 8) (mv : tMv k 0 h s = some (h', s')) (v0 : 0 ≤ v) (h0 : 0 ≤ h) (top : v + h < 9000) (opn : ((s ++ R).length : Int) < 3010) (t2 : k = 2 → (0 ≤ t ∧ t < 3002) ∧ U t) (t3 : k = 3 → 0 ≤ t ∧ t < 8) (t4 : k = 4 → 18 ≤ t ∧ t ≤ 20) (t5 : k = 5 → 2 ≤ t ∧ t ≤ 17) (hP : ∀ μ', lS μ0 μ' (s' ++ R) dp (v + h') U → P 0 μ') : jj_mM_lowerValue X (d + 1) 0 (ab_la [109, k, t, or]) [] μ P := by
  have hb := hS.b
  have hm := hS.n8
  have hk := hS.k
  obtain ⟨w, Q⟩ := hS.q z
  have u := tMv_v mv
  obtain ⟨s6, s7, s8, -, -, -, -, -, -, -, -, -, -, ss⟩ := tMv_s mv
  have L1 : (ab_la [109, k, t, or]) 1 = k := rfl
  have L2 : (ab_la [109, k, t, or]) 2 = t := rfl
  have L3 : (ab_la [109, k, t, or]) 3 = or := rfl
  have n0 := hb.n
  -- an operation on the operand or the two operands on top
  have opr : ∀ (kk a ia b ib : Int) (μ1 : ab_m) (mm : Int), 2 ≤ kk → kk ≤ 21 → s' = s → v + h' = mm + 1 → 0 ≤ mm → mm < 9000 → mm ≤ v + h → μ1 = ab_mu μ 109 78 mm → (ia % 2 = 0 → lR μ a) → (ib % 2 = 0 → kk ≤ 17 → lR μ b) → (kk = 21 → 0 ≤ b ∧ b < 8) → ∀ (r : Int) (μ2 : ab_m), lB μ0 μ2 → (∀ c j, ¬ (c = 109 ∧ (j = 71 ∨ j = 74)) → μ2 c j = μ1 c j) → μ1 109 71 ≤ μ2 109 71 → (μ2 109 74 = 0 → μ1 109 74 = 0 ∧ lR μ2 r) → jj_mM_emit X d 0 (ab_la [109, kk, r, a, ia, b, ib]) [] μ2 (fun _ μ3 => jj_mM_giveOperand X d 0 (ab_la [109, r, 0]) [] μ3 (fun _ μ4 => P 0 μ4)) := by
    intro kk a ia b ib μ1 mm kk2 kk21 es eh m0 m9 mle e1 ha hbb h21 r μ2 b2 f2 r2 g2
    have f1 : ∀ c j, ¬ (c = 109 ∧ j = 78) → μ1 c j = μ c j := fun c j y => by rw [e1, ab_mud, if_neg y]
    have m1 : μ1 109 78 = mm := by rw [e1, ab_mud, if_pos ⟨rfl, rfl⟩]
    have m2 : μ2 109 78 = mm := by rw [f2 109 78 (by omega)]; exact m1
    refine c_lw_emit b2 fun r3 μ3 b3 f3 _ g3 => ?_
    have m3 : μ3 109 78 = mm := by rw [f3 109 78 (by omega) (by omega)]; exact m2
    refine c_mM_giveOperand (by omega) fun μ4 p4 => hP μ4 ⟨b3.op p4, by rw [p4.2.1, m3]; exact eh.symm, ?_, fun z4 => ?_⟩
    · rw [p4.1 109 83 (by omega) (by omega), f3 109 83 (by omega) (by omega), f2 109 83 (by omega), f1 109 83 (by omega), hk, es]
    · rw [p4.1 109 74 (by omega) (by omega)] at z4
      obtain ⟨z2, -, e3⟩ := g3 z4
      obtain ⟨-, lr⟩ := g2 z2
      have r1 : μ1 109 71 = μ 109 71 := f1 109 71 (by omega)
      have Q2 : lQ μ2 w (s ++ R) dp mm (-1) U := Q.fr (fun c i y1 y2 y3 => by rw [f2 c i (by omega), f1 c i (by omega)]) (by rw [f2 109 69 (by omega), f1 109 69 (by omega)]) (by omega) mle
      have Q3 := Q2.em e3 (lI.of e3 (by omega) (fun y _ => (ha y).le (by omega)) (fun y y2 => (hbb y (by omega)).le (by omega)) (fun _ => lr) (fun y => by omega) h21 (fun y => by omega) ⟨fun y => by omega, fun y => by omega⟩)
      have Q4 := Q3.push p4 m3 (fun _ => lr.le (by rw [f3 109 71 (by omega) (by omega)]; exact Int.le_refl _))
      rw [es, eh]
      exact ⟨w, Q4⟩
  have Wd : ab_w (v + h - 1) = v + h - 1 := ab_wi (by omega) (by omega)
  have Wd2 : ab_w (v + h - 2) = v + h - 2 := ab_wi (by omega) (by omega)
  refine bk_mM_lowerValue_0 rfl ?_
  rw [L1, L2, L3, hm, Wd, Wd2]
  refine ⟨⟨fun e => ?_, fun e => ?_, fun e => ?_, fun e => ?_, fun e => ?_, fun e => ?_, fun e => ?_, trivial⟩, fun e => ?_⟩
  · -- NUMBER
    have es := ss (by omega)
    have eh := u.2.1 (Or.inl e)
    refine c_mM_giveOperand (by omega) fun μ1 p1 => hP μ1 ⟨hb.op p1, by rw [p1.2.1, hm, eh]; omega, by rw [p1.1 109 83 (by omega) (by omega), hk, es], fun _ => ⟨w, ?_⟩⟩
    have Q1 := Q.push p1 hm (fun y => absurd y (by decide))
    rw [es, eh, show v + (h + 1) = v + h + 1 by omega]
    exact Q1
  · -- INT
    have es := ss (by omega)
    have eh := u.2.1 (Or.inr e)
    obtain ⟨t2a, t2b⟩ := t2 e
    refine c_lw_reg hb fun r μ1 b1 f1 r1 g1 => ⟨t2a, c_lw_emit b1 fun r2 μ2 b2 f2 _ g2 => ?_⟩
    have m1 : μ1 109 78 = v + h := by rw [f1 109 78 (by omega)]; exact hm
    have m2 : μ2 109 78 = v + h := by rw [f2 109 78 (by omega) (by omega)]; exact m1
    refine c_mM_giveOperand (by omega) fun μ3 p3 => hP μ3 ⟨b2.op p3, by rw [p3.2.1, m2, eh]; omega, by rw [p3.1 109 83 (by omega) (by omega), f2 109 83 (by omega) (by omega), f1 109 83 (by omega), hk, es], fun z3 => ?_⟩
    rw [p3.1 109 74 (by omega) (by omega)] at z3
    obtain ⟨z1, -, e2⟩ := g2 z3
    obtain ⟨-, lr⟩ := g1 z1
    have Q1 : lQ μ1 w (s ++ R) dp (v + h) (-1) U := Q.fr (fun c i y1 y2 y3 => f1 c i (by omega)) (f1 109 69 (by omega)) r1 (Int.le_refl _)
    have Q2 := Q1.em e2 (lI.of e2 (by omega) (fun _ _ => Q1.u t t2b) (fun _ y => by omega) (fun _ => lr) (fun y => by omega) (fun y => by omega) (fun y => by omega) ⟨fun _ => rfl, fun y => by omega⟩)
    have Q3 := Q2.push p3 m2 (fun _ => lr.le (by rw [f2 109 71 (by omega) (by omega)]; exact Int.le_refl _))
    rw [es, eh, show v + (h + 1) = v + h + 1 by omega]
    exact ⟨w, Q3⟩
  · -- CELL
    have uh := u.2.2.1 (by omega)
    intro μ1 e1
    refine c_lw_reg (hb.mu e1 (by omega)) fun r μ2 b2 f2 r2 g2 => ?_
    have f1 : ∀ c j, ¬ (c = 109 ∧ j = 78) → μ1 c j = μ c j := fun c j y => by rw [e1, ab_mud, if_neg y]
    have m2 : μ2 109 78 = v + h - 1 := by rw [f2 109 78 (by omega), e1, ab_mud, if_pos ⟨rfl, rfl⟩]
    rw [m2, f2 153 _ (by omega), f2 152 _ (by omega), f1 153 _ (by omega), f1 152 _ (by omega)]
    exact ⟨by omega, by omega, opr 21 _ _ _ _ μ1 (v + h - 1) (by omega) (by omega) (ss (by omega)) (by omega) (by omega) (by omega) (by omega) e1 (fun y => (Q.o (v + h - 1) (by omega) (by omega)).r y) (fun _ y => by omega) (fun _ => t3 e) r μ2 b2 f2 r2 g2⟩
  · -- ONE
    have uh := u.2.2.1 (by omega)
    have tt := t4 e
    intro μ1 e1
    refine c_lw_reg (hb.mu e1 (by omega)) fun r μ2 b2 f2 r2 g2 => ?_
    have f1 : ∀ c j, ¬ (c = 109 ∧ j = 78) → μ1 c j = μ c j := fun c j y => by rw [e1, ab_mud, if_neg y]
    have m2 : μ2 109 78 = v + h - 1 := by rw [f2 109 78 (by omega), e1, ab_mud, if_pos ⟨rfl, rfl⟩]
    rw [m2, f2 153 _ (by omega), f2 152 _ (by omega), f1 153 _ (by omega), f1 152 _ (by omega)]
    exact ⟨by omega, by omega, opr t _ _ _ _ μ1 (v + h - 1) (by omega) (by omega) (ss (by omega)) (by omega) (by omega) (by omega) (by omega) e1 (fun y => (Q.o (v + h - 1) (by omega) (by omega)).r y) (fun _ y => by omega) (fun y => by omega) r μ2 b2 f2 r2 g2⟩
  · -- TWO
    have uh := u.2.2.2.1 (by omega)
    have uh2 := u.2.2.2.2.1 (by omega)
    have tt := t5 e
    intro μ1 e1
    refine c_lw_reg (hb.mu e1 (by omega)) fun r μ2 b2 f2 r2 g2 => ?_
    have f1 : ∀ c j, ¬ (c = 109 ∧ j = 78) → μ1 c j = μ c j := fun c j y => by rw [e1, ab_mud, if_neg y]
    have m2 : μ2 109 78 = v + h - 2 := by rw [f2 109 78 (by omega), e1, ab_mud, if_pos ⟨rfl, rfl⟩]
    rw [m2, show ab_w (v + h - 2 + 1) = v + h - 2 + 1 from ab_wi (by omega) (by omega)]
    rw [f2 153 _ (by omega), f2 152 _ (by omega), f1 153 _ (by omega), f1 152 _ (by omega), f2 153 _ (by omega), f2 152 _ (by omega), f1 153 _ (by omega), f1 152 _ (by omega)]
    exact ⟨by omega, by omega, by omega, by omega, opr t _ _ _ _ μ1 (v + h - 2) (by omega) (by omega) (ss (by omega)) (by omega) (by omega) (by omega) (by omega) e1 (fun y => (Q.o (v + h - 2) (by omega) (by omega)).r y) (fun y _ => (Q.o (v + h - 2 + 1) (by omega) (by omega)).r y) (fun y => by omega) r μ2 b2 f2 r2 g2⟩
  · -- BEGIN
    have es := s6 e
    have eh := u.2.2.2.2.2.1 (by omega)
    refine c_lw_reg hb fun r μ1 b1 f1 r1 g1 => ?_
    have go : ∀ (c : Int) (l : ab_l), l 0 = 109 → l 4 = r → jj_mM_lowerValue X (d + 1) 292 l [(0, c), (0, r), (0, 0), (2, 109)] μ1 P := by
      intro c l l0 l4
      refine bk_mM_lowerValue_292 l0 ?_
      rw [l4]
      refine c_lw_emit b1 fun r2 μ2 b2 f2 _ g2 => ?_
      have k2 : μ2 109 83 = ((s ++ R).length : Int) := by rw [f2 109 83 (by omega) (by omega), f1 109 83 (by omega)]; exact hk
      refine c_mM_openUp (by omega) fun μ3 p3 => hP μ3 ⟨b2.ou p3, by rw [p3.1 109 78 (by omega) (by omega), f2 109 78 (by omega) (by omega), f1 109 78 (by omega), hm, eh], by rw [p3.2.1, k2, es]; simp, fun z3 => ?_⟩
      rw [p3.1 109 74 (by omega) (by omega)] at z3
      obtain ⟨z1, -, e2⟩ := g2 z3
      obtain ⟨-, lr⟩ := g1 z1
      have Q1 : lQ μ1 w (s ++ R) dp (v + h) (-1) U := Q.fr (fun c i y1 y2 y3 => f1 c i (by omega)) (f1 109 69 (by omega)) r1 (Int.le_refl _)
      have Q2 := Q1.em e2 (lI.of e2 (by omega) (fun y => absurd y (by decide)) (fun _ y => by omega) (fun _ => lr) (fun y => by omega) (fun y => by omega) (fun y => by omega) ⟨fun y => by omega, fun _ => by decide⟩)
      have Q3 := Q2.opnn (a := 1) p3 k2 opn (Or.inl ⟨rfl, rfl, lr.le (by rw [f2 109 71 (by omega) (by omega)]; exact Int.le_refl _)⟩)
      rw [es, eh]
      exact ⟨w, Q3⟩
    exact ⟨fun y => by rw [y] at *; exact go 0 _ rfl rfl, fun y => go 1 _ rfl rfl⟩
  · -- MID
    obtain ⟨r, er, es⟩ := s7 e
    have uh := u.2.2.2.1 (by omega)
    intro μ1 e1
    have f1 : ∀ c j, ¬ (c = 109 ∧ j = 78) → μ1 c j = μ c j := fun c j y => by rw [e1, ab_mud, if_neg y]
    have m1 : μ1 109 78 = v + h - 1 := by rw [e1, ab_mud, if_pos ⟨rfl, rfl⟩]
    have lr : ((s ++ R).length : Int) = (r ++ R).length + 1 := by rw [er]; simp
    have kk : ab_w (μ1 109 83 - 1) = (r ++ R).length := by rw [f1 109 83 (by omega), hk, lr, ab_wi (by omega) (by omega)]; omega
    rw [kk]
    have go : ∀ (c : Int) (l : ab_l), l 0 = 109 → (c = 26 ∨ c = 27) → jj_mM_lowerValue X (d + 1) 344 l [(0, c), (2, 109), (0, ((r ++ R).length : Int)), (2, 156)] μ1 P := by
      intro c l l0 c67
      refine bk_mM_lowerValue_344 l0 ?_
      rw [m1, f1 153 _ (by omega), f1 152 _ (by omega)]
      refine ⟨by omega, by omega, c_lw_emit (hb.mu e1 (by omega)) fun r2 μ2 b2 f2 rb g2 => ⟨by omega, fun μ3 e3 => ?_⟩⟩
      have f3 : ∀ c j, c ≠ 156 → μ3 c j = μ2 c j := fun c j y => by rw [e3, mu_ne y]
      refine hP μ3 ⟨b2.mu e3 (by omega), by rw [f3 109 78 (by decide), f2 109 78 (by omega) (by omega), m1]; omega, by rw [f3 109 83 (by decide), f2 109 83 (by omega) (by omega), f1 109 83 (by omega), hk, lr, es]; simp, fun z3 => ?_⟩
      rw [f3 109 74 (by decide)] at z3
      obtain ⟨z1, er2, e2⟩ := g2 z3
      have Q1 : lQ μ1 w (s ++ R) dp (v + h - 1) (-1) U := Q.fr (fun c i y1 y2 y3 => f1 c i (by omega)) (f1 109 69 (by omega)) (by rw [f1 109 71 (by omega)]; exact Int.le_refl _) (by omega)
      have n1 : μ1 109 69 = μ 109 69 := f1 109 69 (by omega)
      have Q2 := Q1.emP e2 (by omega) (lI.of e2 (by omega) (fun y _ => ((Q.o (v + h - 1) (by omega) (by omega)).r y).le (by rw [f1 109 71 (by omega)]; exact Int.le_refl _)) (fun _ y => by omega) (fun y => by omega) (fun _ => Or.inl (by decide)) (fun y => by omega) (fun y => by omega) ⟨fun y => by omega, fun y => by omega⟩) (by omega)
      rw [er, List.cons_append] at Q2
      rw [← er2] at Q2
      obtain ⟨w3, Q3⟩ := Q2.mid rb.1 (Or.inl rfl) e3
      rw [es, show v + h' = v + h - 1 by omega]
      exact ⟨w3, Q3⟩
    exact ⟨fun _ => go 26 _ rfl (Or.inl rfl), fun _ => go 27 _ rfl (Or.inr rfl)⟩
  · -- END
    have e : k = 8 := by omega
    obtain ⟨r, er, es⟩ := s8 e
    have uh := u.2.2.1 (by omega)
    intro μ1 e1 μ2 e2
    have f1 : ∀ c j, ¬ (c = 109 ∧ j = 78) → μ1 c j = μ c j := fun c j y => by rw [e1, ab_mud, if_neg y]
    have m1 : μ1 109 78 = v + h - 1 := by rw [e1, ab_mud, if_pos ⟨rfl, rfl⟩]
    have lr : ((s ++ R).length : Int) = (r ++ R).length + 1 := by rw [er]; simp
    have kk : ab_w (μ1 109 83 - 1) = (r ++ R).length := by rw [f1 109 83 (by omega), hk, lr, ab_wi (by omega) (by omega)]; omega
    rw [kk] at e2
    have f2 : ∀ c j, ¬ (c = 109 ∧ j = 83) → μ2 c j = μ1 c j := fun c j y => by rw [e2, ab_mud, if_neg y]
    have k2 : μ2 109 83 = (r ++ R).length := by rw [e2, ab_mud, if_pos ⟨rfl, rfl⟩]
    have m2 : μ2 109 78 = v + h - 1 := by rw [f2 109 78 (by omega)]; exact m1
    have g2 : ∀ c j, c ≠ 109 → μ2 c j = μ c j := fun c j y => by rw [f2 c j (by omega), f1 c j (by omega)]
    have Q' := Q
    rw [er, List.cons_append] at Q'
    have ent := Q'.e _ _ lAt_top
    obtain ⟨q1, q2, q3, q4⟩ := ent.g2
    have bB := (Q'.j.ow (μ 156 (r ++ R).length) (by have := (q3 (μ 156 (r ++ R).length)).mpr rfl; omega)).1
    rw [k2, m2, g2 153 _ (by decide), g2 152 _ (by decide), g2 155 _ (by decide)]
    refine ⟨by omega, by omega, by omega, c_lw_emit ((hb.mu e1 (by omega)).mu e2 (by omega)) fun r3 μ3 b3 f3 _ g3 => ?_⟩
    have k3 : μ3 109 83 = (r ++ R).length := by rw [f3 109 83 (by omega) (by omega)]; exact k2
    have g3' : ∀ c j, 151 ≤ c → μ3 c j = μ c j := fun c j y => by rw [f3 c j (by omega) (by omega), g2 c j (by omega)]
    rw [k3, g3' 156 _ (by decide)]
    refine ⟨by omega, by omega, fun μ4 e4 => ?_⟩
    have f4 : ∀ c j, c ≠ 146 → μ4 c j = μ3 c j := fun c j y => by rw [e4, mu_ne y]
    rw [f4 109 83 (by decide), k3, f4 155 _ (by decide), g3' 155 _ (by decide)]
    have m4 : μ4 109 78 = v + h - 1 := by rw [f4 109 78 (by decide), f3 109 78 (by omega) (by omega)]; exact m2
    refine ⟨by omega, c_mM_giveOperand (by omega) fun μ5 p5 => hP μ5 ⟨(b3.mu e4 (by omega)).op p5, by rw [p5.2.1, m4]; omega, by rw [p5.1 109 83 (by omega) (by omega), f4 109 83 (by decide), k3, es], fun z5 => ?_⟩⟩
    rw [p5.1 109 74 (by omega) (by omega), f4 109 74 (by decide)] at z5
    obtain ⟨z2, -, e3⟩ := g3 z5
    have r2 : μ2 109 71 = μ 109 71 := by rw [f2 109 71 (by omega), f1 109 71 (by omega)]
    have r3 : μ3 109 71 = μ2 109 71 := f3 109 71 (by omega) (by omega)
    have Q2 : lQ μ2 w (2 :: (r ++ R)) dp (v + h - 1) (-1) U := Q'.fr (fun c i y1 y2 y3 => g2 c i (by omega)) (by rw [f2 109 69 (by omega), f1 109 69 (by omega)]) (by omega) (by omega)
    have Q3 := Q2.em e3 (lI.of e3 (by omega) (fun y _ => ((Q.o (v + h - 1) (by omega) (by omega)).r y).le (by omega)) (fun y => absurd y (by decide)) (fun _ => q2.le (by omega)) (fun y => by omega) (fun y => by omega) (fun y => by omega) ⟨fun y => by omega, fun y => by omega⟩)
    obtain ⟨w4, Q4⟩ := Q3.shut (μ' := μ4) (Or.inl ⟨rfl, rfl⟩) (by rw [g3' 156 _ (by decide)]; exact e4)
    have Q5 := Q4.push p5 m4 (fun _ => q2.le (by rw [f4 109 71 (by decide)]; omega))
    rw [es, show v + h' = v + h - 1 + 1 by omega]
    exact ⟨w4, Q5⟩
end M81

