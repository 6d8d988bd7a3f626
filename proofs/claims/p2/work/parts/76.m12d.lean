/-! THE REFERENCE, part 82: lowerStep -/
section M82
variable {X : jm_X} {d : Nat} {P : Int → ab_m → Prop} {μ0 μ μ' : ab_m} {dp m x o y : Int} {U U' : Int → Prop} {w : Int → Int} {O : List Int}
theorem lQ.sub (h : lQ μ w O dp m x U) (e : ∀ y, U' y → U y) : lQ μ w O dp m x U' := ⟨h.j, h.b, h.o, h.e, h.f, fun y z => h.u y (e y z)⟩
theorem lB.c146 (h : lB μ0 μ) (f : ∀ c j, c ≠ 146 → μ' c j = μ c j) : lB μ0 μ' := ⟨fun b i z1 z2 => by rw [f b i (by omega)]; exact h.fr b i z1 z2, by rw [f 109 69 (by omega)]; exact h.n, by rw [f 109 71 (by omega)]; exact h.r⟩
theorem c_lw_land (hC : μ 109 74 = 0 → lC μ w o y) (hP : ∀ μ', (∀ c j, c ≠ 146 → μ' c j = μ c j) → (μ 109 74 = 0 → ∃ L, (∀ i, w i = o ↔ i ∈ L) ∧ lLc μ μ' L) → P 0 μ') : jj_mM_landChain X d 0 (ab_la [109, y]) [] μ P := by
  by_cases z : μ 109 74 = 0
  · obtain ⟨L, l1, l2⟩ := hC z
    exact c_mM_landChain (L := L) (fun _ => l1) (fun q => absurd z q) fun _ μ' f g => hP μ' (fun c j q => f c j (fun p => q p.1)) fun _ => ⟨L, l2, f, g⟩
  · exact c_mM_landChain (L := []) (fun q => absurd q z) (fun _ => hP μ (fun _ _ _ => rfl) fun q => absurd q z) fun q => absurd q z
theorem lAt.ex : ∀ {O : List Int} {j : Int}, 0 ≤ j → j < (O.length : Int) → ∃ b, lAt O j b
  | [], j, a, b => by simp at b; omega
  | e :: r, j, a, b => by
    have l := lcs (a := e) (r := r)
    by_cases z : j = r.length
    · exact ⟨e, Or.inl ⟨z, rfl⟩⟩
    · obtain ⟨b', h⟩ := lAt.ex (O := r) (j := j) a (by omega)
      exact ⟨b', Or.inr h⟩
theorem lE.v {j a : Int} (h : lE μ w j a) : (1 ≤ a ∧ a ≤ 7) ∧ (a = 1 ∨ a = 2 ∨ a = 7 → μ 154 j ≠ 19 ∧ μ 154 j ≠ 21) ∧ (a = 3 ∨ a = 4 → μ 154 j = 19) ∧ (a = 5 ∨ a = 6 → μ 154 j = 21) := by
  rcases h.2 with q | q | q | q | q | q | q <;> (have q1 := q.1; have q2 := q.2.1; clear q h; omega)
/-- the innermost loop -/
theorem lLoop {R : List Int} : ∀ {s : List Int}, 4 ∈ s ∨ 5 ∈ s → ¬ 6 ∈ s → (∀ j b, lAt (s ++ R) j b → 1 ≤ b ∧ b ≤ 7) → ∃ q a, lAt (s ++ R) q a ∧ (a = 3 ∨ a = 4 ∨ a = 5) ∧ ∀ j b, q < j → lAt (s ++ R) j b → b = 1 ∨ b = 2 ∨ b = 7
  | [], h, _, _ => by rcases h with h | h <;> exact absurd h List.not_mem_nil
  | e :: r, h, n, v => by
    have ve := v _ _ (show lAt ((e :: r) ++ R) (r ++ R).length e from Or.inl ⟨rfl, rfl⟩)
    by_cases c : e = 3 ∨ e = 4 ∨ e = 5
    · refine ⟨((r ++ R).length : Int), e, Or.inl ⟨rfl, rfl⟩, c, fun j b z1 z2 => ?_⟩
      have := z2.lt
      have l := lcs (a := e) (r := r ++ R)
      have : (((e :: r) ++ R).length : Int) = (r ++ R).length + 1 := l
      omega
    · have n6 : e ≠ 6 := fun z => n (by rw [z]; exact List.mem_cons_self ..)
      have h' : 4 ∈ r ∨ 5 ∈ r := by
        rcases h with h | h
        · rcases List.mem_cons.mp h with z | z
          · omega
          · exact Or.inl z
        · rcases List.mem_cons.mp h with z | z
          · omega
          · exact Or.inr z
      obtain ⟨q, a, q1, q2, q3⟩ := lLoop h' (fun z => n (List.mem_cons_of_mem _ z)) fun j b z => v j b (Or.inr z)
      refine ⟨q, a, Or.inr q1, q2, fun j b z1 z2 => ?_⟩
      rcases z2 with ⟨z2, z3⟩ | z2
      · omega
      · exact q3 j b z1 z2
set_option maxHeartbeats 2000000 in
theorem c_lw_step {k t h h' v : Int} {s s' R : List Int} (hS : lS μ0 μ (s ++ R) dp (v + h) U) (z : μ 109 74 = 0) (k28 : 10 ≤ k ∧ k ≤ 28 ∧ k ≠ 26) (mv : tMv k 0 h s = some (h', s')) (v0 : 0 ≤ v) (h0 : 0 ≤ h) (top : v + h < 9000) (opn : ((s ++ R).length : Int) < 3010) (t11 : k = 11 ∨ k = 12 ∨ k = 28 → 0 ≤ t ∧ t < 3002) (tU : k = 12 ∨ k = 28 → U t) (t13 : k = 13 → 0 ≤ t ∧ t < 8) (hP : ∀ μ', lS μ0 μ' (s' ++ R) dp (v + h') (fun y => U y ∨ (k = 11 ∧ y = t)) → P 0 μ') : jj_mM_lowerStep X (d + 2) 0 (ab_la [109, k, t]) [] μ P := by
  have hb := hS.b
  have hm := hS.n8
  have hk := hS.k
  obtain ⟨w, Q⟩ := hS.q z
  have u := tMv_v mv
  obtain ⟨-, -, -, s15, s16, s17, s18, s19, s20, s21, s22, s23, s24, ss⟩ := tMv_s mv
  have L1 : (ab_la [109, k, t]) 1 = k := rfl
  have L2 : (ab_la [109, k, t]) 2 = t := rfl
  have n0 := hb.n
  have len0 : 0 ≤ ((s ++ R).length : Int) := by omega
  have fin : k ≠ 11 → ∀ (l : ab_l) (μ' : ab_m), l 0 = 109 → lB μ0 μ' → μ' 109 78 = v + h' → μ' 109 83 = ((s' ++ R).length : Int) → (μ' 109 74 = 0 → ∃ w, lQ μ' w (s' ++ R) dp (v + h') (-1) U) → jj_mM_lowerStep X (d + 2) 738 l [] μ' P := fun n11 l μ' l0 b1 m1 k1 q1 => bk_mM_lowerStep_738 l0 (hP μ' ⟨b1, m1, k1, fun y => by
    obtain ⟨w', Q'⟩ := q1 y
    exact ⟨w', Q'.sub fun y z => z.resolve_right fun q => n11 q.1⟩⟩)
  have Wd : ab_w (v + h - 1) = v + h - 1 := ab_wi (by omega) (by omega)
  have Wd2 : ab_w (v + h - 2) = v + h - 2 := ab_wi (by omega) (by omega)
  have Wk : ab_w (((s ++ R).length : Int) - 1) = (s ++ R).length - 1 := ab_wi (by omega) (by omega)
  have pop : ∀ {μ1 : ab_m} {mm : Int}, μ1 = ab_mu μ 109 78 mm → mm ≤ v + h → (∀ c j, ¬ (c = 109 ∧ j = 78) → μ1 c j = μ c j) ∧ μ1 109 78 = mm ∧ lQ μ1 w (s ++ R) dp mm (-1) U ∧ μ1 109 71 = μ 109 71 ∧ μ1 109 69 = μ 109 69 ∧ μ1 109 83 = (s ++ R).length := fun {μ1 mm} e1 le => by
    have f1 : ∀ c j, ¬ (c = 109 ∧ j = 78) → μ1 c j = μ c j := fun c j y => by rw [e1, ab_mud, if_neg y]
    have r1 := f1 109 71 (by omega)
    exact ⟨f1, by rw [e1, ab_mud, if_pos ⟨rfl, rfl⟩], Q.fr (fun c i y1 y2 y3 => f1 c i (by omega)) (f1 109 69 (by omega)) (by omega) le, r1, f1 109 69 (by omega), by rw [f1 109 83 (by omega)]; exact hk⟩
  have tl : ∀ {a : Int} {r : List Int}, s = a :: r → ((s ++ R).length : Int) - 1 = (r ++ R).length ∧ s ++ R = a :: (r ++ R) := fun {a r} e => by rw [e]; exact ⟨by simp, rfl⟩
  refine bk_mM_lowerStep_0 rfl ?_
  rw [L1, L2, hm, hk, Wd, Wd2, Wk]
  refine ⟨⟨fun e => ?_, fun e => ?_, fun e => ?_, fun e => ?_, fun e => ?_, fun e => ?_, fun e => ?_, fun e => ?_, fun e => ?_, fun e => ?_, fun e => ?_, fun e => ?_, fun e => ?_, fun e => ?_, fun e => ?_, fun e => ?_, fun e => ?_, fun e => ?_, fun e => ?_, trivial⟩, fun e => ?_⟩
  · -- 10 DROP
    intro μ1 e1
    have uh := u.2.2.2.1 (by omega)
    obtain ⟨f1, m1, Q1, -, -, k1⟩ := pop e1 (by omega)
    exact fin (by omega) _ μ1 rfl (hb.mu e1 (by omega)) (by omega) (by rw [k1, ss (by omega)]) fun _ => ⟨w, by rw [ss (by omega), show v + h' = v + h - 1 by omega]; exact Q1⟩
  · -- 11 NEW
    have uh := u.2.2.2.2.2.1 (by omega)
    have tt := t11 (by omega)
    refine c_lw_reg hb fun r μ1 b1 f1 r1 g1 => ⟨tt, fun μ2 e2 => ?_⟩
    have e2t : μ2 151 t = r := by rw [e2, ab_mud, if_pos ⟨rfl, rfl⟩]
    have f2 : ∀ c j, c ≠ 151 → μ2 c j = μ1 c j := fun c j y => by rw [e2, mu_ne y]
    rw [e2t]
    refine ⟨tt, c_lw_emit (b1.mu e2 (by omega)) fun r3 μ3 b3 f3 _ g3 => ?_⟩
    refine bk_mM_lowerStep_738 rfl (hP μ3 ⟨b3, by rw [f3 109 78 (by omega) (by omega), f2 109 78 (by decide), f1 109 78 (by omega), hm]; omega, by rw [f3 109 83 (by omega) (by omega), f2 109 83 (by decide), f1 109 83 (by omega), hk, ss (by omega)], fun z3 => ?_⟩)
    obtain ⟨z2, -, e3⟩ := g3 z3
    rw [f2 109 74 (by decide)] at z2
    obtain ⟨-, lr⟩ := g1 z2
    have Q1 : lQ μ1 w (s ++ R) dp (v + h) (-1) U := Q.fr (fun c i y1 y2 y3 => f1 c i (by omega)) (f1 109 69 (by omega)) r1 (Int.le_refl _)
    have Q2 := Q1.reg (U' := fun y => U y ∨ (k = 11 ∧ y = t)) e2 lr fun y q => q.elim Or.inr fun q => Or.inl q.2
    have Q3 := Q2.em e3 (lI.of e3 (by omega) (fun y => absurd y (by decide)) (fun _ y => by omega) (fun _ => lr.le (by rw [f2 109 71 (by decide)]; exact Int.le_refl _)) (fun y => by omega) (fun y => by omega) (fun y => by omega) ⟨fun y => by omega, fun _ => by decide⟩)
    rw [ss (by omega), show v + h' = v + h by omega]
    exact ⟨w, Q3⟩
  · -- 12 LET
    intro μ1 e1
    have uh := u.2.2.2.1 (by omega)
    obtain ⟨f1, m1, Q1, r1, n1, k1⟩ := pop e1 (by omega)
    rw [m1]
    refine ⟨t11 (by omega), c_lw_lay (hb.mu e1 (by omega)) (by omega) fun μ2 b2 f2 g2 => fin (by omega) _ μ2 rfl b2 (by rw [f2 109 78 (by omega) (by omega), m1]; omega) (by rw [f2 109 83 (by omega) (by omega), k1, ss (by omega)]) fun z2 => ?_⟩
    obtain ⟨-, e2⟩ := g2 z2
    have o1 : lOp μ1 (v + h - 1) := (Q.o (v + h - 1) (by omega) (by omega)).le (by omega) (f1 152 _ (by omega)) (f1 153 _ (by omega))
    have lt := Q1.u t (tU (by omega))
    rw [ss (by omega), show v + h' = v + h - 1 by omega]
    refine ⟨w, Q1.em e2 ?_⟩
    by_cases q : μ1 152 (v + h - 1) = 0
    · rw [if_pos q] at e2
      exact lI.of e2 (by omega) (fun y _ => o1.r y) (fun _ y => by omega) (fun _ => lt) (fun y => by omega) (fun y => by omega) (fun y => by omega) ⟨fun _ => by rw [q]; rfl, fun y => by omega⟩
    · rw [if_neg q] at e2
      exact lI.of e2 (by omega) (fun y _ => o1.r y) (fun _ y => by omega) (fun _ => lt) (fun y => by omega) (fun y => by omega) (fun y => by omega) ⟨fun y => by omega, fun _ y => q (o1.elim (fun p => p.1) fun p => by rw [p] at y; exact absurd y (by decide))⟩
  · -- 13 STORE
    intro μ1 e1
    have uh := u.2.2.2.2.1 (by omega)
    have uh2 := u.2.2.2.2.2.2.2 (by omega)
    have tt := t13 e
    obtain ⟨f1, m1, Q1, r1, n1, k1⟩ := pop e1 (by omega)
    rw [m1, show ab_w (v + h - 2 + 1) = v + h - 2 + 1 from ab_wi (by omega) (by omega)]
    refine ⟨by omega, by omega, by omega, by omega, c_lw_emit (hb.mu e1 (by omega)) fun r2 μ2 b2 f2 _ g2 => fin (by omega) _ μ2 rfl b2 (by rw [f2 109 78 (by omega) (by omega), m1]; omega) (by rw [f2 109 83 (by omega) (by omega), k1, ss (by omega)]) fun z2 => ?_⟩
    obtain ⟨-, -, e2⟩ := g2 z2
    have o1 : ∀ j, 0 ≤ j → j < v + h → lOp μ1 j := fun j a b => (Q.o j a b).le (by omega) (f1 152 _ (by omega)) (f1 153 _ (by omega))
    rw [ss (by omega), show v + h' = v + h - 2 by omega]
    exact ⟨w, Q1.em e2 (lI.of e2 (by omega) (fun y _ => (o1 _ (by omega) (by omega)).r y) (fun y _ => (o1 _ (by omega) (by omega)).r y) (fun y => by omega) (fun y => by omega) (fun y => by omega) (fun _ => tt) ⟨fun y => by omega, fun y => by omega⟩)⟩
  · -- 14 FUEL
    have uh := u.2.2.2.2.2.1 (by omega)
    exact fin (by omega) _ μ rfl hb (by rw [hm]; omega) (by rw [hk, ss (by omega)]) fun _ => ⟨w, by rw [ss (by omega), show v + h' = v + h by omega]; exact Q⟩
  · -- 15 IF
    intro μ1 e1
    have uh := u.2.2.2.1 (by omega)
    have es := s15 e
    obtain ⟨f1, m1, Q1, r1, n1, k1⟩ := pop e1 (by omega)
    rw [m1]
    refine ⟨by omega, by omega, c_lw_emit (hb.mu e1 (by omega)) fun r2 μ2 b2 f2 rb g2 => ?_⟩
    have k2 : μ2 109 83 = ((s ++ R).length : Int) := by rw [f2 109 83 (by omega) (by omega)]; exact k1
    refine c_mM_openUp (by omega) fun μ3 p3 => fin (by omega) _ μ3 rfl (b2.ou p3) (by rw [p3.1 109 78 (by omega) (by omega), f2 109 78 (by omega) (by omega), m1]; omega) (by rw [p3.2.1, k2, es]; simp) fun z3 => ?_
    rw [p3.1 109 74 (by omega) (by omega)] at z3
    obtain ⟨-, er, e2⟩ := g2 z3
    have o1 : lOp μ1 (v + h - 1) := (Q.o (v + h - 1) (by omega) (by omega)).le (by omega) (f1 152 _ (by omega)) (f1 153 _ (by omega))
    have Q2 := Q1.emP e2 (by omega) (lI.of e2 (by omega) (fun y _ => o1.r y) (fun _ y => by omega) (fun y => by omega) (fun _ => Or.inl (by decide)) (fun y => by omega) (fun y => by omega) ⟨fun y => by omega, fun y => by omega⟩) (by omega)
    rw [← er] at Q2
    rw [es, show v + h' = v + h - 1 by omega]
    exact Q2.openL p3 k2 opn rb.1
  · -- 16 ELSE
    obtain ⟨r, er, es⟩ := s16 e
    obtain ⟨tl1, tl2⟩ := tl er
    have uh := u.2.2.2.2.2.1 (by omega)
    rw [tl1]
    have Q' := Q
    rw [tl2] at Q'
    obtain ⟨q1, q2, q3⟩ := (Q'.e _ _ lAt_top).g7
    have bA := (Q'.j.ow (μ 155 (r ++ R).length) (by have := (q2 (μ 155 (r ++ R).length)).mpr rfl; omega)).1
    refine c_lw_emit hb fun r2 μ2 b2 f2 rb g2 => ?_
    have eA : μ2 155 (r ++ R).length = μ 155 (r ++ R).length := f2 155 _ (by omega) (by omega)
    rw [eA]
    refine ⟨by omega, by omega, fun μ3 e3 => ⟨by omega, fun μ4 e4 => ?_⟩⟩
    have f3 : ∀ c j, c ≠ 146 → μ3 c j = μ2 c j := fun c j y => by rw [e3, mu_ne y]
    have f4 : ∀ c j, c ≠ 155 → μ4 c j = μ3 c j := fun c j y => by rw [e4, mu_ne y]
    refine fin (by omega) _ μ4 rfl ((b2.mu e3 (by omega)).mu e4 (by omega)) (by rw [f4 109 78 (by decide), f3 109 78 (by decide), f2 109 78 (by omega) (by omega), hm]; omega) (by rw [f4 109 83 (by decide), f3 109 83 (by decide), f2 109 83 (by omega) (by omega), hk, es]) fun z4 => ?_
    rw [f4 109 74 (by decide), f3 109 74 (by decide)] at z4
    obtain ⟨-, er2, e2⟩ := g2 z4
    have Q2 := Q'.emP e2 n0.1 (lI.of e2 (by omega) (fun _ y => by omega) (fun _ y => by omega) (fun y => by omega) (fun _ => Or.inl (by decide)) (fun y => by omega) (fun y => by omega) ⟨fun y => by omega, fun y => by omega⟩) (by omega)
    rw [← er2] at Q2
    rw [es, tl2, show v + h' = v + h by omega]
    exact Q2.els (μ1 := μ3) rb.1 (by rw [eA]; exact e3) e4
  · -- 17 IF_END
    obtain ⟨r, er, es⟩ := s17 e
    obtain ⟨tl1, tl2⟩ := tl er
    have uh := u.2.2.2.2.2.1 (by omega)
    rw [tl1]
    have Q' := Q
    rw [tl2] at Q'
    obtain ⟨q1, q2, q3⟩ := (Q'.e _ _ lAt_top).g7
    have bA := (Q'.j.ow (μ 155 (r ++ R).length) (by have := (q2 (μ 155 (r ++ R).length)).mpr rfl; omega)).1
    refine ⟨by omega, by omega, fun μ2 e2 μ3 e3 => ?_⟩
    have f2 : ∀ c j, c ≠ 146 → μ2 c j = μ c j := fun c j y => by rw [e2, mu_ne y]
    have x83 : ab_w (μ2 109 83 - 1) = (r ++ R).length := by rw [f2 109 83 (by decide), hk, tl1]; exact ab_wi (by omega) (by omega)
    rw [x83] at e3
    have f3 : ∀ c j, ¬ (c = 109 ∧ j = 83) → μ3 c j = μ2 c j := fun c j y => by rw [e3, ab_mud, if_neg y]
    refine fin (by omega) _ μ3 rfl ((hb.mu e2 (by omega)).mu e3 (by omega)) (by rw [f3 109 78 (by omega), f2 109 78 (by decide), hm]; omega) (by rw [e3, ab_mud, if_pos ⟨rfl, rfl⟩, es]) fun z3 => ?_
    obtain ⟨w2, Q2⟩ := Q'.shut (Or.inr ⟨rfl, rfl⟩) e2
    rw [es, show v + h' = v + h by omega]
    exact ⟨w2, Q2.fr (fun c i y1 y2 y3 => f3 c i (by omega)) (f3 109 69 (by omega)) (by rw [f3 109 71 (by omega)]; exact Int.le_refl _) (Int.le_refl _)⟩
  · -- 18 TEST
    have es := s18 e
    have uh := u.2.2.2.2.2.1 (by omega)
    refine c_mM_openUp (by omega) fun μ1 p1 => fin (by omega) _ μ1 rfl (hb.ou p1) (by rw [p1.1 109 78 (by omega) (by omega), hm]; omega) (by rw [p1.2.1, hk, es]; simp) fun _ => ⟨w, ?_⟩
    rw [es, show v + h' = v + h by omega]
    exact Q.opnn (a := 3) p1 hk opn (Or.inr (Or.inl ⟨rfl, rfl, n0.1, Int.le_refl _⟩))
  · -- 19 WHILE
    obtain ⟨r, er, es⟩ := s19 e
    obtain ⟨tl1, tl2⟩ := tl er
    have uh := u.2.2.2.1 (by omega)
    intro μ1 e1
    obtain ⟨f1, m1, Q1, r1, n1, k1⟩ := pop e1 (by omega)
    rw [m1, tl1]
    refine ⟨by omega, by omega, c_lw_emit (hb.mu e1 (by omega)) fun r2 μ2 b2 f2 rb g2 => ⟨by omega, fun μ3 e3 => ?_⟩⟩
    have f3 : ∀ c j, c ≠ 156 → μ3 c j = μ2 c j := fun c j y => by rw [e3, mu_ne y]
    refine fin (by omega) _ μ3 rfl (b2.mu e3 (by omega)) (by rw [f3 109 78 (by decide), f2 109 78 (by omega) (by omega), m1]; omega) (by rw [f3 109 83 (by decide), f2 109 83 (by omega) (by omega), k1, tl2, es]; simp) fun z3 => ?_
    rw [f3 109 74 (by decide)] at z3
    obtain ⟨-, er2, e2⟩ := g2 z3
    have o1 : lOp μ1 (v + h - 1) := (Q.o (v + h - 1) (by omega) (by omega)).le (by omega) (f1 152 _ (by omega)) (f1 153 _ (by omega))
    have Q2 := Q1.emP e2 (by omega) (lI.of e2 (by omega) (fun y _ => o1.r y) (fun _ y => by omega) (fun y => by omega) (fun _ => Or.inl (by decide)) (fun y => by omega) (fun y => by omega) ⟨fun y => by omega, fun y => by omega⟩) (by omega)
    rw [← er2, tl2] at Q2
    rw [es, show v + h' = v + h - 1 by omega]
    exact Q2.mid rb.1 (Or.inr rfl) e3
  · -- 20 WHILE_END
    obtain ⟨r, er, es⟩ := s20 e
    obtain ⟨tl1, tl2⟩ := tl er
    have uh := u.2.2.2.2.2.1 (by omega)
    rw [tl1]
    have Q' := Q
    rw [tl2] at Q'
    obtain ⟨q1, q2, q3⟩ := (Q'.e _ _ lAt_top).g4
    have bB := (Q'.j.ow (μ 156 (r ++ R).length) (by have := (q3 (μ 156 (r ++ R).length)).mpr rfl; omega)).1
    refine ⟨by omega, c_lw_emit hb fun r2 μ2 b2 f2 rb g2 => ?_⟩
    have eB : μ2 156 (r ++ R).length = μ 156 (r ++ R).length := f2 156 _ (by omega) (by omega)
    rw [eB]
    refine ⟨by omega, by omega, fun μ3 e3 => ⟨by omega, ?_⟩⟩
    have f3 : ∀ c j, c ≠ 146 → μ3 c j = μ2 c j := fun c j y => by rw [e3, mu_ne y]
    have QQ : μ3 109 74 = 0 → lQ μ2 w (4 :: (r ++ R)) dp (v + h) (-1) U := fun y => by
      rw [f3 109 74 (by decide)] at y
      obtain ⟨-, -, e2⟩ := g2 y
      exact Q'.em e2 (lI.of e2 (by omega) (fun _ y => by omega) (fun _ y => by omega) (fun y => by omega) (fun _ => Or.inr q2) (fun y => by omega) (fun y => by omega) ⟨fun y => by omega, fun y => by omega⟩)
    refine c_lw_land (w := w) (o := 2 * ((r ++ R).length : Int) + 2) (fun y => ?_) fun μ4 f4 g4 μ5 e5 => ?_
    · have Q2 := QQ y
      have ent := Q2.e _ _ lAt_top
      have sg := ent.g4.2.2
      rw [f3 157 _ (by decide)]
      obtain ⟨L, l1, l2⟩ := ent.1
      refine ⟨L, l1.same fun i hi => ?_, l2⟩
      rw [e3, ab_mud, if_neg fun q => ?_]
      have a1 := (sg i).mpr (by rw [eB]; exact q.2)
      have a2 := (l2 i).mpr hi
      omega
    · have x83 : ab_w (μ4 109 83 - 1) = (r ++ R).length := by rw [f4 109 83 (by decide), f3 109 83 (by decide), f2 109 83 (by omega) (by omega), hk, tl1]; exact ab_wi (by omega) (by omega)
      rw [x83] at e5
      have f5 : ∀ c j, ¬ (c = 109 ∧ j = 83) → μ5 c j = μ4 c j := fun c j y => by rw [e5, ab_mud, if_neg y]
      refine fin (by omega) _ μ5 rfl (((b2.mu e3 (by omega)).c146 f4).mu e5 (by omega)) (by rw [f5 109 78 (by omega), f4 109 78 (by decide), f3 109 78 (by decide), f2 109 78 (by omega) (by omega), hm]; omega) (by rw [e5, ab_mud, if_pos ⟨rfl, rfl⟩, es]) fun z5 => ?_
      rw [f5 109 74 (by omega), f4 109 74 (by decide)] at z5
      obtain ⟨L, l2, lc⟩ := g4 z5
      obtain ⟨w4, Q4⟩ := (QQ z5).wend (μ1 := μ3) (by rw [eB]; exact e3) l2 lc
      rw [es, show v + h' = v + h by omega]
      exact ⟨w4, Q4.fr (fun c i y1 y2 y3 => f5 c i (by omega)) (f5 109 69 (by omega)) (by rw [f5 109 71 (by omega)]; exact Int.le_refl _) (Int.le_refl _)⟩
  · -- 21 DO
    have es := s21 e
    have uh := u.2.2.2.2.2.1 (by omega)
    refine c_mM_openUp (by omega) fun μ1 p1 => fin (by omega) _ μ1 rfl (hb.ou p1) (by rw [p1.1 109 78 (by omega) (by omega), hm]; omega) (by rw [p1.2.1, hk, es]; simp) fun _ => ⟨w, ?_⟩
    rw [es, show v + h' = v + h by omega]
    exact Q.opnn (a := 5) p1 hk opn (Or.inr (Or.inr ⟨rfl, rfl, ⟨n0.1, Int.le_refl _⟩, rfl⟩))
  · -- 22 DO_TEST
    obtain ⟨r, er, es⟩ := s22 e
    obtain ⟨tl1, tl2⟩ := tl er
    have uh := u.2.2.2.2.2.1 (by omega)
    rw [tl1]
    have Q' := Q
    rw [tl2] at Q'
    refine ⟨by omega, c_lw_land (w := w) (o := 2 * ((r ++ R).length : Int) + 1) (fun _ => (Q'.e _ _ lAt_top).g5.2.2) fun μ2 f2 g2 => fin (by omega) _ μ2 rfl (hb.c146 f2) (by rw [f2 109 78 (by decide), hm]; omega) (by rw [f2 109 83 (by decide), hk, tl2, es]; simp) fun z2 => ?_⟩
    obtain ⟨L, l2, lc⟩ := g2 z
    rw [es, show v + h' = v + h by omega]
    exact Q'.test l2 lc
  · -- 23 UNTIL
    obtain ⟨r, er, es⟩ := s23 e
    obtain ⟨tl1, tl2⟩ := tl er
    have uh := u.2.2.2.1 (by omega)
    intro μ1 e1
    obtain ⟨f1, m1, Q1, r1, n1, k1⟩ := pop e1 (by omega)
    rw [m1, tl1]
    rw [tl2] at Q1
    obtain ⟨q1, q2, q3⟩ := (Q1.e _ _ lAt_top).g6
    refine ⟨by omega, by omega, by omega, c_lw_emit (hb.mu e1 (by omega)) fun r2 μ2 b2 f2 rb g2 => ⟨by omega, ?_⟩⟩
    have o1 : lOp μ1 (v + h - 1) := (Q.o (v + h - 1) (by omega) (by omega)).le (by omega) (f1 152 _ (by omega)) (f1 153 _ (by omega))
    have QQ : μ2 109 74 = 0 → lQ μ2 w (6 :: (r ++ R)) dp (v + h - 1) (-1) U := fun y => by
      obtain ⟨-, -, e2⟩ := g2 y
      exact Q1.em e2 (lI.of e2 (by omega) (fun y _ => o1.r y) (fun _ y => by omega) (fun y => by omega) (fun _ => Or.inr q2) (fun y => by omega) (fun y => by omega) ⟨fun y => by omega, fun y => by omega⟩)
    refine c_lw_land (w := w) (o := 2 * ((r ++ R).length : Int) + 2) (fun y => ((QQ y).e _ _ lAt_top).1) fun μ3 f3 g3 μ4 e4 => ?_
    have x83 : ab_w (μ3 109 83 - 1) = (r ++ R).length := by rw [f3 109 83 (by decide), f2 109 83 (by omega) (by omega), k1, tl1]; exact ab_wi (by omega) (by omega)
    rw [x83] at e4
    have f4 : ∀ c j, ¬ (c = 109 ∧ j = 83) → μ4 c j = μ3 c j := fun c j y => by rw [e4, ab_mud, if_neg y]
    refine fin (by omega) _ μ4 rfl ((b2.c146 f3).mu e4 (by omega)) (by rw [f4 109 78 (by omega), f3 109 78 (by decide), f2 109 78 (by omega) (by omega), m1]; omega) (by rw [e4, ab_mud, if_pos ⟨rfl, rfl⟩, es]) fun z4 => ?_
    rw [f4 109 74 (by omega), f3 109 74 (by decide)] at z4
    obtain ⟨L, l2, lc⟩ := g3 z4
    obtain ⟨w4, Q4⟩ := (QQ z4).until l2 lc
    rw [es, show v + h' = v + h - 1 by omega]
    exact ⟨w4, Q4.fr (fun c i y1 y2 y3 => f4 c i (by omega)) (f4 109 69 (by omega)) (by rw [f4 109 71 (by omega)]; exact Int.le_refl _) (Int.le_refl _)⟩
  · -- 24 BREAK
    obtain ⟨l4, l6, es⟩ := s24 (Or.inl e)
    have uh := u.2.2.2.2.2.1 (by omega)
    obtain ⟨q, a, q1, q2, q3⟩ := lLoop l4 l6 fun j b y => (Q.e j b y).v.1
    have ql := q1.lt
    have ent := Q.e _ _ q1
    refine c_mM_loopOpen (q := q) (by omega) ql.1 (by omega) (by have := ent.v; omega) (fun j j1 j2 => ?_) ?_
    · obtain ⟨b, hb'⟩ := lAt.ex (O := s ++ R) (j := j) (by omega) (by omega)
      exact (Q.e _ _ hb').v.2.1 (q3 j b j1 hb')
    refine ⟨by omega, c_lw_emit hb fun r2 μ2 b2 f2 rb g2 => ⟨by omega, fun μ3 e3 => ?_⟩⟩
    have f3 : ∀ c j, c ≠ 157 → μ3 c j = μ2 c j := fun c j y => by rw [e3, mu_ne y]
    refine fin (by omega) _ μ3 rfl (b2.mu e3 (by omega)) (by rw [f3 109 78 (by decide), f2 109 78 (by omega) (by omega), hm]; omega) (by rw [f3 109 83 (by decide), f2 109 83 (by omega) (by omega), hk, es]) fun z3 => ?_
    rw [f3 109 74 (by decide)] at z3
    obtain ⟨-, er2, e2⟩ := g2 z3
    have Q2 := Q.emP e2 n0.1 (lI.of e2 (by omega) (fun _ y => by omega) (fun _ y => by omega) (fun y => by omega) (fun _ => Or.inl (by decide)) (fun y => by omega) (fun y => by omega) ⟨fun y => by omega, fun y => by omega⟩) (by omega)
    have d2 : μ2 146 r2 = μ2 157 q := by rw [er2, e2.2.2.2.1, f2 157 q (by omega) (by omega)]
    have n2 : r2 = μ2 109 69 - 1 := by rw [e2.2.1]; omega
    rw [← er2] at Q2
    rw [es, show v + h' = v + h by omega]
    exact Q2.brk rb n2 q1 (by omega) d2 e3
  · -- 25 NEXT
    obtain ⟨l4, l6, es⟩ := s24 (Or.inr e)
    have uh := u.2.2.2.2.2.1 (by omega)
    obtain ⟨q, a, q1, q2, q3⟩ := lLoop l4 l6 fun j b y => (Q.e j b y).v.1
    have ql := q1.lt
    have ent := Q.e _ _ q1
    have ev := ent.v
    refine c_mM_loopOpen (q := q) (by omega) ql.1 (by omega) (by omega) (fun j j1 j2 => ?_) ?_
    · obtain ⟨b, hb'⟩ := lAt.ex (O := s ++ R) (j := j) (by omega) (by omega)
      exact (Q.e _ _ hb').v.2.1 (q3 j b j1 hb')
    refine ⟨by omega, fun n19 => ⟨by omega, bk_mM_lowerStep_639 rfl (c_lw_emit hb fun r2 μ2 b2 f2 rb g2 => ⟨fun _ => ⟨?_, fun μ3 e3 => ?_⟩, fun y => absurd rfl y⟩)⟩, fun y19 => ⟨by omega, bk_mM_lowerStep_639 rfl (c_lw_emit hb fun r2 μ2 b2 f2 rb g2 => ⟨fun y => absurd (show (1 : Int) = 0 from y) (by decide), fun _ => ⟨?_, ?_, fun μ3 e3 => ?_⟩⟩)⟩⟩
    · show (0 : Int) ≤ q ∧ q < 3010
      omega
    · have a5 : a = 5 := by omega
      subst a5
      have e3 : μ3 = ab_mu μ2 156 q r2 := e3
      have f3 : ∀ c j, c ≠ 156 → μ3 c j = μ2 c j := fun c j y => by rw [e3, mu_ne y]
      refine fin (by omega) _ μ3 rfl (b2.mu e3 (by omega)) (by rw [f3 109 78 (by decide), f2 109 78 (by omega) (by omega), hm]; omega) (by rw [f3 109 83 (by decide), f2 109 83 (by omega) (by omega), hk, es]) fun z3 => ?_
      rw [f3 109 74 (by decide)] at z3
      obtain ⟨-, er2, e2⟩ := g2 z3
      have Q2 := Q.emP e2 n0.1 (lI.of e2 (by omega) (fun _ y => by omega) (fun _ y => by omega) (fun y => by omega) (fun _ => Or.inl (by decide)) (fun y => by omega) (fun y => by omega) ⟨fun y => by omega, fun y => by omega⟩) (by omega)
      have d2 : μ2 146 r2 = μ2 156 q := by rw [er2, e2.2.2.2.1, f2 156 q (by omega) (by omega)]
      have n2 : r2 = μ2 109 69 - 1 := by rw [e2.2.1]; omega
      rw [← er2] at Q2
      rw [es, show v + h' = v + h by omega]
      exact Q2.nxt rb n2 q1 d2 e3
    · show (0 : Int) ≤ q ∧ q < 3010
      omega
    · show (0 : Int) ≤ q ∧ q < 3010
      omega
    · have e3 : μ3 = ab_mu μ2 156 q (μ2 156 q) := e3
      have f3 : ∀ c j, μ3 c j = μ2 c j := fun c j => by
        rw [e3, ab_mud]
        by_cases y : c = 156 ∧ j = q
        · rw [if_pos y, y.1, y.2]
        · rw [if_neg y]
      have e3' : μ3 = μ2 := funext fun c => funext fun j => f3 c j
      subst e3'
      refine fin (by omega) _ μ3 rfl b2 (by rw [f2 109 78 (by omega) (by omega), hm]; omega) (by rw [f2 109 83 (by omega) (by omega), hk, es]) fun z3 => ?_
      obtain ⟨-, er2, e2⟩ := g2 z3
      have bA : 0 ≤ μ 155 q ∧ μ 155 q ≤ μ 109 69 := by
        rcases q2 with y | y | y
        · subst y; exact ent.g3.2.1
        · subst y; exact ent.g4.2.1
        · subst y; exact ent.g5.2.1
      rw [es, show v + h' = v + h by omega]
      exact ⟨w, Q.em e2 (lI.of e2 (by omega) (fun _ y => by omega) (fun _ y => by omega) (fun y => by omega) (fun _ => Or.inr bA) (fun y => by omega) (fun y => by omega) ⟨fun y => by omega, fun y => by omega⟩)⟩
  · omega
  · -- 27 PRINT
    intro μ1 e1
    have uh := u.2.2.2.1 (by omega)
    obtain ⟨f1, m1, Q1, r1, n1, k1⟩ := pop e1 (by omega)
    rw [m1]
    refine ⟨by omega, by omega, c_lw_emit (hb.mu e1 (by omega)) fun r2 μ2 b2 f2 _ g2 => fin (by omega) _ μ2 rfl b2 (by rw [f2 109 78 (by omega) (by omega), m1]; omega) (by rw [f2 109 83 (by omega) (by omega), k1, ss (by omega)]) fun z2 => ?_⟩
    obtain ⟨-, -, e2⟩ := g2 z2
    have o1 : lOp μ1 (v + h - 1) := (Q.o (v + h - 1) (by omega) (by omega)).le (by omega) (f1 152 _ (by omega)) (f1 153 _ (by omega))
    rw [ss (by omega), show v + h' = v + h - 1 by omega]
    exact ⟨w, Q1.em e2 (lI.of e2 (by omega) (fun y _ => o1.r y) (fun _ y => by omega) (fun y => by omega) (fun y => by omega) (fun y => by omega) (fun y => by omega) ⟨fun y => by omega, fun y => by omega⟩)⟩
  · -- 28 READ
    have uh := u.2.2.2.2.2.1 (by omega)
    refine ⟨t11 (by omega), c_lw_emit hb fun r2 μ2 b2 f2 _ g2 => fin (by omega) _ μ2 rfl b2 (by rw [f2 109 78 (by omega) (by omega), hm]; omega) (by rw [f2 109 83 (by omega) (by omega), hk, ss (by omega)]) fun z2 => ?_⟩
    obtain ⟨-, -, e2⟩ := g2 z2
    rw [ss (by omega), show v + h' = v + h by omega]
    exact ⟨w, Q.em e2 (lI.of e2 (by omega) (fun _ y => by omega) (fun _ y => by omega) (fun _ => Q.u t (tU (by omega))) (fun y => by omega) (fun y => by omega) (fun y => by omega) ⟨fun y => by omega, fun y => by omega⟩)⟩
  · omega
end M82

