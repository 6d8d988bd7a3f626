/-! THE REFERENCE, part 84: lower -/
section M84
variable {X : jm_X} {d : Nat} {P : Int → ab_m → Prop} {μ0 μ : ab_m} {g N dn : Int} {Γ : tQ}
/-- code that is whole -/
theorem lQ.wf {μ' : ab_m} {w : Int → Int} {m : Int} {U : Int → Prop} {t x ix y iy : Int} (h : lQ μ w [] 0 m (-1) U) (e : mEm μ μ' 28 t x ix y iy) (n0 : 0 ≤ μ 109 69) (n1 : μ' 109 69 ≤ 400) (r : 0 ≤ μ 109 71 ∧ μ 109 71 ≤ 300) : mWF μ' 0 (μ' 109 69) (μ' 109 71) := by
  obtain ⟨f, e1, e2, e3, e4, e5, e6, e7⟩ := e
  have r1 : μ' 109 71 = μ 109 71 := f 109 71 (by omega) (by omega)
  have w0 : ∀ i, w i = 0 := fun i => by
    by_cases z : w i = 0
    · exact z
    · obtain ⟨w1, w2, w3⟩ := h.j.ow i z
      rcases w3 with z3 | z3 | z3
      · simp at z3; omega
      · omega
      · have := h.j.fx i z3; omega
  refine ⟨by omega, n1, by omega, by omega, fun i i0 i1 => ?_⟩
  rw [show (0 : Int) + i = i by omega]
  by_cases q : i = μ 109 69
  · subst q
    unfold mUA mUB
    rw [e2]
    exact ⟨by decide, by decide, fun z => by omega, fun z => by omega, fun z => by omega, fun z => by omega, fun z => by omega, fun z => by omega, fun _ => Or.inr rfl, fun z => by omega, fun z => by omega⟩
  · have hi := h.j.i i i0 (by omega)
    rw [w0 i] at hi
    have g : ∀ c, 145 ≤ c → c ≤ 150 → μ' c i = μ c i := fun c a b => f c i (by omega) (by omega)
    unfold mUA mUB
    rw [g 145 (by decide) (by decide), g 146 (by decide) (by decide), g 147 (by decide) (by decide), g 148 (by decide) (by decide), g 149 (by decide) (by decide), g 150 (by decide) (by decide), r1]
    obtain ⟨h1, h2, h3, h4, h5, h6, h7, h8⟩ := hi
    refine ⟨h1.1, h1.2, h2, h3, h4, fun z => ?_, h6, h7, fun z => ?_, h8⟩
    · have := (h5 z).resolve_left fun y => y rfl
      clear h2 h3 h4 h5 h6 h7 h8
      omega
    · clear h2 h3 h4 h5 h6 h7 h8
      omega
set_option maxHeartbeats 2000000 in
theorem c_mM_lower126 (t : tW μ0 g Γ N dn) (hg : μ0 109 18 = g) (g01 : g = 0 ∨ g = 1) (hP : ∀ (l : ab_l) (μ' : ab_m), l 0 = 109 → fLm μ0 μ' → (μ' 109 74 = 0 → mWF μ' 0 (μ' 109 69) (μ' 109 71)) → jj_mM_lower X (d + 3) 414 l [] μ' P) : ∀ (m : Nat) (l : ab_l) (μ1 : ab_m) (L : List Int) (v pc : Int) (R : List Int), l 0 = 109 → l 1 = pc → l 2 = (L.length : Int) → l 3 ≠ 0 → 0 ≤ pc → pc < N → lFr Γ N dn L (Γ.2.2.2.1 pc) v R → lBk μ1 L → fLm μ0 μ1 → lS μ1 μ1 (Γ.2.1 pc ++ R) L.length (v + Γ.1 pc) (lU μ0 g dn Γ pc L) → lwM Γ N (pc :: L) = m → jj_mM_lower X (d + 3) 126 l [] μ1 P := by
  intro m
  induction m using Nat.strongRecOn with
  | ind m ih =>
    intro l μ1 L v pc R l0 l1 l2 l3 p0 pN hL hB fr hS hm
    have N9 := t.n0
    have d15 := t.d15
    have hb := hS.b
    obtain ⟨v0, vb, Ll⟩ := hL.le t
    obtain ⟨vk, rk⟩ := vb pc p0 pN rfl
    have tr := t.tr p0 pN
    have hh0 := tr.h0
    have hhz := tr.hz
    have hz0 := tr.z0
    have sw := tr.sw
    have wz := (t.tr hz0 (show Γ.2.2.2.2 pc < N by omega)).w0
    have rp := t.rle p0 pN
    have opn : ((Γ.2.1 pc ++ R).length : Int) < 3010 := by rw [List.length_append]; omega
    refine bk_mM_lower_126 l0 ⟨fun y => absurd y l3, fun _ => ⟨fun y => hP l μ1 l0 fr fun q => absurd q y, fun z => ?_⟩⟩
    obtain ⟨w, Q⟩ := hS.q z
    have w18 : μ1 109 18 = g := by rw [fr 109 18 (by omega) (by omega)]; exact hg
    have wk : ab_w (ab_w (9000 * g) + pc) = 9000 * g + pc := by rw [show ab_w (9000 * g) = 9000 * g from ab_wi (by omega) (by omega)]; exact ab_wi (by omega) (by omega)
    have wp : ab_w (pc + 1) = pc + 1 := ab_wi (by omega) (by omega)
    rw [l1, l2, w18, wk, fr 115 _ (by omega) (by omega), fr 116 _ (by omega) (by omega), wp, hS.n8]
    have nxt : μ0 115 (9000 * g + pc) ≠ 29 → μ0 115 (9000 * g + pc) ≠ 30 → pc + 1 < N ∧ tMv (μ0 115 (9000 * g + pc)) (tAr (tEv μ0 g dn) (μ0 115 (9000 * g + pc)) (μ0 116 (9000 * g + pc))) (Γ.1 pc) (Γ.2.1 pc) = some (Γ.1 (pc + 1), Γ.2.1 (pc + 1)) ∧ Γ.2.2.2.1 (pc + 1) = Γ.2.2.2.1 pc := fun a b => by
      obtain ⟨n1, n2, n3, -⟩ := t.nx p0 pN a b
      exact ⟨n1, n2, n3⟩
    have k29 : μ0 115 (9000 * g + pc) = 29 → Γ.1 pc = 0 ∧ Γ.2.1 pc = [] ∧ Γ.2.2.2.1 (pc + 1) = Γ.2.2.2.1 pc + 1 ∧ pc + 1 < N := fun a => by
      have st := t.st
      have ne : pc ≠ N - 1 := fun z => by rw [z] at a; omega
      rcases (t.k pc p0 pN).1.1 with h | h | h
      · exact ⟨h.2.1, h.2.2.1, h.2.2.2.2.2.2.1, by omega⟩
      · have : μ0 115 (9000 * g + pc) = 30 := h.1
        omega
      · have h := (tMv_u _ h.1).1
        have h : 1 ≤ μ0 115 (9000 * g + pc) ∧ μ0 115 (9000 * g + pc) ≤ 28 := h
        omega
    have k30 : μ0 115 (9000 * g + pc) = 30 → Γ.2.1 pc = [] ∧ pc = N - 1 := fun a => by
      refine ⟨?_, ?_⟩
      · rcases (t.k pc p0 pN).1.1 with h | h | h
        · have : μ0 115 (9000 * g + pc) = 29 := h.1
          omega
        · exact h.2.2
        · have h := (tMv_u _ h.1).1
          have h : 1 ≤ μ0 115 (9000 * g + pc) ∧ μ0 115 (9000 * g + pc) ≤ 28 := h
          omega
      · by_cases e : pc = N - 1
        · exact e
        · exact absurd a (t.ns pc p0 (by omega))
    have vkk : tVk (tEv μ0 g dn) Γ pc (μ0 115 (9000 * g + pc)) (μ0 116 (9000 * g + pc)) := (t.k pc p0 pN).1.2
    have onU : ∀ y, Γ.2.2.2.1 (pc + 1) = Γ.2.2.2.1 pc → lU μ0 g dn Γ (pc + 1) L y → lU μ0 g dn Γ pc L y ∨ (μ0 115 (9000 * g + pc) = 11 ∧ y = μ0 116 (9000 * g + pc)) := fun y r h => lU.on r h
    have inU : ∀ {b y T : Int}, Γ.2.2.2.1 (pc + 1) = Γ.2.2.2.1 pc → μ0 115 (9000 * g + pc) ≠ 11 → 0 ≤ b → b < N → Γ.2.2.2.1 b = T → Γ.2.2.2.2 b = b → lU μ0 g dn Γ b ((pc + 1) :: L) y → lU μ0 g dn Γ pc L y ∨ (μ0 119 (16 * g + T) ≤ y ∧ y < μ0 119 (16 * g + T) + μ0 120 (16 * g + T)) := fun r s b0 bN rb zb h => lU.into t r s b0 bN rb zb h
    generalize hSS : μ0 115 (9000 * g + pc) = S at *
    generalize hTT : μ0 116 (9000 * g + pc) = T at *
    have kb : (0 : Int) ≤ 9000 * g + pc ∧ (9000 * g + pc : Int) < 18000 := by omega
    have okU : S = 2 ∨ S = 12 ∨ S = 28 → lU μ0 g dn Γ pc L T := fun q => Or.inl (vkk.2.2.2.2.2.1 q)
    have T30 := vkk.2.2.2.2.1
    have ar0 : S ≠ 9 → tAr (tEv μ0 g dn) S T = 0 := fun q => by unfold tAr; rw [if_neg q]
    -- on
    have go : ∀ (l' : ab_l) (μ2 : ab_m) (L' : List Int) (v' pc' : Int) (R' : List Int), l' 0 = 109 → l' 1 = pc' → l' 2 = (L'.length : Int) → l' 3 ≠ 0 → 0 ≤ pc' → pc' < N → lFr Γ N dn L' (Γ.2.2.2.1 pc') v' R' → lBk μ2 L' → fLm μ0 μ2 → lB μ2 μ2 → μ2 109 78 = v' + Γ.1 pc' → μ2 109 83 = ((Γ.2.1 pc' ++ R').length : Int) → (μ2 109 74 = 0 → ∃ w, lQ μ2 w (Γ.2.1 pc' ++ R') L'.length (v' + Γ.1 pc') (-1) (lU μ0 g dn Γ pc' L')) → lwM Γ N (pc' :: L') < m → jj_mM_lower X (d + 3) 126 l' [] μ2 P := fun l' μ2 L' v' pc' R' a0 a1 a2 a3 a4 a5 a6 a7 a8 a9 a10 a11 a12 a13 => ih _ a13 l' μ2 L' v' pc' R' a0 a1 a2 a3 a4 a5 a6 a7 a8 ⟨a9, a10, a11, a12⟩ rfl
    have on : S ≠ 29 → S ≠ 30 → S ≠ 9 → ∀ (l' : ab_l) (μ2 : ab_m), l' 0 = 109 → l' 1 = pc + 1 → l' 2 = (L.length : Int) → l' 3 ≠ 0 → lS μ1 μ2 (Γ.2.1 (pc + 1) ++ R) L.length (v + Γ.1 (pc + 1)) (fun y => lU μ0 g dn Γ pc L y ∨ (S = 11 ∧ y = T)) → jj_mM_lower X (d + 3) 126 l' [] μ2 P := fun z1 z2 z3 l' μ2 a0 a1 a2 a3 hS2 => by
      obtain ⟨n1, n2, n3⟩ := nxt z1 z2
      refine go l' μ2 L v (pc + 1) R a0 a1 a2 a3 (by omega) n1 (by rw [n3]; exact hL) (hB.same fun j _ _ => hS2.b.fr 159 j (by omega) (by omega)) (fr.tr hS2.b.fr) hS2.b.self hS2.n8 hS2.k (fun y => ?_) (by rw [← hm]; exact lwM_on pN n3)
      obtain ⟨w2, Q2⟩ := hS2.q y
      exact ⟨w2, Q2.sub fun y q => onU y n3 q⟩
    refine ⟨kb, fun n9 => ⟨kb, fun n29 => ⟨kb, fun n26 => ⟨kb, fun n30 => ⟨kb, fun g8 => ⟨kb, kb, ?_⟩, fun l8 => ⟨kb, kb, kb, ?_⟩⟩, fun e30 => ?_⟩, fun e26 => ?_⟩, fun e29 => ?_⟩, fun e9 => ?_⟩
    · -- a step of kind 10 to 28
      obtain ⟨n1, n2, n3⟩ := nxt n29 n30
      rw [ar0 n9] at n2
      have u := (tMv_v n2).1
      exact c_lw_step hS z (by omega) n2 v0 hh0 (by omega) opn (fun q => T30 (by omega)) (fun q => okU (by omega)) (fun q => vkk.1 (by omega)) fun μ2 hS2 => on n29 n30 n9 _ μ2 l0 rfl l2 l3 hS2
    · -- a step of kind 1 to 8
      obtain ⟨n1, n2, n3⟩ := nxt n29 n30
      rw [ar0 n9] at n2
      have u := (tMv_v n2).1
      refine c_lw_value (U := lU μ0 g dn Γ pc L) hS z (by omega) n2 v0 hh0 (by omega) opn (fun q => ⟨T30 (by omega), okU (by omega)⟩) (fun q => vkk.1 (by omega)) vkk.2.1 vkk.2.2.1 fun μ2 hS2 => on n29 n30 n9 _ μ2 l0 rfl l2 l3 ⟨hS2.b, hS2.n8, hS2.k, fun y => ?_⟩
      obtain ⟨w2, Q2⟩ := hS2.q y
      exact ⟨w2, Q2.sub fun y q => q.resolve_right fun q => by omega⟩
    · -- STOP
      obtain ⟨s0, pe⟩ := k30 e30
      have rd : Γ.2.2.2.1 pc = dn := by rw [pe]; exact t.rN
      cases L with
      | cons b bs => obtain ⟨b0, b1, b2, -⟩ := hL; have := (t.rle b0 b1).2; omega
      | nil =>
        obtain ⟨-, -, eR⟩ := hL
        refine c_lw_emit hb fun r2 μ2 b2 f2 _ g2 => ?_
        refine bk_mM_lower_126 l0 ⟨fun _ => hP _ μ2 l0 (fr.tr b2.fr) fun z2 => ?_, fun y => absurd rfl y⟩
        obtain ⟨-, -, e2⟩ := g2 z2
        rw [s0, eR] at Q
        exact Q.wf e2 hb.n.1 b2.n.2 hb.r
    · -- RETURN
      obtain ⟨n1, n2, n3⟩ := nxt n29 (by omega)
      rw [ar0 n9] at n2
      have u := (tMv_v n2).2.2.2.1 (by omega)
      have es := (tMv_s n2).2.2.2.2.2.2.2.2.2.2.2.2.2 (by omega)
      have rd : Γ.2.2.2.1 pc < dn := vkk.2.2.2.2.2.2 e26
      have Lp : 1 ≤ (L.length : Int) := by
        cases L with
        | nil => have := hL.1; omega
        | cons b bs => simp; omega
      rw [show ab_w (v + Γ.1 pc - 1) = v + Γ.1 pc - 1 from ab_wi (by omega) (by omega), show ab_w ((L.length : Int) - 1) = L.length - 1 from ab_wi (by omega) (by omega)]
      intro μ2 e2
      have f2 : ∀ c j, ¬ (c = 109 ∧ j = 78) → μ2 c j = μ1 c j := fun c j y => by rw [e2, ab_mud, if_neg y]
      have m2 : μ2 109 78 = v + Γ.1 pc - 1 := by rw [e2, ab_mud, if_pos ⟨rfl, rfl⟩]
      rw [m2]
      have r2 : μ2 109 71 = μ1 109 71 := f2 109 71 (by omega)
      have Q2 : lQ μ2 w (Γ.2.1 pc ++ R) L.length (v + Γ.1 pc - 1) (-1) (lU μ0 g dn Γ pc L) := Q.fr (fun c i y1 y2 y3 => f2 c i (by omega)) (f2 109 69 (by omega)) (by omega) (by omega)
      refine ⟨by omega, c_lw_lay (hb.mu e2 (by omega)) (by omega) fun μ3 b3 f3 g3 => ⟨by omega, c_lw_emit b3 fun r4 μ4 b4 f4 rb g4 => ⟨by omega, fun μ5 e5 => ?_⟩⟩⟩
      have f5 : ∀ c j, c ≠ 160 → μ5 c j = μ4 c j := fun c j y => by rw [e5, mu_ne y]
      refine on n29 (by omega) n9 _ μ5 l0 rfl l2 l3 ⟨b4.mu e5 (by omega), by rw [f5 109 78 (by decide), f4 109 78 (by omega) (by omega), f3 109 78 (by omega) (by omega), m2]; omega, by rw [f5 109 83 (by decide), f4 109 83 (by omega) (by omega), f3 109 83 (by omega) (by omega), f2 109 83 (by omega), hS.k, es], fun z5 => ?_⟩
      rw [f5 109 74 (by decide)] at z5
      obtain ⟨z3, er4, e4⟩ := g4 z5
      obtain ⟨z2, e3⟩ := g3 z3
      have o1 : lOp μ2 (v + Γ.1 pc - 1) := (Q.o _ (by omega) (by omega)).le (by omega) (f2 152 _ (by omega)) (f2 153 _ (by omega))
      have lt := (Q2.f ((L.length : Int) - 1) (by omega) (by omega)).1
      have Q3 := Q2.em e3 (by
        by_cases q : μ2 152 (v + Γ.1 pc - 1) = 0
        · rw [if_pos q] at e3
          exact lI.of e3 (by omega) (fun y _ => o1.r y) (fun _ y => by omega) (fun _ => lt) (fun y => by omega) (fun y => by omega) (fun y => by omega) ⟨fun _ => by rw [q]; rfl, fun y => by omega⟩
        · rw [if_neg q] at e3
          exact lI.of e3 (by omega) (fun y _ => o1.r y) (fun _ y => by omega) (fun _ => lt) (fun y => by omega) (fun y => by omega) (fun y => by omega) ⟨fun y => by omega, fun _ y => q (o1.elim (fun p => p.1) fun p => by rw [p] at y; exact absurd y (by decide))⟩)
      have Q4 := Q3.emP e4 b3.n.1 (lI.of e4 (by omega) (fun _ y => by omega) (fun _ y => by omega) (fun y => by omega) (fun _ => Or.inl (by decide)) (fun y => by omega) (fun y => by omega) ⟨fun y => by omega, fun y => by omega⟩) (by omega)
      have d4 : μ4 146 r4 = μ4 160 ((L.length : Int) - 1) := by rw [er4, e4.2.2.2.1, f4 160 _ (by omega) (by omega)]
      have n4 : r4 = μ4 109 69 - 1 := by rw [e4.2.1]; omega
      rw [← er4] at Q4
      obtain ⟨w5, Q5⟩ := Q4.ret rb n4 (by omega) d4 e5
      rw [es, show v + Γ.1 (pc + 1) = v + Γ.1 pc - 1 by omega]
      exact ⟨w5, Q5.sub fun y q => q.resolve_right fun q => by omega⟩
    · -- DEF_END
      obtain ⟨h0', s0, r1, n1⟩ := k29 e29
      have rn := t.rle (k := pc + 1) (by omega) n1
      cases L with
      | nil => have := hL.1; omega
      | cons b bs =>
        have ln : ((b :: bs : List Int).length : Int) = bs.length + 1 := by simp
        obtain ⟨b0, bN, pb, hb1, v', R', ev, eR, hL'⟩ := hL
        obtain ⟨B1, B2⟩ := hB
        rw [ln] at Ll Q
        rw [ln, show ab_w ((bs.length : Int) + 1 + -1) = bs.length from by rw [ab_wi (by omega) (by omega)]; omega]
        rw [s0, h0'] at Q
        have lt := Q.f (bs.length : Int) (by omega) (by omega)
        refine ⟨by omega, c_lw_land (w := w) (o := -((bs.length : Int) + 1)) (fun _ => by have := lt.2; rwa [show (-1 - (bs.length : Int)) = -((bs.length : Int) + 1) by omega] at this) fun μ2 f2 g2 => ⟨by omega, ?_⟩⟩
        rw [f2 158 _ (by decide)]
        have m2 : μ2 109 78 = v := by rw [f2 109 78 (by decide), hS.n8, h0']; omega
        have z2 : μ2 109 74 = 0 := by rw [f2 109 74 (by decide)]; exact z
        obtain ⟨L', l2', lc⟩ := g2 z
        obtain ⟨w2, Q2⟩ := Q.back (by omega) l2' lc
        rw [show (bs.length : Int) + 1 - 1 = bs.length by omega, show ([] : List Int) ++ R = R from rfl, show v + 0 = v by omega] at Q2
        refine c_mM_giveOperand (by omega) fun μ3 p3 => ⟨by omega, ?_⟩
        have x9 : ∀ j, μ3 159 j = μ1 159 j := fun j => by rw [p3.1 159 j (by omega) (by omega), f2 159 j (by decide)]
        have Q3 := Q2.push p3 m2 (fun _ => lt.1.le (by rw [f2 109 71 (by decide)]; exact Int.le_refl _))
        have eb : v' + Γ.1 b = v + 1 := by omega
        refine go _ μ3 bs v' b R' l0 (show μ3 159 bs.length = b by rw [x9, B1]) rfl l3 b0 bN hL' (B2.same fun j _ _ => x9 j) (fr.tr ((hb.c146 f2).op p3).fr) ((hb.c146 f2).op p3).self (by rw [p3.2.1, m2, eb]) (by rw [p3.1 109 83 (by omega) (by omega), f2 109 83 (by decide), hS.k, s0, eR]; rfl) (fun _ => ⟨w2, ?_⟩) (by rw [← hm]; exact lwM_back pN)
        rw [eb, ← eR]
        exact Q3.sub fun y q => Or.inr (q.elim (fun q => ⟨b, List.mem_cons_self .., q⟩) fun ⟨c, c1, c2⟩ => ⟨c, List.mem_cons_of_mem _ c1, c2⟩)
    · -- CALL
      obtain ⟨n1, n2, n3⟩ := nxt (by omega) (by omega)
      have q := vkk.2.2.2.1 e9
      have q3 : T < dn := q.2.2
      obtain ⟨d1, d2, d3, d4, d5, d6, d7, d8, d9, d10⟩ := t.d T q.1 q3
      have u := (tMv_v n2).2.2.2.2.2.2.1 e9
      have es := (tMv_s n2).2.2.2.2.2.2.2.2.2.2.2.2.2 (by omega)
      unfold tAr at u
      rw [if_pos e9] at u
      have u : 0 ≤ μ0 120 (16 * g + T) ∧ μ0 120 (16 * g + T) ≤ Γ.1 pc ∧ Γ.1 (pc + 1) = Γ.1 pc - μ0 120 (16 * g + T) + 1 := u
      have wt : ab_w (ab_w (16 * g) + T) = 16 * g + T := by rw [show ab_w (16 * g) = 16 * g from ab_wi (by omega) (by omega)]; exact ab_wi (by omega) (by omega)
      refine ⟨by omega, fun μ2 e2 => ⟨kb, ?_⟩⟩
      have f2 : ∀ c j, ¬ (c = 159 ∧ j = (L.length : Int)) → μ2 c j = μ1 c j := fun c j y => by rw [e2, ab_mud, if_neg y]
      have fr2 : fLm μ0 μ2 := fun c j y1 y2 => by rw [f2 c j (by omega)]; exact fr c j y1 y2
      rw [f2 116 _ (by omega), fr 116 _ (by omega) (by omega), hTT]
      have Q2 : lQ μ2 w (Γ.2.1 pc ++ R) L.length (v + Γ.1 pc) (-1) (lU μ0 g dn Γ pc L) := Q.fr (fun c i y1 y2 y3 => f2 c i (by omega)) (f2 109 69 (by omega)) (by rw [f2 109 71 (by omega)]; exact Int.le_refl _) (Int.le_refl _)
      have S2 : lS μ2 μ2 (Γ.2.1 pc ++ R) L.length (v + Γ.1 pc) (lU μ0 g dn Γ pc L) := ⟨⟨fun _ _ _ _ => rfl, by rw [f2 109 69 (by omega)]; exact hb.n, by rw [f2 109 71 (by omega)]; exact hb.r⟩, by rw [f2 109 78 (by omega)]; exact hS.n8, by rw [f2 109 83 (by omega)]; exact hS.k, fun _ => ⟨w, Q2⟩⟩
      refine c_lw_call (g := g) (U' := lU μ0 g dn Γ (μ0 118 (16 * g + T)) ((pc + 1) :: L)) (lm := μ0 120 (16 * g + T)) (lf := μ0 119 (16 * g + T)) S2 (by rw [f2 109 74 (by omega)]; exact z) (by rw [fr2 109 18 (by omega) (by omega)]; exact hg) g01 (by omega) (fr2 120 _ (by omega) (by omega)) (fr2 119 _ (by omega) (by omega)) ⟨d7, d8⟩ ⟨d9, d10⟩ (by omega) (by omega) (fun y hy => inU n3 (by omega) d1 d2 d3 d6 hy) fun μ3 b9 S3 => ?_
      have fr3 := fr2.tr S3.b.fr
      rw [fr3 109 18 (by omega) (by omega), hg, fr3 116 _ (by omega) (by omega), hTT, wt, fr3 118 _ (by omega) (by omega), show ab_w ((L.length : Int) + 1) = L.length + 1 from ab_wi (by omega) (by omega)]
      refine ⟨kb, by omega, ?_⟩
      have ln : (((pc + 1) :: L : List Int).length : Int) = L.length + 1 := by simp
      refine go _ μ3 ((pc + 1) :: L) (v + Γ.1 pc - μ0 120 (16 * g + T)) (μ0 118 (16 * g + T)) (Γ.2.1 (pc + 1) ++ R) l0 rfl ln.symm l3 d1 d2 ⟨by omega, n1, by omega, by omega, v, R, by omega, rfl, by rw [n3]; exact hL⟩ ⟨?_, ?_⟩ fr3 S3.b.self (by rw [S3.n8, d4]; omega) (by rw [S3.k, d5, es]; rfl) (fun y => ?_) (by rw [← hm]; exact lwM_call pN n3 d1 (by omega))
      · rw [b9, e2, ab_mud, if_pos ⟨rfl, rfl⟩]
      · exact hB.same fun j j0 j1 => by rw [b9, f2 159 j (by omega)]
      · obtain ⟨w3, Q3⟩ := S3.q y
        rw [d5, d4, ln, es, show v + Γ.1 pc - μ0 120 (16 * g + T) + 0 = v + Γ.1 pc - μ0 120 (16 * g + T) by omega]
        exact ⟨w3, Q3⟩
end M84

