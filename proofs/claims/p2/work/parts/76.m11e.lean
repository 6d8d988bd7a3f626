/-! THE REFERENCE, part 75: runText -/
section M75
variable {X : jm_X} {d : Nat} {P : Int → ab_m → Prop} {μ : ab_m} {g N dn fuel : Int} {Γ : tQ}
end M75
/-- the counters of a run -/
def rtC (μ μ1 : ab_m) (fuel : Int) : Prop := (fRt μ μ1) ∧ (0 ≤ μ1 109 57 ∧ μ1 109 57 ≤ fuel) ∧ (0 ≤ μ1 109 54 ∧ μ1 109 54 ≤ μ 109 53) ∧ (0 ≤ μ1 109 56 ∧ μ1 109 56 ≤ 300)
theorem rtC.fr {μ μ1 : ab_m} {fuel : Int} (h'' : rtC μ μ1 fuel) : fRt μ μ1 := h''.1
theorem rtC.u {μ μ1 : ab_m} {fuel : Int} (h'' : rtC μ μ1 fuel) : 0 ≤ μ1 109 57 ∧ μ1 109 57 ≤ fuel := h''.2.1
theorem rtC.tk {μ μ1 : ab_m} {fuel : Int} (h'' : rtC μ μ1 fuel) : 0 ≤ μ1 109 54 ∧ μ1 109 54 ≤ μ 109 53 := h''.2.2.1
theorem rtC.pr {μ μ1 : ab_m} {fuel : Int} (h'' : rtC μ μ1 fuel) : 0 ≤ μ1 109 56 ∧ μ1 109 56 ≤ 300 := h''.2.2.2
section M75
variable {X : jm_X} {d : Nat} {P : Int → ab_m → Prop} {μ : ab_m} {g N dn fuel : Int} {Γ : tQ}
theorem rtC.mu {μ1 μ2 : ab_m} {c j x : Int} (h : rtC μ μ1 fuel) (e : μ2 = ab_mu μ1 c j x) (hc : 139 ≤ c ∧ c ≤ 144) : rtC μ μ2 fuel := by
  have f : ∀ b i, b ≠ c → μ2 b i = μ1 b i := fun b i z => by rw [e, mu_ne z]
  exact ⟨fun b i z1 z2 => by rw [f b i (by omega)]; exact h.fr b i z1 z2, by rw [f 109 57 (by omega)]; exact h.u, by rw [f 109 54 (by omega)]; exact h.tk, by rw [f 109 56 (by omega)]; exact h.pr⟩
set_option maxHeartbeats 2000000 in
theorem c_mM_runText37 (t : tW μ g Γ N dn) (hg : μ 109 18 = g) (g01 : g = 0 ∨ g = 1) (rs : ∀ j, 0 ≤ j → j < 16 → 0 ≤ μ 121 j ∧ μ 121 j ≤ 100) (h53 : μ 109 53 ≤ 200) (f31 : fuel ≤ 2147483647) (hP : ∀ r μ', rtC μ μ' fuel → P r μ') : ∀ (f m : Nat) (l : ab_l) (μ1 : ab_m) (L : List Int) (v pc : Int), l 0 = 109 → l 1 = fuel → l 2 = pc → l 3 = (L.length : Int) → l 4 = v + Γ.1 pc → 0 ≤ pc → pc < N → rFr Γ N dn L (Γ.2.2.2.1 pc) v → rtB μ1 L → rtC μ μ1 fuel → (fuel - μ1 109 57).toNat = f → rtT μ g Γ N L pc = m → jj_mM_runText X (d + 1) 37 l [] μ1 P := by
  intro f
  induction f using Nat.strongRecOn with
  | ind f ihf =>
  intro m
  induction m using Nat.strongRecOn with
  | ind m ihm =>
    intro l μ1 L v pc l0 l1 l2 l3 l4 p0 pN hL hB hC hf hm
    have N9 := t.n0
    have d15 := t.d15
    have fr := hC.fr
    obtain ⟨v0, vb, Ll⟩ := hL.le t
    have vk := vb pc p0 pN rfl
    have tr := t.tr p0 pN
    have hh0 := tr.h0
    have hhz := tr.hz
    have hz0 := tr.z0
    have rp := t.rle p0 pN
    have w18 : μ1 109 18 = g := by rw [fr 109 18 (by omega) (by omega)]; exact hg
    have wk : ab_w (ab_w (9000 * g) + pc) = 9000 * g + pc := by rw [show ab_w (9000 * g) = 9000 * g from ab_wi (by omega) (by omega)]; exact ab_wi (by omega) (by omega)
    have wS : μ1 115 (9000 * g + pc) = μ 115 (9000 * g + pc) := fr 115 _ (by omega) (by omega)
    have wT : μ1 116 (9000 * g + pc) = μ 116 (9000 * g + pc) := fr 116 _ (by omega) (by omega)
    -- on, without fuel
    have on : ∀ (l' : ab_l) (μ2 : ab_m) (L' : List Int) (v' pc' : Int), l' 0 = 109 → l' 1 = fuel → l' 2 = pc' → l' 3 = (L'.length : Int) → l' 4 = v' + Γ.1 pc' → 0 ≤ pc' → pc' < N → rFr Γ N dn L' (Γ.2.2.2.1 pc') v' → rtB μ2 L' → rtC μ μ2 fuel → μ2 109 57 = μ1 109 57 → rtT μ g Γ N L' pc' < m → jj_mM_runText X (d + 1) 879 l' [] μ2 P := fun l' μ2 L' v' pc' a0 a1 a2 a3 a4 a5 a6 a7 a8 a9 a10 a11 => bk_mM_runText_879 a0 (ihm _ a11 l' μ2 L' v' pc' a0 a1 a2 a3 a4 a5 a6 a7 a8 a9 (by rw [a10]; exact hf) rfl)
    have sB : ∀ {μ2 : ab_m} {c j x : Int}, μ2 = ab_mu μ1 c j x → c ≠ 143 → rtB μ2 L := fun e z => hB.same fun i _ _ => by rw [e, mu_ne (by omega)]
    have s57 : ∀ {μ2 : ab_m} {c j x : Int}, μ2 = ab_mu μ1 c j x → c ≠ 109 → μ2 109 57 = μ1 109 57 := fun e z => by rw [e, mu_ne (by omega)]
    refine bk_mM_runText_37 l0 ?_
    rw [l1, l2, l3, l4, w18, wk, wS, wT]
    have nxt : μ 115 (9000 * g + pc) ≠ 29 → μ 115 (9000 * g + pc) ≠ 30 → pc + 1 < N ∧ tHu (μ 115 (9000 * g + pc)) (tAr (tEv μ g dn) (μ 115 (9000 * g + pc)) (μ 116 (9000 * g + pc))) (Γ.1 pc) (Γ.1 (pc + 1)) ∧ Γ.2.2.2.1 (pc + 1) = Γ.2.2.2.1 pc := fun a b => by
      obtain ⟨n1, n2, n3, -⟩ := t.nx p0 pN a b
      exact ⟨n1, tMv_u _ n2, n3⟩
    have k29 : μ 115 (9000 * g + pc) = 29 → Γ.1 pc = 0 ∧ Γ.2.2.2.1 (pc + 1) = Γ.2.2.2.1 pc + 1 ∧ pc + 1 < N := fun a => by
      have st := t.st
      have ne : pc ≠ N - 1 := fun z => by rw [z] at a; omega
      rcases (t.k pc p0 pN).1.1 with h | h | h
      · exact ⟨h.2.1, h.2.2.2.2.2.2.1, by omega⟩
      · have : μ 115 (9000 * g + pc) = 30 := h.1
        omega
      · have h := (tMv_u _ h.1).1
        have h : 1 ≤ μ 115 (9000 * g + pc) ∧ μ 115 (9000 * g + pc) ≤ 28 := h
        omega
    have rk0 := @rtK_pos μ g N Γ pc pN (by omega)
    have vkk : tVk (tEv μ g dn) Γ pc (μ 115 (9000 * g + pc)) (μ 116 (9000 * g + pc)) := (t.k pc p0 pN).1.2
    have gj := t.rkj p0 pN
    have rkn := t.rk p0 pN
    generalize hS : μ 115 (9000 * g + pc) = S at *
    generalize hT : μ 116 (9000 * g + pc) = T at *
    have wp : ab_w (pc + 1) = pc + 1 := ab_wi (by omega) (by omega)
    have st : S ≠ 29 → S ≠ 30 → ¬ (S = 14 ∨ S = 18 ∨ S = 22) → ∀ (l' : ab_l) (μ2 : ab_m), l' 0 = 109 → l' 1 = fuel → l' 2 = ab_w (pc + 1) → l' 3 = (L.length : Int) → l' 4 = v + Γ.1 (pc + 1) → rtB μ2 L → rtC μ μ2 fuel → μ2 109 57 = μ1 109 57 → jj_mM_runText X (d + 1) 879 l' [] μ2 P := fun z1 z2 z3 l' μ2 a0 a1 a2 a3 a4 a5 a6 a7 => by
      obtain ⟨n1, n2, n3⟩ := nxt z1 z2
      exact on l' μ2 L v (pc + 1) a0 a1 (by rw [a2, wp]) a3 a4 (by omega) n1 (by rw [n3]; exact hL) a5 a6 a7 (by rw [← hm]; exact rtT_on (rkn z1 z2 z3) n3)
    have jp : tGo S → ∀ (l' : ab_l) (μ2 : ab_m), l' 0 = 109 → l' 1 = fuel → l' 2 = T → l' 3 = (L.length : Int) → l' 4 = v + tHj S (Γ.1 pc) → rtB μ2 L → rtC μ μ2 fuel → μ2 109 57 = μ1 109 57 → jj_mM_runText X (d + 1) 879 l' [] μ2 P := fun z1 l' μ2 a0 a1 a2 a3 a4 a5 a6 a7 => by
      obtain ⟨j1, j2, j3, j4, j5⟩ := gj z1
      exact on l' μ2 L v T a0 a1 a2 a3 (by rw [a4, j4]) j1 j2 (by rw [j3]; exact hL) a5 a6 a7 (by rw [← hm]; exact rtT_on j5 j3)
    have fu : S = 14 ∨ S = 18 ∨ S = 22 → μ1 109 57 ≠ fuel → ∀ (l' : ab_l) (μ2 : ab_m), μ2 = ab_mu μ1 109 57 (ab_w (μ1 109 57 + 1)) → l' 0 = 109 → l' 1 = fuel → l' 2 = ab_w (pc + 1) → l' 3 = (L.length : Int) → l' 4 = v + Γ.1 pc → jj_mM_runText X (d + 1) 879 l' [] μ2 P := fun z1 z2 l' μ2 e2 a0 a1 a2 a3 a4 => by
      obtain ⟨n1, n2, n3⟩ := nxt (by omega) (by omega)
      have u := hC.u
      rw [show ab_w (μ1 109 57 + 1) = μ1 109 57 + 1 from ab_wi (by omega) (by omega)] at e2
      have h57 : μ2 109 57 = μ1 109 57 + 1 := by rw [e2, ab_mud, if_pos ⟨rfl, rfl⟩]
      have ff : ∀ b i, ¬ (b = 109 ∧ i = 57) → μ2 b i = μ1 b i := fun b i z => by rw [e2, ab_mud, if_neg z]
      have hu := n2.2.2.2.2.2.1
      refine bk_mM_runText_879 a0 (ihf _ (by omega) _ l' μ2 L v (pc + 1) a0 a1 (by rw [a2, wp]) a3 (by rw [a4]; have := hu (by omega); omega) (by omega) n1 (by rw [n3]; exact hL) (hB.same fun i _ _ => ff 143 i (by omega)) ⟨fun b i y1 y2 => by rw [ff b i (by omega)]; exact fr b i y1 y2, by rw [h57]; omega, by rw [ff 109 54 (by omega)]; exact hC.tk, by rw [ff 109 56 (by omega)]; exact hC.pr⟩ (show (fuel - μ2 109 57).toNat = _ from rfl) rfl)
    have kb : (0 : Int) ≤ 9000 * g + pc ∧ (9000 * g + pc : Int) < 18000 := by omega
    have hu : S ≠ 29 → S ≠ 30 → tHu S (tAr (tEv μ g dn) S T) (Γ.1 pc) (Γ.1 (pc + 1)) := fun a b => (nxt a b).2.1
    have W1 : ab_w (v + Γ.1 pc + 1) = v + Γ.1 pc + 1 := ab_wi (by omega) (by omega)
    have Wm : ab_w (v + Γ.1 pc + -1) = v + Γ.1 pc + -1 := ab_wi (by omega) (by omega)
    have Wd : ab_w (v + Γ.1 pc - 1) = v + Γ.1 pc - 1 := ab_wi (by omega) (by omega)
    have W2 : ab_w (v + Γ.1 pc + -2) = v + Γ.1 pc + -2 := ab_wi (by omega) (by omega)
    rw [W1, Wm, Wd, W2]
    have mid : S = 7 → ∀ (s0 : Int) (l' : ab_l), l' 0 = 109 → l' 1 = fuel → l' 2 = ab_w (pc + 1) → l' 3 = (L.length : Int) → l' 4 = v + Γ.1 pc → l' 5 = 9000 * g + pc → l' 6 = T → jj_mM_runText X (d + 1) 388 l' [(0, s0)] μ1 P := fun z s0 l' a0 a1 a2 a3 a4 a5 a6 => by
      have u := hu (by omega) (by omega)
      unfold tHu at u
      refine bk_mM_runText_388 a0 ?_
      rw [a5, a4, a6, Wm, Wd]
      have h4 : l' 4 = v + tHj S (Γ.1 pc) := by rw [a4]; unfold tHj; rw [if_neg (by omega)]
      exact ⟨kb, fun _ => st (by omega) (by omega) (by omega) _ μ1 a0 a1 a2 a3 (by show v + Γ.1 pc + -1 = _; omega) hB hC rfl, fun _ => ⟨kb, fun _ => ⟨by omega, fun μ2 e2 => jp (by unfold tGo; omega) _ μ2 a0 a1 rfl a3 h4 (sB e2 (by decide)) (hC.mu e2 (by decide)) (s57 e2 (by decide))⟩, fun _ => ⟨by omega, fun μ2 e2 => jp (by unfold tGo; omega) _ μ2 a0 a1 rfl a3 h4 (sB e2 (by decide)) (hC.mu e2 (by decide)) (s57 e2 (by decide))⟩⟩⟩
    have cal : S = 9 → ∀ (n : Nat) (l' : ab_l) (μ2 : ab_m) (i : Int), l' 0 = 109 → l' 1 = fuel → l' 2 = pc + 1 → l' 3 = (L.length : Int) → l' 4 = v + Γ.1 pc - μ 120 (16 * g + T) → l' 6 = T → l' 7 = μ 120 (16 * g + T) → l' 8 = i → 0 ≤ i → (μ 120 (16 * g + T) - i).toNat = n → rtB μ2 L → rtC μ μ2 fuel → μ2 109 57 = μ1 109 57 → jj_mM_runText X (d + 1) 490 l' [] μ2 P := fun z => by
      obtain ⟨n1, n2, n3⟩ := nxt (by omega) (by omega)
      have q := vkk.2.2.2.1 z
      have q3 : T < dn := q.2.2
      obtain ⟨d1, d2, d3, d4, d5, d6, d7, d8, d9, d10⟩ := t.d T q.1 q3
      have u := n2.2.2.2.2.2.2.1 z
      unfold tAr at u
      rw [if_pos z] at u
      have u : 0 ≤ μ 120 (16 * g + T) ∧ μ 120 (16 * g + T) ≤ Γ.1 pc ∧ Γ.1 (pc + 1) = Γ.1 pc - μ 120 (16 * g + T) + 1 := u
      have rkk := rkn (by omega) (by omega) (by omega)
      intro n
      induction n with
      | zero =>
        intro l' μ2 i a0 a1 a2 a3 a4 a6 a7 a8 i0 en b2 c2 f2
        refine bk_mM_runText_490 a0 ?_
        rw [a2, a3, a6, a7, a8]
        refine ⟨fun _ => ⟨by omega, fun μ3 e3 => ⟨by omega, fun μ4 e4 => ?_⟩⟩, fun y => by omega⟩
        have c3 := c2.mu e3 (by decide)
        have c4 := c3.mu e4 (by decide)
        have x18 : μ4 109 18 = g := by rw [c4.fr 109 18 (by omega) (by omega)]; exact hg
        have x118 : μ4 118 (16 * g + T) = μ 118 (16 * g + T) := c4.fr 118 _ (by omega) (by omega)
        have wt : ab_w (ab_w (16 * g) + T) = 16 * g + T := by rw [show ab_w (16 * g) = 16 * g from ab_wi (by omega) (by omega)]; exact ab_wi (by omega) (by omega)
        rw [x18, wt, x118, show ab_w ((L.length : Int) + 1) = L.length + 1 from ab_wi (by omega) (by omega)]
        refine ⟨by omega, on _ μ4 ((pc + 1) :: L) (v + Γ.1 pc - μ 120 (16 * g + T)) (μ 118 (16 * g + T)) a0 a1 rfl (by simp; rfl) (by show l' 4 = _; rw [a4, d4]; omega) d1 d2 ⟨by omega, n1, by omega, by omega, v, by omega, by rw [n3]; exact hL⟩ ⟨?_, ?_⟩ c4 (by rw [e4, mu_ne (by decide), e3, mu_ne (by decide)]; exact f2) (by rw [← hm]; exact rtT_call rkk n3 d1 (by omega))⟩
        · rw [e4, mu_ne (by decide), e3, ab_mud, if_pos ⟨rfl, rfl⟩]
        · exact b2.same fun j j0 j1 => by rw [e4, mu_ne (by decide), e3, ab_mud, if_neg (by omega)]
      | succ n ih =>
        intro l' μ2 i a0 a1 a2 a3 a4 a6 a7 a8 i0 en b2 c2 f2
        refine bk_mM_runText_490 a0 ?_
        rw [a4, a6, a7, a8]
        refine ⟨fun y => by omega, fun y => ?_⟩
        have x18 : μ2 109 18 = g := by rw [c2.fr 109 18 (by omega) (by omega)]; exact hg
        have x119 : μ2 119 (16 * g + T) = μ 119 (16 * g + T) := c2.fr 119 _ (by omega) (by omega)
        have wt : ab_w (ab_w (16 * g) + T) = 16 * g + T := by rw [show ab_w (16 * g) = 16 * g from ab_wi (by omega) (by omega)]; exact ab_wi (by omega) (by omega)
        rw [x18, wt, x119, show ab_w (μ 119 (16 * g + T) + i) = μ 119 (16 * g + T) + i from ab_wi (by omega) (by omega), show ab_w (v + Γ.1 pc - μ 120 (16 * g + T) + i) = v + Γ.1 pc - μ 120 (16 * g + T) + i from ab_wi (by omega) (by omega), show ab_w (i + 1) = i + 1 from ab_wi (by omega) (by omega)]
        exact ⟨by omega, by omega, by omega, fun μ3 e3 => ih _ μ3 (i + 1) a0 a1 a2 a3 a4 a6 a7 rfl (by omega) (by omega) (b2.same fun j j0 j1 => by rw [e3, mu_ne (by decide)]) (c2.mu e3 (by decide)) (by rw [e3, mu_ne (by decide)]; exact f2)⟩
    refine ⟨kb, kb, ⟨?_, ?_, ?_, ?_, ?_, ?_, ?_, ?_, ?_, ?_, ?_, ?_, ?_, ?_, ?_, ?_, ?_, ?_, ?_, ?_, ?_, ?_, ?_, ?_, ?_, ?_, ?_, ?_, ?_, ?_, trivial⟩, fun z => ?_⟩
    · intro z; have u := hu (by omega) (by omega); unfold tHu at u; exact ⟨by omega, fun μ2 e2 => st (by omega) (by omega) (by omega) _ μ2 l0 l1 rfl l3 (by show v + Γ.1 pc + 1 = _; omega) (sB e2 (by decide)) (hC.mu e2 (by decide)) (s57 e2 (by decide))⟩
    · intro z; have u := hu (by omega) (by omega); unfold tHu at u; have q := vkk.2.2.2.2.1 (by omega); exact ⟨q, by omega, fun μ2 e2 => st (by omega) (by omega) (by omega) _ μ2 l0 l1 rfl l3 (by show v + Γ.1 pc + 1 = _; omega) (sB e2 (by decide)) (hC.mu e2 (by decide)) (s57 e2 (by decide))⟩
    · intro z
      have u := hu (by omega) (by omega)
      unfold tHu at u
      have q := vkk.1 (by omega)
      refine ⟨by omega, c_mM_isCell (by rw [w18]; exact g01) q (fun i0 i1 => ⟨fun _ => ?_, fun y => absurd y (by decide)⟩) ⟨fun y => absurd rfl y, fun _ => hP _ _ hC⟩⟩
      rw [w18, fr 121 _ (by omega) (by omega)] at i1
      have r1 := rs (8 * g + T) (by omega) (by omega)
      rw [show ab_w (100 * T) = 100 * T from ab_wi (by omega) (by omega), show ab_w (100 * T + μ1 142 (v + Γ.1 pc - 1)) = 100 * T + μ1 142 (v + Γ.1 pc - 1) from ab_wi (by omega) (by omega)]
      exact ⟨by omega, by omega, by omega, fun μ2 e2 => st (by omega) (by omega) (by omega) _ μ2 l0 l1 rfl l3 (by show l 4 = _; rw [l4]; omega) (sB e2 (by decide)) (hC.mu e2 (by decide)) (s57 e2 (by decide))⟩
    · intro z; have u := hu (by omega) (by omega); unfold tHu at u; exact ⟨by omega, c_mM_one fun x => ⟨by omega, fun μ2 e2 => st (by omega) (by omega) (by omega) _ μ2 l0 l1 rfl l3 (by show l 4 = _; rw [l4]; omega) (sB e2 (by decide)) (hC.mu e2 (by decide)) (s57 e2 (by decide))⟩⟩
    · intro z
      have u := hu (by omega) (by omega)
      unfold tHu at u
      rw [show ab_w (v + Γ.1 pc + -1 - 1) = v + Γ.1 pc + -1 - 1 from ab_wi (by omega) (by omega)]
      exact ⟨by omega, c_mM_isByNothing fun x _ => ⟨fun _ => ⟨by omega, by omega, c_mM_two fun y => ⟨by omega, fun μ2 e2 => st (by omega) (by omega) (by omega) _ μ2 l0 l1 rfl l3 (by show v + Γ.1 pc + -1 = _; omega) (sB e2 (by decide)) (hC.mu e2 (by decide)) (s57 e2 (by decide))⟩⟩, fun _ => hP _ _ hC⟩⟩
    · intro z; have u := hu (by omega) (by omega); unfold tHu at u; exact st (by omega) (by omega) (by omega) _ μ1 l0 l1 rfl l3 (by show l 4 = _; rw [l4]; omega) hB hC rfl
    · intro z; have u := hu (by omega) (by omega); unfold tHu at u; exact ⟨by omega, fun _ => mid z 0 _ l0 l1 rfl l3 l4 rfl rfl, fun _ => mid z 1 _ l0 l1 rfl l3 l4 rfl rfl⟩
    · intro z; have u := hu (by omega) (by omega); unfold tHu at u; exact ⟨by omega, fun _ => ⟨by omega, fun μ2 e2 => st (by omega) (by omega) (by omega) _ μ2 l0 l1 rfl l3 (by show l 4 = _; rw [l4]; omega) (sB e2 (by decide)) (hC.mu e2 (by decide)) (s57 e2 (by decide))⟩, fun _ => ⟨by omega, fun μ2 e2 => st (by omega) (by omega) (by omega) _ μ2 l0 l1 rfl l3 (by show l 4 = _; rw [l4]; omega) (sB e2 (by decide)) (hC.mu e2 (by decide)) (s57 e2 (by decide))⟩⟩
    · intro z
      have u := (hu (by omega) (by omega)).2.2.2.2.2.2.1 z
      unfold tAr at u
      rw [if_pos z] at u
      have u : 0 ≤ μ 120 (16 * g + T) ∧ μ 120 (16 * g + T) ≤ Γ.1 pc ∧ Γ.1 (pc + 1) = Γ.1 pc - μ 120 (16 * g + T) + 1 := u
      have q := vkk.2.2.2.1 z
      have q3 : T < dn := q.2.2
      have wt : ab_w (ab_w (16 * g) + T) = 16 * g + T := by rw [show ab_w (16 * g) = 16 * g from ab_wi (by omega) (by omega)]; exact ab_wi (by omega) (by omega)
      rw [wt, fr 120 _ (by omega) (by omega), show ab_w (v + Γ.1 pc - μ 120 (16 * g + T)) = v + Γ.1 pc - μ 120 (16 * g + T) from ab_wi (by omega) (by omega)]
      exact ⟨by omega, cal z _ _ μ1 0 l0 l1 wp l3 rfl rfl rfl rfl (by omega) rfl hB hC rfl⟩
    · intro z; have u := hu (by omega) (by omega); unfold tHu at u; exact st (by omega) (by omega) (by omega) _ μ1 l0 l1 rfl l3 (by show v + Γ.1 pc + -1 = _; omega) hB hC rfl
    · intro z; have u := hu (by omega) (by omega); unfold tHu at u; have q := vkk.2.2.2.2.1 (by omega); exact ⟨q, fun μ2 e2 => st (by omega) (by omega) (by omega) _ μ2 l0 l1 rfl l3 (by show l 4 = _; rw [l4]; omega) (sB e2 (by decide)) (hC.mu e2 (by decide)) (s57 e2 (by decide))⟩
    · intro z; have u := hu (by omega) (by omega); unfold tHu at u; have q := vkk.2.2.2.2.1 (by omega); exact ⟨by omega, q, fun μ2 e2 => st (by omega) (by omega) (by omega) _ μ2 l0 l1 rfl l3 (by show v + Γ.1 pc + -1 = _; omega) (sB e2 (by decide)) (hC.mu e2 (by decide)) (s57 e2 (by decide))⟩
    · intro z
      have u := hu (by omega) (by omega)
      unfold tHu at u
      have q := vkk.1 (by omega)
      refine ⟨by omega, c_mM_isCell (by rw [w18]; exact g01) q (fun i0 i1 => ⟨fun _ => ?_, fun y => absurd y (by decide)⟩) ⟨fun y => absurd rfl y, fun _ => hP _ _ hC⟩⟩
      rw [w18, fr 121 _ (by omega) (by omega)] at i1
      have r1 := rs (8 * g + T) (by omega) (by omega)
      rw [show ab_w (100 * T) = 100 * T from ab_wi (by omega) (by omega), show ab_w (100 * T + μ1 142 (v + Γ.1 pc + -2)) = 100 * T + μ1 142 (v + Γ.1 pc + -2) from ab_wi (by omega) (by omega), show ab_w (v + Γ.1 pc + -2 + 1) = v + Γ.1 pc + -2 + 1 from ab_wi (by omega) (by omega)]
      exact ⟨by omega, by omega, by omega, fun μ2 e2 => st (by omega) (by omega) (by omega) _ μ2 l0 l1 rfl l3 (by show v + Γ.1 pc + -2 = _; omega) (sB e2 (by decide)) (hC.mu e2 (by decide)) (s57 e2 (by decide))⟩
    · intro z; exact ⟨fun y μ2 e2 => fu (by omega) y _ μ2 e2 l0 l1 rfl l3 l4, fun _ => hP _ _ hC⟩
    · intro z; have u := hu (by omega) (by omega); unfold tHu at u; exact ⟨by omega, fun _ => st (by omega) (by omega) (by omega) _ μ1 l0 l1 rfl l3 (by show v + Γ.1 pc + -1 = _; omega) hB hC rfl, fun _ => jp (by unfold tGo; omega) _ μ1 l0 l1 rfl l3 (by show v + Γ.1 pc + -1 = v + tHj S (Γ.1 pc); unfold tHj; rw [if_pos (by omega)]; omega) hB hC rfl⟩
    · intro z; have u := hu (by omega) (by omega); unfold tHu at u; exact jp (by unfold tGo; omega) _ μ1 l0 l1 rfl l3 (by show l 4 = v + tHj S (Γ.1 pc); rw [l4]; unfold tHj; rw [if_neg (by omega)]) hB hC rfl
    · intro z; have u := hu (by omega) (by omega); unfold tHu at u; exact st (by omega) (by omega) (by omega) _ μ1 l0 l1 rfl l3 (by show l 4 = _; rw [l4]; omega) hB hC rfl
    · intro z; exact ⟨fun y μ2 e2 => fu (by omega) y _ μ2 e2 l0 l1 rfl l3 l4, fun _ => hP _ _ hC⟩
    · intro z; have u := hu (by omega) (by omega); unfold tHu at u; exact ⟨by omega, fun _ => st (by omega) (by omega) (by omega) _ μ1 l0 l1 rfl l3 (by show v + Γ.1 pc + -1 = _; omega) hB hC rfl, fun _ => jp (by unfold tGo; omega) _ μ1 l0 l1 rfl l3 (by show v + Γ.1 pc + -1 = v + tHj S (Γ.1 pc); unfold tHj; rw [if_pos (by omega)]; omega) hB hC rfl⟩
    · intro z; have u := hu (by omega) (by omega); unfold tHu at u; exact jp (by unfold tGo; omega) _ μ1 l0 l1 rfl l3 (by show l 4 = v + tHj S (Γ.1 pc); rw [l4]; unfold tHj; rw [if_neg (by omega)]) hB hC rfl
    · intro z; have u := hu (by omega) (by omega); unfold tHu at u; exact st (by omega) (by omega) (by omega) _ μ1 l0 l1 rfl l3 (by show l 4 = _; rw [l4]; omega) hB hC rfl
    · intro z; exact ⟨fun y μ2 e2 => fu (by omega) y _ μ2 e2 l0 l1 rfl l3 l4, fun _ => hP _ _ hC⟩
    · intro z; have u := hu (by omega) (by omega); unfold tHu at u; exact ⟨by omega, fun _ => st (by omega) (by omega) (by omega) _ μ1 l0 l1 rfl l3 (by show v + Γ.1 pc + -1 = _; omega) hB hC rfl, fun _ => jp (by unfold tGo; omega) _ μ1 l0 l1 rfl l3 (by show v + Γ.1 pc + -1 = v + tHj S (Γ.1 pc); unfold tHj; rw [if_pos (by omega)]; omega) hB hC rfl⟩
    · intro z; have u := hu (by omega) (by omega); unfold tHu at u; exact jp (by unfold tGo; omega) _ μ1 l0 l1 rfl l3 (by show l 4 = v + tHj S (Γ.1 pc); rw [l4]; unfold tHj; rw [if_neg (by omega)]) hB hC rfl
    · intro z; have u := hu (by omega) (by omega); unfold tHu at u; exact jp (by unfold tGo; omega) _ μ1 l0 l1 rfl l3 (by show l 4 = v + tHj S (Γ.1 pc); rw [l4]; unfold tHj; rw [if_neg (by omega)]) hB hC rfl
    · intro z
      have u := hu (by omega) (by omega)
      unfold tHu at u
      have rd : Γ.2.2.2.1 pc < dn := vkk.2.2.2.2.2.2 z
      have Lp : 1 ≤ (L.length : Int) := by
        cases L with
        | nil => have := hL.1; omega
        | cons b bs => simp; omega
      rw [show ab_w ((L.length : Int) - 1) = L.length - 1 from ab_wi (by omega) (by omega)]
      exact ⟨by omega, by omega, fun μ2 e2 => jp (by unfold tGo; omega) _ μ2 l0 l1 rfl l3 (by show v + Γ.1 pc + -1 = v + tHj S (Γ.1 pc); unfold tHj; rw [if_pos (by omega)]; omega) (sB e2 (by decide)) (hC.mu e2 (by decide)) (s57 e2 (by decide))⟩
    · intro z
      have u := hu (by omega) (by omega)
      unfold tHu at u
      have pr := hC.pr
      refine ⟨fun y => ⟨by omega, by omega, fun μ2 e2 μ3 e3 => ?_⟩, fun _ => hP _ _ hC⟩
      have c2 := hC.mu e2 (by decide)
      have h56 : μ2 109 56 = μ1 109 56 := by rw [e2, mu_ne (by decide)]
      rw [h56, show ab_w (μ1 109 56 + 1) = μ1 109 56 + 1 from ab_wi (by omega) (by omega)] at e3
      have f3 : ∀ b i, ¬ (b = 109 ∧ i = 56) → μ3 b i = μ2 b i := fun b i y => by rw [e3, ab_mud, if_neg y]
      have x56 : μ3 109 56 = μ1 109 56 + 1 := by rw [e3, ab_mud, if_pos ⟨rfl, rfl⟩]
      exact st (by omega) (by omega) (by omega) _ μ3 l0 l1 rfl l3 (by show v + Γ.1 pc + -1 = _; omega) ((sB e2 (by decide)).same fun i _ _ => f3 143 i (by omega)) ⟨fun b i y1 y2 => by rw [f3 b i (by omega)]; exact c2.fr b i y1 y2, by rw [f3 109 57 (by omega)]; exact c2.u, by rw [f3 109 54 (by omega)]; exact c2.tk, by rw [x56]; omega⟩ (by rw [f3 109 57 (by omega)]; exact s57 e2 (by decide))
    · intro z
      have u := hu (by omega) (by omega)
      unfold tHu at u
      have tk := hC.tk
      have q := vkk.2.2.2.2.1 (by omega)
      have x53 : μ1 109 53 = μ 109 53 := fr 109 53 (by omega) (by omega)
      rw [x53]
      refine ⟨fun y => ⟨by omega, q, fun μ2 e2 μ3 e3 => ?_⟩, fun _ => hP _ _ hC⟩
      have c2 := hC.mu e2 (by decide)
      have h54 : μ2 109 54 = μ1 109 54 := by rw [e2, mu_ne (by decide)]
      rw [h54, show ab_w (μ1 109 54 + 1) = μ1 109 54 + 1 from ab_wi (by omega) (by omega)] at e3
      have f3 : ∀ b i, ¬ (b = 109 ∧ i = 54) → μ3 b i = μ2 b i := fun b i y => by rw [e3, ab_mud, if_neg y]
      have x54 : μ3 109 54 = μ1 109 54 + 1 := by rw [e3, ab_mud, if_pos ⟨rfl, rfl⟩]
      exact st (by omega) (by omega) (by omega) _ μ3 l0 l1 rfl l3 (by show l 4 = _; rw [l4]; omega) ((sB e2 (by decide)).same fun i _ _ => f3 143 i (by omega)) ⟨fun b i y1 y2 => by rw [f3 b i (by omega)]; exact c2.fr b i y1 y2, by rw [f3 109 57 (by omega)]; exact c2.u, by rw [x54]; omega, by rw [f3 109 56 (by omega)]; exact c2.pr⟩ (by rw [f3 109 57 (by omega)]; exact s57 e2 (by decide))
    · intro z
      obtain ⟨h0', r1, n1⟩ := k29 z
      have rn := t.rle (k := pc + 1) (by omega) n1
      have rk1 := (rk0 (by omega)).2.1
      cases L with
      | nil => have := hL.1; omega
      | cons b bs =>
        have ln : ((b :: bs : List Int).length : Int) = bs.length + 1 := by simp
        obtain ⟨b0, bN, pb, hb1, v', ev, hL'⟩ := hL
        obtain ⟨B1, B2⟩ := hB
        rw [ln] at Ll
        rw [ln, show ab_w ((bs.length : Int) + 1 + -1) = bs.length from by rw [ab_wi (by omega) (by omega)]; omega]
        refine ⟨by omega, by omega, fun μ2 e2 => ⟨by omega, ?_⟩⟩
        have c2 := hC.mu e2 (by decide)
        have x : ∀ j, μ2 143 j = μ1 143 j := fun j => by rw [e2, mu_ne (by decide)]
        exact on _ μ2 bs v' b l0 l1 (show μ2 143 bs.length = b by rw [x, B1]) rfl (by show v + Γ.1 pc + 1 = _; omega) b0 bN hL' (B2.same fun j _ _ => x j) c2 (s57 e2 (by decide)) (by rw [← hm]; exact rtT_back rk1)
    · intro z; exact hP _ _ hC
    · have := (hu (by omega) (by omega)).1; omega
end M75

