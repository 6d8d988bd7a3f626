/-! THE CLASS, part k29: settle -/
section K29
variable {X : jm_X} {d : Nat} {P : Int → ab_m → Prop} {μ μ' μ0 μ1 : ab_m} {s t τ t' τ' ζ δ b b' H H' κ κ' o o' k k' n0 h u c h' u' c' w : Int} {Z Z' : Int → Prop} {Γ : scG} {Lb Ln Lb' Ln' : List Int} {p : Nat}
end K29
/-- an expr under way: w 1 if its operand is there, 0 if it is wanted -/
def zQ (s ζ δ b : Int) (Z : Int → Prop) (Lb Ln : List Int) (μ0 μ : ab_m) (t τ H κ o k w : Int) (p : Nat) (h u c : Int) : Prop := (zW s ζ δ b Z Lb Ln μ0 μ (t - c) τ (H + h + w) κ (o + u) k) ∧ (zP μ s ζ δ (μ0 s 4) p h u c) ∧ (μ 2 19 = p + 1) ∧ (μ 2 4 = 0) ∧ (w = 1 → μ 12 p < μ s 4)
theorem zQ.W {s ζ δ b : Int} {Z : Int → Prop} {Lb Ln : List Int} {μ0 μ : ab_m} {t τ H κ o k w : Int} {p : Nat} {h u c : Int} (h'' : zQ s ζ δ b Z Lb Ln μ0 μ t τ H κ o k w p h u c) : zW s ζ δ b Z Lb Ln μ0 μ (t - c) τ (H + h + w) κ (o + u) k := h''.1
theorem zQ.Q {s ζ δ b : Int} {Z : Int → Prop} {Lb Ln : List Int} {μ0 μ : ab_m} {t τ H κ o k w : Int} {p : Nat} {h u c : Int} (h'' : zQ s ζ δ b Z Lb Ln μ0 μ t τ H κ o k w p h u c) : zP μ s ζ δ (μ0 s 4) p h u c := h''.2.1
theorem zQ.n {s ζ δ b : Int} {Z : Int → Prop} {Lb Ln : List Int} {μ0 μ : ab_m} {t τ H κ o k w : Int} {p : Nat} {h u c : Int} (h'' : zQ s ζ δ b Z Lb Ln μ0 μ t τ H κ o k w p h u c) : μ 2 19 = p + 1 := h''.2.2.1
theorem zQ.z {s ζ δ b : Int} {Z : Int → Prop} {Lb Ln : List Int} {μ0 μ : ab_m} {t τ H κ o k w : Int} {p : Nat} {h u c : Int} (h'' : zQ s ζ δ b Z Lb Ln μ0 μ t τ H κ o k w p h u c) : μ 2 4 = 0 := h''.2.2.2.1
theorem zQ.g {s ζ δ b : Int} {Z : Int → Prop} {Lb Ln : List Int} {μ0 μ : ab_m} {t τ H κ o k w : Int} {p : Nat} {h u c : Int} (h'' : zQ s ζ δ b Z Lb Ln μ0 μ t τ H κ o k w p h u c) : w = 1 → μ 12 p < μ s 4 := h''.2.2.2.2
section K29
variable {X : jm_X} {d : Nat} {P : Int → ab_m → Prop} {μ μ' μ0 μ1 : ab_m} {s t τ t' τ' ζ δ b b' H H' κ κ' o o' k k' n0 h u c h' u' c' w : Int} {Z Z' : Int → Prop} {Γ : scG} {Lb Ln Lb' Ln' : List Int} {p : Nat}
end K29
/-- what stays through an expr -/
def zH (μ0 : ab_m) (s ζ t H κ o : Int) : Prop := (t ≤ 1) ∧ (0 ≤ κ ∧ κ ≤ 30) ∧ (0 ≤ H) ∧ (0 ≤ o) ∧ (μ0 2 5 = 0 → ζ ≤ μ0 s 4) ∧ (0 ≤ μ0 s 4)
theorem zH.t0 {μ0 : ab_m} {s ζ t H κ o : Int} (h'' : zH μ0 s ζ t H κ o) : t ≤ 1 := h''.1
theorem zH.k0 {μ0 : ab_m} {s ζ t H κ o : Int} (h'' : zH μ0 s ζ t H κ o) : 0 ≤ κ ∧ κ ≤ 30 := h''.2.1
theorem zH.h0 {μ0 : ab_m} {s ζ t H κ o : Int} (h'' : zH μ0 s ζ t H κ o) : 0 ≤ H := h''.2.2.1
theorem zH.o0 {μ0 : ab_m} {s ζ t H κ o : Int} (h'' : zH μ0 s ζ t H κ o) : 0 ≤ o := h''.2.2.2.1
theorem zH.z0 {μ0 : ab_m} {s ζ t H κ o : Int} (h'' : zH μ0 s ζ t H κ o) : μ0 2 5 = 0 → ζ ≤ μ0 s 4 := h''.2.2.2.2.1
theorem zH.n0 {μ0 : ab_m} {s ζ t H κ o : Int} (h'' : zH μ0 s ζ t H κ o) : 0 ≤ μ0 s 4 := h''.2.2.2.2.2
section K29
variable {X : jm_X} {d : Nat} {P : Int → ab_m → Prop} {μ μ' μ0 μ1 : ab_m} {s t τ t' τ' ζ δ b b' H H' κ κ' o o' k k' n0 h u c h' u' c' w : Int} {Z Z' : Int → Prop} {Γ : scG} {Lb Ln Lb' Ln' : List Int} {p : Nat}
theorem zW.to (h : zW s ζ δ b Z Lb Ln μ0 μ t τ H κ o k) (e1 : t = t') (e2 : H = H') (e3 : o = o') : zW s ζ δ b Z Lb Ln μ0 μ t' τ H' κ o' k := by subst e1 e2 e3; exact h
/-- a jump gets its aim -/
theorem zW.setArg {x v : Int} (h : zW s ζ δ b Z Lb Ln μ0 μ t τ H κ o k) (e : μ' = ab_mu μ (s + 2) x v) (hx : μ0 s 4 ≤ x ∨ 3000 < x) (hb : x ∉ Lb) (hn : x ∉ Ln) (hg : μ 2 5 = 0 → (ζ ≤ x ∧ x < μ s 4 ∧ ((25 ≤ μ (s + 1) x ∧ μ (s + 1) x ≤ 27) ∨ μ (s + 1) x = 36 ∨ μ (s + 1) x = 37)) ∧ ζ ≤ v ∧ v ≤ μ s 4) : zW s ζ δ b Z Lb Ln μ0 μ' t τ H κ o k := by
  have hs := h.s'
  have g : ∀ c j, c ≠ s + 2 → μ' c j = μ c j := fun c j q => by rw [e, mu_ne q]
  have gs : ∀ j, μ' s j = μ s j := fun j => g s j (by omega)
  have g2 : ∀ j, j ≠ x → μ' (s + 2) j = μ (s + 2) j := fun j q => by rw [e, ab_mud, if_neg (fun y => q y.2)]
  have g1 : ∀ j, μ' (s + 1) j = μ (s + 1) j := fun j => g _ j (by omega)
  have ch : ∀ L y, x ∉ L → zDc μ s L y → zDc μ' s L y := fun L y q w => w.same (by rw [gs]; exact Int.le_refl _) fun z hz => ⟨g1 z, g2 z fun r => q (r ▸ hz)⟩
  refine h.stp (fun c j q => g c j (by omega)) (fun j _ => gs j) (fun k _ q1 q2 => ⟨g1 k, g2 k (by omega)⟩) (by rw [gs]; exact ⟨Int.le_refl _, h.i.n.2⟩) (fun q => by rw [gs]; exact (h.i.ph q).1) ⟨by rw [g 2 12 (by omega)]; exact ch _ _ hb h.c.b, by rw [g 2 13 (by omega)]; exact ch _ _ hn h.c.n, h.c.d⟩ fun q => ?_
  obtain ⟨Γ, gg⟩ := h.g q
  have hg := hg q
  exact ⟨Γ, gg.args (D := fun k => k = x) (v := v) (fun k y => by rw [show k = x from y]; exact hg.1) hg.2 (fun k y => by rw [e, ab_mud, if_pos ⟨rfl, y⟩]) (fun k y => g2 k y) (fun c j y _ _ => g c j y) (g 7 3 (by omega)) (fun c j y => g c j (by omega)) fun k y => Or.inr y⟩
theorem zCc.nb {x : Int} (h : zCc μ s Lb Ln) (e : μ (s + 1) x ≠ 25) : x ∉ Lb ∧ x ∉ Ln := ⟨fun q => e (h.b.mem x q).2.2.2, fun q => e (h.n.mem x q).2.2.2⟩
/-- pending goes down -/
theorem zW.pn {v : Int} (h : zW s ζ δ b Z Lb Ln μ0 μ t τ H κ o k) (e : μ' = ab_mu μ 2 19 v) : zW s ζ δ b Z Lb Ln μ0 μ' t τ H κ o k := by
  have g : ∀ c j, ¬ (c = 2 ∧ j = 19) → μ' c j = μ c j := fun c j q => by rw [e, ab_mud, if_neg q]
  have f2 : ∀ j, j ≠ 19 → μ' 2 j = μ 2 j := fun j q => g 2 j (by omega)
  have q3 := f2 3 (by decide)
  have q4 := f2 4 (by decide)
  have q5 := f2 5 (by decide)
  have q8 := f2 8 (by decide)
  exact h.f2 (fun c j x => g c j (by omega)) (fun j _ q => f2 j q) (by rw [q3]; exact ⟨Int.le_refl _, h.i.a.2⟩) (by rw [q4, q5, f2 7 (by decide)]; exact h.i.sf) (by rw [q5]; exact id) (by rw [q4]; exact id) (by rw [q4, q3, q8]; exact h.i.ph) (by rw [q4, q8]; exact h.op) (by rw [q4, q3]; exact h.kw) (by rw [q5]; exact h.g)
theorem zAd.S {op arg r : Int} (h : zW s ζ δ b Z Lb Ln μ0 μ t τ H κ o k) (a : zAd s μ μ' op arg r) (z : μ 2 4 = 0) (t1 : t ≤ 1) : r = μ s 4 ∧ zS s μ μ' op arg := by
  have := (h.i.ph z).1
  have := h.i.pl
  exact a.ad (by omega)
theorem zP.add {op arg : Int} (hs : s = 16 ∨ s = 26) (hq : zP μ s ζ δ n0 p h u c) (S : zS s μ μ' op arg) : zP μ' s ζ δ n0 p h u c := by
  refine zP.same (fun cc j x y _ _ => S.f cc j (by omega) (by omega)) (by rw [S.n]; omega) (fun k _ y => S.f _ k (by omega) (by omega)) (by rw [S.f 2 5 (by omega) (by omega)]; exact id) (by rw [S.f 2 3 (by omega) (by omega)]; exact Int.le_refl _) (S.f s 8 (by omega) (by omega)) (S.f s 10 (by omega) (by omega)) (fun _ j x _ y q => q.add hs y S) hq
theorem zP.fr (hs : s = 16 ∨ s = 26) (hq : zP μ s ζ δ n0 p h u c) (e : ∀ cc j, cc ≠ 2 → cc ≠ s + 2 → μ' cc j = μ cc j) (ft : μ' 2 5 = 0 → μ 2 5 = 0) (ea : μ 2 3 ≤ μ' 2 3) : zP μ' s ζ δ n0 p h u c := by
  have es : ∀ j, μ' s j = μ s j := fun j => e s j (by omega) (by omega)
  refine zP.same (fun cc j x y _ _ => e cc j (by omega) (by omega)) (by rw [es]; exact Int.le_refl _) (fun k _ y => e _ k (by omega) (by omega)) ft ea (es 8) (es 10) (fun _ j x _ y q => ?_) hq
  obtain ⟨L, w1, w2, w3⟩ := q
  exact ⟨L, by rw [e (s + 3) j (by omega) (by omega)]; exact w1.on fun y _ => e _ y (by omega) (by omega), by rw [es]; exact w2, w3⟩
theorem c_mRe_settle {sg : Int} (hc : zH μ0 s ζ t H κ o) (hsg : 1 ≤ sg ∧ sg ≤ 10) (hP : ∀ μ' p' h' u' c', zQ s ζ δ b Z Lb Ln μ0 μ' t τ H κ o k 1 p' h' u' c' → ab_str (μ' 11 p') < sg → p' ≤ p → (∀ i : Int, p' < i → i ≤ p → 1 ≤ ab_str (μ 11 i)) → (∀ cc j, 11 ≤ cc → cc ≤ 15 → μ' cc j = μ cc j) → μ' 2 3 = μ 2 3 → P 0 μ') (q : zQ s ζ δ b Z Lb Ln μ0 μ t τ H κ o k 1 p h u c) : jj_mRe_settle X (d + 1) 0 (ab_la [2, sg]) [] μ P := by
  have hs := q.W.s'
  have main : ∀ (m : Nat) (l : ab_l) (μ1 : ab_m) (h u c : Int), l 0 = 2 → l 1 = sg → zQ s ζ δ b Z Lb Ln μ0 μ1 t τ H κ o k 1 m h u c → m ≤ p → (∀ i : Int, m < i → i ≤ p → 1 ≤ ab_str (μ 11 i)) → (∀ cc j, 11 ≤ cc → cc ≤ 15 → μ1 cc j = μ cc j) → μ1 2 3 = μ 2 3 → jj_mRe_settle X (d + 1) 0 l [] μ1 P := by
    intro m
    induction m with
    | zero =>
      intro l μ1 h u c l0 l1 q mp hi e1 e3
      refine bk_mRe_settle_0 l0 ⟨fun _ => hP μ1 0 h u c q ?_ mp hi e1 e3, fun y => ?_⟩
      · have := str0 (Or.inl q.Q.1); show ab_str (μ1 11 0) < sg; omega
      · have := q.n; omega
    | succ m ih =>
      intro l μ1 h u c l0 l1 q mp hi e1 e3
      have W := q.W
      have qz := q.z
      have b0 := q.Q.b0
      have n1 := q.n
      have u24 : u ≤ 24 := by
        have := W.i.ph qz; have := W.op qz; have := hc.o0; omega
      have p274 := q.Q.p274 u24
      obtain ⟨h', u', c', Q1, bg, E⟩ := q.Q
      have b1 := Q1.b0
      rw [show ((m + 1 : Nat) : Int) = (m : Int) + 1 by omega] at *
      refine bk_mRe_settle_0 l0 ?_
      rw [l1, n1, show ab_w ((m : Int) + 1 + 1 - 1) = (m : Int) + 1 by rw [ab_wi (by omega) (by omega)]; omega]
      refine ⟨fun y => by omega, fun _ => ⟨by omega, b0.2.2, fun y => hP μ1 (m + 1) h u c q (by rw [show ((m + 1 : Nat) : Int) = (m : Int) + 1 by omega]; exact y) mp (by rw [show ((m + 1 : Nat) : Int) = (m : Int) + 1 by omega]; exact hi) e1 e3, fun sl μ2 e2 => ?_⟩⟩
      have n2 : μ2 2 19 = (m : Int) + 1 := by rw [e2, ab_mud, if_pos ⟨rfl, rfl⟩]
      have f2 : ∀ cc j, ¬ (cc = 2 ∧ j = 19) → μ2 cc j = μ1 cc j := fun cc j y => by rw [e2, ab_mud, if_neg y]
      have k11 := f2 11 ((m : Int) + 1) (by omega)
      have k13 := f2 13 ((m : Int) + 1) (by omega)
      rw [n2, k11]
      have W2 := W.pn e2
      have z2 : μ2 2 4 = 0 := by rw [f2 2 4 (by omega)]; exact qz
      have Q2 : zP μ2 s ζ δ (μ0 s 4) m h' u' c' := Q1.fr hs (fun cc j y _ => f2 cc j (fun w => y w.1)) (by rw [f2 2 5 (by omega)]; exact id) (by rw [f2 2 3 (by omega)]; exact Int.le_refl _)
      have hi' : ∀ i : Int, (m : Int) < i → i ≤ p → 1 ≤ ab_str (μ 11 i) := fun i y1 y2 => by
        by_cases w : i = (m : Int) + 1
        · rw [w, ← e1 11 _ (by decide) (by decide)]; omega
        · exact hi i (by omega) y2
      have mp' : m ≤ p := by omega
      have is2 : ab_is 10 (μ2 2 2) := by rw [W2.i.sc]; exact W2.i.hs
      have t0 := hc.t0
      have h0 := hc.h0
      have k0 := hc.k0
      rcases E with ⟨kk, w, rfl, rfl, rfl⟩ | ⟨kk, w, n, o', g, rfl, rfl, rfl⟩ | ⟨kk, rfl, rfl, rfl⟩ | ⟨kk, rfl, rfl, rfl⟩ | ⟨kk, g, rfl, rfl, rfl⟩ | ⟨kk, e, n, m, g, rfl, rfl, rfl⟩
      · refine ⟨by omega, fun y => by omega, fun _ => ⟨fun _ => ⟨is2, c_zadd W2 W2.i.sc (by omega) (H' := H + (h' + 1) + 1 - 1) (κ' := κ) (fun _ => zA_b kk (by omega) k0) fun r3 μ3 w3 a3 => ⟨fun _ => ?_, fun y => by omega⟩⟩, fun y => by omega⟩⟩
        obtain ⟨-, S⟩ := a3.S W2 z2 (by omega)
        have f3 : ∀ cc j, 11 ≤ cc → cc ≤ 15 → μ3 cc j = μ1 cc j := fun cc j x y => by rw [a3.fr cc j (by omega), f2 cc j (by omega)]
        refine ih _ μ3 h' u c' l0 l1 ⟨w3.to (by omega) (by omega) (by omega), Q2.add hs S, by rw [a3.fr 2 19 (by omega)]; exact n2, by rw [a3.fr 2 4 (by omega)]; exact z2, fun _ => ?_⟩ mp' hi' (fun cc j x y => by rw [f3 cc j x y, e1 cc j x y]) (by rw [a3.fr 2 3 (by omega), f2 2 3 (by omega), e3])
        rw [S.n, f3 12 _ (by decide) (by decide), f2 s 4 (by omega)]; omega
      · have s59 : jj_mRe_settle X (d + 1) 59 (ab_up l 2 (μ1 11 ((m : Int) + 1))) [] μ2 P := by
          refine bk_mRe_settle_59 l0 ?_
          rw [n2, k13]
          have nn : μ2 s 4 = μ1 s 4 := f2 s 4 (by omega)
          refine ⟨by omega, is2, c_zadd W2 W2.i.sc (by omega) (H' := H + h + 1) (κ' := κ) (fun y => zA_38 (by omega) k0 ⟨by omega, ?_⟩) fun r3 μ3 w3 a3 => ⟨by rw [w3.i.sc]; exact w3.i.hs, by omega, fun μ4 e4 => ?_⟩⟩
          · obtain ⟨j, j1, j2, L, j3, j4, j5⟩ := g (by rw [← f2 2 5 (by omega)]; exact y)
            exact ⟨j, j1, by rw [nn]; exact j2, L, by rw [f2 (s + 3) _ (by omega)]; exact j3.on fun y _ => f2 (s + 4) y (by omega), by rw [nn]; exact j4, j5⟩
          · obtain ⟨-, S⟩ := a3.S W2 z2 (by omega)
            rw [w3.i.sc] at e4
            have op3 : μ3 (s + 1) (μ1 13 ((m : Int) + 1)) = 36 ∨ μ3 (s + 1) (μ1 13 ((m : Int) + 1)) = 37 := by rw [S.f _ _ (by omega) (by omega), f2 (s + 1) _ (by omega)]; exact o'
            have nb := w3.c.nb (x := μ1 13 ((m : Int) + 1)) (by omega)
            have n3 := S.n
            have w4 := w3.setArg e4 (Or.inl n.1.1) nb.1 nb.2 fun y => by
              obtain ⟨Γ, gg⟩ := w3.g y
              have z0 := hc.z0 (by
                by_cases x : μ0 2 5 = 0
                · exact x
                · exact absurd y (w3.f.ft x))
              have := gg.z
              omega
            have f4 : ∀ cc j, cc ≠ s + 2 → μ4 cc j = μ3 cc j := fun cc j y => by rw [e4, mu_ne y]
            have f3 : ∀ cc j, 11 ≤ cc → cc ≤ 15 → μ4 cc j = μ1 cc j := fun cc j x y => by rw [f4 cc j (by omega), a3.fr cc j (by omega), f2 cc j (by omega)]
            refine ih _ μ4 h u c' l0 l1 ⟨w4.to (by omega) (by omega) (by omega), (Q2.add hs S).fr hs (fun cc j _ y => f4 cc j y) (by rw [f4 2 5 (by omega)]; exact id) (by rw [f4 2 3 (by omega)]; exact Int.le_refl _), by rw [f4 2 19 (by omega), a3.fr 2 19 (by omega)]; exact n2, by rw [f4 2 4 (by omega), a3.fr 2 4 (by omega)]; exact z2, fun _ => ?_⟩ mp' hi' (fun cc j x y => by rw [f3 cc j x y, e1 cc j x y]) (by rw [f4 2 3 (by omega), a3.fr 2 3 (by omega), f2 2 3 (by omega), e3])
            rw [f4 s 4 (by omega), S.n, f3 12 _ (by decide) (by decide), f2 s 4 (by omega)]; omega
        exact ⟨by omega, fun _ => s59, fun _ => ⟨fun y => by omega, fun _ => s59⟩⟩
      · refine ⟨by omega, fun y => by omega, fun _ => ⟨fun _ => ⟨is2, c_zadd W2 W2.i.sc (by omega) (H' := H + h + 1) (κ' := κ) (fun _ => zA_u kk (by omega) k0) fun r3 μ3 w3 a3 => ⟨fun y => by omega, fun _ μ4 e4 => ?_⟩⟩, fun y => by omega⟩⟩
        obtain ⟨-, S⟩ := a3.S W2 z2 (by omega)
        have D := (w3.to (o' := o + u' + 1) rfl rfl (by omega)).down (fun _ => by have := hc.o0; omega) e4
        have f4 := D.2
        have f3 : ∀ cc j, 11 ≤ cc → cc ≤ 15 → μ4 cc j = μ1 cc j := fun cc j x y => by rw [f4 cc j (by omega), a3.fr cc j (by omega), f2 cc j (by omega)]
        refine ih _ μ4 h u' c' l0 l1 ⟨D.1.to (by omega) (by omega) (by omega), (Q2.add hs S).fr hs (fun cc j y _ => f4 cc j (fun w => y w.1)) (by rw [f4 2 5 (by omega)]; exact id) (by rw [f4 2 3 (by omega)]; exact Int.le_refl _), by rw [f4 2 19 (by omega), a3.fr 2 19 (by omega)]; exact n2, by rw [f4 2 4 (by omega), a3.fr 2 4 (by omega)]; exact z2, fun _ => ?_⟩ mp' hi' (fun cc j x y => by rw [f3 cc j x y, e1 cc j x y]) (by rw [f4 2 3 (by omega), a3.fr 2 3 (by omega), f2 2 3 (by omega), e3])
        rw [f4 s 4 (by omega), S.n, f3 12 _ (by decide) (by decide), f2 s 4 (by omega)]; omega
      · rw [kk, str0 (by decide)] at sl; omega
      · rw [kk, str0 (by decide)] at sl; omega
      · rw [kk, str0 (by decide)] at sl; omega
  exact main p _ μ h u c rfl rfl q (Nat.le_refl _) (fun i y1 y2 => by omega) (fun _ _ _ _ => rfl) rfl
end K29

/-! THE CLASS, part k30: takeBinary -/
section K30
variable {X : jm_X} {d : Nat} {P : Int → ab_m → Prop} {μ μ' μ0 μ1 : ab_m} {s t τ t' τ' ζ δ b b' H H' κ κ' o o' k k' n0 h u c h' u' c' w : Int} {Z Z' : Int → Prop} {Γ : scG} {Lb Ln Lb' Ln' : List Int} {p : Nat}
theorem zP.up (hs : s = 16 ∨ s = 26) (hq : zP μ s ζ δ n0 p h u c) (e : ∀ cc j, cc ≠ 2 → ¬ (11 ≤ cc ∧ cc ≤ 15 ∧ j = (p : Int) + 1) → μ' cc j = μ cc j) (ft : μ' 2 5 = 0 → μ 2 5 = 0) (ea : μ 2 3 ≤ μ' 2 3) : zP μ' s ζ δ n0 p h u c := by
  have es : ∀ j, μ' s j = μ s j := fun j => e s j (by omega) (by omega)
  refine zP.same (fun cc j x y _ _ => e cc j (by omega) (by omega)) (by rw [es]; exact Int.le_refl _) (fun k _ y => e _ k (by omega) (by omega)) ft ea (es 8) (es 10) (fun _ j x _ y q => ?_) hq
  obtain ⟨L, w1, w2, w3⟩ := q
  exact ⟨L, by rw [e (s + 3) j (by omega) (by omega)]; exact w1.on fun y _ => e _ y (by omega) (by omega), by rw [es]; exact w2, w3⟩
theorem wOn.wrap {g j x : Int} (hs : s = 16 ∨ s = 26) (hw : wOk μ s g) (n0 : 0 ≤ μ s 4 ∧ μ s 4 < 3002) (en : μ' s 4 = μ s 4 + 1) (e4 : μ' (s + 4) (μ s 4) = μ (s + 3) g) (e3 : μ' (s + 3) g = μ s 4) (ef : ∀ c j, ¬ (c = s ∧ j = 4) → ¬ (s + 1 ≤ c ∧ c ≤ s + 4 ∧ j = μ s 4) → ¬ (c = s + 3 ∧ j = g) → μ' c j = μ c j) (jn : j < μ s 4) (h : wOn μ s j x) : wOn μ' s j x := by
  have on : ∀ L x, sDc μ s L x → (∀ y ∈ L, y < μ s 4) → sDc μ' s L x := fun L x hh hl => hh.on fun y hy => ef _ y (by omega) (by have := hl y hy; omega) (by omega)
  obtain ⟨L, w1, w2, w3⟩ := h
  by_cases u : j = g
  · subst u
    obtain ⟨Lg, g1, g2⟩ := hw
    have : L = Lg := w1.un g1
    subst this
    refine ⟨μ s 4 :: L, ⟨e3, n0.1, n0.2, g2, by rw [e4]; exact on _ _ g1 g2⟩, fun y hy => ?_, List.mem_cons_of_mem _ w3⟩
    rcases List.mem_cons.mp hy with q | q
    · omega
    · have := g2 y q; omega
  · exact ⟨L, by rw [ef _ j (by omega) (by omega) (by omega)]; exact on _ _ w1 w2, fun y hy => by have := w2 y hy; omega, w3⟩
theorem zQ.u24 (hc : zH μ0 s ζ t H κ o) (q : zQ s ζ δ b Z Lb Ln μ0 μ t τ H κ o k w p h u c) : u ≤ 24 ∧ (p : Int) ≤ 274 := by
  have a : u ≤ 24 := by
    have := q.W.i.ph q.z; have := q.W.op q.z; have := hc.o0; omega
  exact ⟨a, q.Q.p274 a⟩
/-- the word's kind, as it goes past -/
theorem zGo1 (a : k ≠ 34) (c : k ≠ 35) : zGo k 1 := ⟨a, c, (wt1 k).1⟩
/-- pend, then go -/
theorem c_pendGo {K v nm wt' : Int} {Q : ab_m → Prop} (hc : zH μ0 s ζ t H κ o) (W : zW s ζ δ b Z Lb Ln μ0 μ t' τ H' κ o' k) (n : μ 2 19 = (p : Int) + 1) (p1 : (p : Int) ≤ 274) (hk : zTo (μ 2 4 = 0) (zGo k wt')) (hP : ∀ μ', zW s ζ δ b Z Lb Ln μ0 μ' (t' - wt') (τ - wt') H' κ o' (μ 4 (μ 2 3 + 1)) → μ' 2 19 = (p : Int) + 1 + 1 → (μ' 11 ((p : Int) + 1) = K ∧ μ' 12 ((p : Int) + 1) = μ s 4 ∧ μ' 13 ((p : Int) + 1) = v ∧ μ' 14 ((p : Int) + 1) = 0 ∧ μ' 15 ((p : Int) + 1) = nm) → (∀ cc j, ¬ (cc = 2 ∧ (j = 3 ∨ j = 19)) → ¬ (11 ≤ cc ∧ cc ≤ 15 ∧ j = (p : Int) + 1) → μ' cc j = μ cc j) → (zTo (μ 2 4 = 0) (μ' 2 3 = μ 2 3 + 1)) → Q μ') : jj_mRe_pend X d 0 (ab_la [2, K, v, nm]) [] μ (fun _ μ1 => jj_mRe_go X d 0 (ab_la [2]) [] μ1 (fun _ μ4 => Q μ4)) := by
  refine c_mRe_pend W (by omega) fun μ1 W1 n1 e1 f1 => ?_
  rw [n] at n1 e1 f1
  have q4 := f1 2 4 (by omega) (by omega)
  have q3 := f1 2 3 (by omega) (by omega)
  refine c_mRe_go W1 (fun z => hk (by rw [← q4]; exact z)) fun μ2 W2 a2 f2 => hP μ2 ?_ (by rw [f2 2 19 (by omega)]; exact n1) ?_ (fun cc j x y => ?_) fun z => ?_
  · rw [q3, f1 4 _ (by omega) (by omega)] at W2; exact W2
  · rw [f2 11 _ (by omega), f2 12 _ (by omega), f2 13 _ (by omega), f2 14 _ (by omega), f2 15 _ (by omega)]; exact e1
  · rw [f2 cc j (by omega), f1 cc j y (by omega)]
  · rw [a2 (by rw [q4]; exact z), q3]
theorem c_mRe_takeBinary (hc : zH μ0 s ζ t H κ o) (ht : t ≤ 0) (q : zQ s ζ δ b Z Lb Ln μ0 μ t τ H κ o k 1 p h u c) (hk : (2 ≤ k ∧ k ≤ 17) ∨ k = 21 ∨ k = 22) (hw : ab_str (μ 11 p) < ab_str k) (hP : ∀ μ' k' h' c', zQ s ζ δ b Z Lb Ln μ0 μ' t τ H κ o k' 0 (p + 1) h' u c' → μ' 2 3 = μ 2 3 + 1 → (∀ j, j ≤ (p : Int) → μ' 11 j = μ 11 j) → P 0 μ') : jj_mRe_takeBinary X (d + 1) 0 (ab_la [2, k]) [] μ P := by
  have hs := q.W.s'
  have b0 := q.Q.b0
  obtain ⟨u24, p274⟩ := q.u24 hc
  have t0 := hc.t0
  have h0 := hc.h0
  have k0 := hc.k0
  have qz := q.z
  have W := q.W
  have qn := q.n
  have pp : ((p + 1 : Nat) : Int) = (p : Int) + 1 := by omega
  have s31 : ∀ (l : ab_l) (op : Int), l 0 = 2 → l 1 = k → (k = 21 ∨ k = 22) → (op = 36 ∨ op = 37) → jj_mRe_takeBinary X (d + 1) 31 l [(0, op), (2, μ 2 2)] μ P := by
    intro l op l0 l1 kk ho
    refine bk_mRe_takeBinary_31 l0 ?_
    rw [l1]
    have n0 := W.i.n
    have ph := (W.i.ph qz).1
    have pl := W.i.pl
    refine ⟨by rw [W.i.sc]; exact W.i.hs, c_zadd W W.i.sc (by omega) (H' := H + h) (κ' := κ) (fun _ => zA_36 ho (by omega) k0 n0.1) fun r1 μ1 W1 a1 => ?_⟩
    obtain ⟨er, S⟩ := a1.S W qz (by omega)
    have f1 := a1.fr
    have n1 : μ1 2 19 = (p : Int) + 1 := by rw [f1 2 19 (by omega)]; exact qn
    have g12 : μ1 12 p = μ 12 p := f1 12 _ (by omega)
    have gl := q.g rfl
    rw [n1, show ab_w ((p : Int) + 1 - 1) = p by rw [ab_wi (by omega) (by omega)]; omega, g12]
    refine ⟨by omega, by rw [W1.i.sc]; exact W1.i.hs, ?_⟩
    have f0 := W.f.n
    have h12 : 0 ≤ μ 12 p := by have := hc.n0; omega
    refine bk_mSc_wrap_0 (by show ab_is 10 (μ1 2 2); rw [W1.i.sc]; exact W1.i.hs) ?_
    simp only [la0, la1, la2]
    rw [W1.i.sc]
    refine ⟨fun y => by omega, fun _ => ⟨by omega, by omega, fun μ2 e2 => ⟨by omega, fun μ3 e3 => ?_⟩⟩⟩
    have v23 : μ1 (s + 3) (μ 12 p) = μ (s + 3) (μ 12 p) := S.f _ _ (by omega) (by omega)
    rw [v23] at e2
    rw [er] at e2 e3
    have f3 : ∀ cc j, ¬ (cc = s + 4 ∧ j = μ s 4) → ¬ (cc = s + 3 ∧ j = μ 12 p) → μ3 cc j = μ1 cc j := fun cc j x y => by rw [e3, ab_mud, if_neg y, e2, ab_mud, if_neg x]
    have n3 : μ3 s 4 = μ s 4 + 1 := by rw [f3 s 4 (by omega) (by omega), S.n]
    have v4 : μ3 (s + 4) (μ s 4) = μ (s + 3) (μ 12 p) := by rw [e3, mu_ne (by omega), e2, ab_mud, if_pos ⟨rfl, rfl⟩]
    have v3 : μ3 (s + 3) (μ 12 p) = μ s 4 := by rw [e3, ab_mud, if_pos ⟨rfl, rfl⟩]
    have ef : ∀ cc j, ¬ (cc = s ∧ j = 4) → ¬ (s + 1 ≤ cc ∧ cc ≤ s + 4 ∧ j = μ s 4) → ¬ (cc = s + 3 ∧ j = μ 12 p) → μ3 cc j = μ cc j := fun cc j x y z => by rw [f3 cc j (by omega) z, S.f cc j x y]
    have z5 : μ1 2 5 = μ 2 5 := f1 2 5 (by omega)
    have wr : μ 2 5 = 0 → zG μ3 s ζ δ b Z (H + h) κ ∧ wOn μ3 s (μ 12 p) (μ s 4) := fun y => by
      obtain ⟨Γ, gg⟩ := W.g y
      exact gg.wrap hs (zA_36 ho (by omega) k0 n0.1) (by omega) ⟨h12, gl⟩ n3 (by rw [f3 _ _ (by omega) (by omega)]; exact S.o) (by rw [f3 _ _ (by omega) (by omega)]; exact S.g) (by rw [f3 _ _ (by omega) (by omega)]; exact S.w.1) v4 v3 ef
    have W3 : zW s ζ δ b Z Lb Ln μ0 μ3 (t - c + 1) τ (H + h) κ (o + u) k := W1.stp (fun cc j x => f3 cc j (by omega) (by omega)) (fun j _ => f3 s j (by omega) (by omega)) (fun kk _ _ _ => ⟨f3 _ kk (by omega) (by omega), f3 _ kk (by omega) (by omega)⟩) (by rw [f3 s 4 (by omega) (by omega)]; exact ⟨Int.le_refl _, W1.i.n.2⟩) (fun y => by rw [f3 s 4 (by omega) (by omega)]; exact (W1.i.ph y).1) (W1.c.same (by rw [f3 s 4 (by omega) (by omega)]; exact Int.le_refl _) (fun y _ _ _ => ⟨f3 _ y (by omega) (by omega), f3 _ y (by omega) (by omega)⟩) (f3 2 12 (by omega) (by omega)) (f3 2 13 (by omega) (by omega))) fun y => (wr (by rw [← z5]; exact y)).1
    have z3 : μ3 2 4 = 0 := by rw [ef 2 4 (by omega) (by omega) (by omega)]; exact qz
    have Q3 : zP μ3 s ζ δ (μ0 s 4) p h u c := zP.same (fun cc j x y _ _ => ef cc j (by omega) (by omega) (by omega)) (by omega) (fun kk _ y => ef _ kk (by omega) (by omega) (by omega)) (by rw [ef 2 5 (by omega) (by omega) (by omega)]; exact id) (by rw [ef 2 3 (by omega) (by omega) (by omega)]; exact Int.le_refl _) (ef s 8 (by omega) (by omega) (by omega)) (ef s 10 (by omega) (by omega) (by omega)) (fun y j x _ jn ow => by
      obtain ⟨Γ, gg⟩ := W.g (by rw [← ef 2 5 (by omega) (by omega) (by omega)]; exact y)
      exact ow.wrap hs (gg.st _ h12 gl).wr (by omega) n3 v4 v3 ef jn) q.Q
    rw [er]
    refine c_pendGo (p := p) (wt' := 2) (Q := fun μ12 => P 0 μ12) hc W3 (by rw [f3 2 19 (by omega) (by omega)]; exact n1) p274 (fun _ => ?_) fun μ4 W4 n4 e4 f4 a4 => ?_
    · rcases kk with kk | kk <;> rw [kk] <;> decide
    · have Q4 : zP μ4 s ζ δ (μ0 s 4) p h u c := Q3.up hs (fun cc j x y => f4 cc j (by omega) y) (by rw [f4 2 5 (by omega) (by omega)]; exact id) (by have := a4 z3; omega)
      have n4' : μ4 s 4 = μ s 4 + 1 := by rw [f4 s 4 (by omega) (by omega)]; exact n3
      have eb : μ4 12 p = μ 12 p := by rw [f4 12 _ (by omega) (by omega), ef 12 _ (by omega) (by omega) (by omega)]
      have z4 : μ4 2 4 = 0 := by rw [f4 2 4 (by omega) (by omega)]; exact z3
      have o4 : μ4 (s + 1) (μ s 4) = op := by rw [f4 _ _ (by omega) (by omega), f3 _ _ (by omega) (by omega)]; exact S.o
      refine hP μ4 _ h (c + 1) ⟨(W4.to (by omega) (by omega) rfl).weak (Int.le_refl _) (by omega) (Int.le_refl _), ⟨h, u, c, Q4, by rw [eb, e4.2.1]; omega, zE.bth (by rw [e4.1]; exact kk) ?_ ?_ ?_ fun y => ?_⟩, by rw [pp]; exact n4, z4, fun y => absurd y (by decide)⟩ ?_ fun j y => ?_
      · rw [e4.1, show (p : Int) + 1 - 1 = p by omega, f4 11 _ (by omega) (by omega), ef 11 _ (by omega) (by omega) (by omega)]; exact hw
      · rw [e4.2.2.1]; omega
      · rw [e4.2.2.1, o4]; exact ho
      · rw [e4.2.2.1]
        have y' : μ 2 5 = 0 := by rw [← ef 2 5 (by omega) (by omega) (by omega), ← f4 2 5 (by omega) (by omega)]; exact y
        have z0 := hc.z0 (by
          by_cases x : μ0 2 5 = 0
          · exact x
          · exact absurd y' (W.f.ft x))
        obtain ⟨L, j3, j4, j5⟩ := (wr y').2
        exact ⟨μ 12 p, by omega, by omega, L, by rw [f4 _ _ (by omega) (by omega)]; exact j3.on fun y _ => f4 _ y (by omega) (by omega), by rw [f4 s 4 (by omega) (by omega)]; exact j4, j5⟩
      · rw [a4 z3, ef 2 3 (by omega) (by omega) (by omega)]
      · rw [f4 11 _ (by omega) (by omega), ef 11 _ (by omega) (by omega) (by omega)]
  refine bk_mRe_takeBinary_0 rfl ?_
  simp only [la1]
  refine ⟨fun y => ⟨fun x => absurd y x, fun _ => s31 _ 36 rfl rfl (Or.inl y) (Or.inl rfl)⟩, fun y => ⟨fun x => ?_, fun x => ⟨fun _ => s31 _ 37 rfl rfl (Or.inr x) (Or.inr rfl), fun z => absurd z y⟩⟩⟩
  have kb : 2 ≤ k ∧ k ≤ 17 := by omega
  refine c_pendGo (p := p) (wt' := 1) (Q := fun μ12 => P 0 μ12) hc W qn p274 (fun _ => zGo1 (by omega) (by omega)) fun μ4 W4 n4 e4 f4 a4 => ?_
  have Q4 : zP μ4 s ζ δ (μ0 s 4) p h u c := q.Q.up hs (fun cc j x y => f4 cc j (by omega) y) (by rw [f4 2 5 (by omega) (by omega)]; exact id) (by have := a4 qz; omega)
  refine hP μ4 _ (h + 1) (c + 1) ⟨(W4.to (by omega) (by omega) rfl).weak (Int.le_refl _) (by omega) (Int.le_refl _), ⟨h, u, c, Q4, by rw [e4.2.1, f4 12 _ (by omega) (by omega), f4 s 4 (by omega) (by omega)]; omega, zE.bin (by rw [e4.1]; exact kb) ?_⟩, by rw [pp]; exact n4, by rw [f4 2 4 (by omega) (by omega)]; exact qz, fun y => absurd y (by decide)⟩ (a4 qz) fun j y => f4 11 _ (by omega) (by omega)
  rw [e4.1, show (p : Int) + 1 - 1 = p by omega, f4 11 _ (by omega) (by omega)]; exact hw
end K30

/-! THE CLASS, part k31: takeOperand -/
section K31
variable {X : jm_X} {d : Nat} {P : Int → ab_m → Prop} {μ μ' μ0 μ1 : ab_m} {s t τ t' τ' ζ δ b b' H H' κ κ' o o' k k' n0 h u c h' u' c' w : Int} {Z Z' : Int → Prop} {Γ : scG} {Lb Ln Lb' Ln' : List Int} {p : Nat}
end K31
/-- behind the opening of a call without arguments -/
def zV (s ζ δ b : Int) (Z : Int → Prop) (Lb Ln : List Int) (μ0 μ : ab_m) (t τ H κ o : Int) (p : Nat) (h u c : Int) : Prop := (zW s ζ δ b Z Lb Ln μ0 μ (t - c) τ (H + h) κ (o + u + 1) 24) ∧ (zP μ s ζ δ (μ0 s 4) p h u c) ∧ (μ 2 19 = (p : Int) + 1 + 1) ∧ (μ 2 4 = 0) ∧ (μ 11 ((p : Int) + 1) = 26 ∧ μ 14 ((p : Int) + 1) = -1 ∧ (-1 ≤ μ 13 ((p : Int) + 1) ∧ μ 13 ((p : Int) + 1) < 15) ∧ (0 ≤ μ 15 ((p : Int) + 1) ∧ μ 15 ((p : Int) + 1) < 3001)) ∧ (μ 2 5 = 0 → zNg μ s ζ δ 2 (μ 13 ((p : Int) + 1))) ∧ (μ 12 (p : Int) ≤ μ 12 ((p : Int) + 1) ∧ μ 12 ((p : Int) + 1) ≤ μ s 4)
theorem zV.W {s ζ δ b : Int} {Z : Int → Prop} {Lb Ln : List Int} {μ0 μ : ab_m} {t τ H κ o : Int} {p : Nat} {h u c : Int} (h'' : zV s ζ δ b Z Lb Ln μ0 μ t τ H κ o p h u c) : zW s ζ δ b Z Lb Ln μ0 μ (t - c) τ (H + h) κ (o + u + 1) 24 := h''.1
theorem zV.Q {s ζ δ b : Int} {Z : Int → Prop} {Lb Ln : List Int} {μ0 μ : ab_m} {t τ H κ o : Int} {p : Nat} {h u c : Int} (h'' : zV s ζ δ b Z Lb Ln μ0 μ t τ H κ o p h u c) : zP μ s ζ δ (μ0 s 4) p h u c := h''.2.1
theorem zV.n {s ζ δ b : Int} {Z : Int → Prop} {Lb Ln : List Int} {μ0 μ : ab_m} {t τ H κ o : Int} {p : Nat} {h u c : Int} (h'' : zV s ζ δ b Z Lb Ln μ0 μ t τ H κ o p h u c) : μ 2 19 = (p : Int) + 1 + 1 := h''.2.2.1
theorem zV.z {s ζ δ b : Int} {Z : Int → Prop} {Lb Ln : List Int} {μ0 μ : ab_m} {t τ H κ o : Int} {p : Nat} {h u c : Int} (h'' : zV s ζ δ b Z Lb Ln μ0 μ t τ H κ o p h u c) : μ 2 4 = 0 := h''.2.2.2.1
theorem zV.e {s ζ δ b : Int} {Z : Int → Prop} {Lb Ln : List Int} {μ0 μ : ab_m} {t τ H κ o : Int} {p : Nat} {h u c : Int} (h'' : zV s ζ δ b Z Lb Ln μ0 μ t τ H κ o p h u c) : μ 11 ((p : Int) + 1) = 26 ∧ μ 14 ((p : Int) + 1) = -1 ∧ (-1 ≤ μ 13 ((p : Int) + 1) ∧ μ 13 ((p : Int) + 1) < 15) ∧ (0 ≤ μ 15 ((p : Int) + 1) ∧ μ 15 ((p : Int) + 1) < 3001) := h''.2.2.2.2.1
theorem zV.g {s ζ δ b : Int} {Z : Int → Prop} {Lb Ln : List Int} {μ0 μ : ab_m} {t τ H κ o : Int} {p : Nat} {h u c : Int} (h'' : zV s ζ δ b Z Lb Ln μ0 μ t τ H κ o p h u c) : μ 2 5 = 0 → zNg μ s ζ δ 2 (μ 13 ((p : Int) + 1)) := h''.2.2.2.2.2.1
theorem zV.bg {s ζ δ b : Int} {Z : Int → Prop} {Lb Ln : List Int} {μ0 μ : ab_m} {t τ H κ o : Int} {p : Nat} {h u c : Int} (h'' : zV s ζ δ b Z Lb Ln μ0 μ t τ H κ o p h u c) : μ 12 (p : Int) ≤ μ 12 ((p : Int) + 1) ∧ μ 12 ((p : Int) + 1) ≤ μ s 4 := h''.2.2.2.2.2.2
section K31
variable {X : jm_X} {d : Nat} {P : Int → ab_m → Prop} {μ μ' μ0 μ1 : ab_m} {s t τ t' τ' ζ δ b b' H H' κ κ' o o' k k' n0 h u c h' u' c' w : Int} {Z Z' : Int → Prop} {Γ : scG} {Lb Ln Lb' Ln' : List Int} {p : Nat}
theorem zQ.weak (q : zQ s ζ δ b Z Lb Ln μ0 μ t τ H κ o k w p h u c) (a : t ≤ t') (a' : τ ≤ τ') : zQ s ζ δ b Z Lb Ln μ0 μ t' τ' H κ o k w p h u c := ⟨q.W.weak (by omega) a' (Int.le_refl _), q.Q, q.n, q.z, q.g⟩
theorem zV.weak (q : zV s ζ δ b Z Lb Ln μ0 μ t τ H κ o p h u c) (a : t ≤ t') : zV s ζ δ b Z Lb Ln μ0 μ t' τ H κ o p h u c := ⟨q.W.weak (by omega) (Int.le_refl _) (Int.le_refl _), q.Q, q.n, q.z, q.e, q.g, q.bg⟩
theorem zW.neg1 (h : zW s ζ δ b Z Lb Ln μ0 μ t τ H κ o k) (e : μ' = ab_mu μ 14 o' c) : zW s ζ δ b Z Lb Ln μ0 μ' t τ H κ o k := by
  have g : ∀ cc j, cc ≠ 14 → μ' cc j = μ cc j := fun cc j q => by rw [e, mu_ne q]
  have g2 : ∀ j, μ' 2 j = μ 2 j := fun j => g 2 j (by decide)
  exact h.f3 (fun cc j _ y => g cc j (by omega)) (fun j _ _ => g2 j) (by rw [g2]; exact ⟨Int.le_refl _, h.i.a.2⟩) (by rw [g2, g2, g2]; exact h.i.sf) (by rw [g2]; exact id) (by rw [g2]; exact id) (by rw [g2, g2, g2]; exact h.i.ph) (by rw [g2, g2]; exact h.op) (by rw [g2, g2]; exact h.kw) (by rw [g2]; exact h.g)
theorem c_mRe_takeOperand (hc : zH μ0 s ζ t H κ o) (q : zQ s ζ δ b Z Lb Ln μ0 μ t τ H κ o k 0 p h u c)
    (hS : ∀ r μ', μ' 2 4 ≠ 0 → (∀ Z' t' τ' H' κ' o' k', zW s ζ δ b Z' Lb Ln μ0 μ' t' τ' H' κ' o' k') → P r μ')
    (h0 : ∀ μ' k', zQ s ζ δ b Z Lb Ln μ0 μ' t τ H κ o k' 1 p h u c → μ 2 3 < μ' 2 3 → (∀ j, j ≤ (p : Int) → μ' 11 j = μ 11 j) → (zTo (k = 33) (μ 4 (μ 2 3 + 1) ≠ 23)) → P 0 μ')
    (h1 : ∀ μ' k' c', zQ s ζ δ b Z Lb Ln μ0 μ' t τ H κ o k' 0 (p + 1) h (u + 1) c' → μ 2 3 < μ' 2 3 → (∀ j, j ≤ (p : Int) → μ' 11 j = μ 11 j) → (zTo (k = 33) (μ 4 (μ 2 3 + 1) ≠ 23)) → P 1 μ')
    (hL : ∀ μ' k', zQ s ζ δ b Z Lb Ln μ0 μ' (t - 2) τ H κ o k' 0 (p + 1) h (u + 1) c → μ' 11 ((p : Int) + 1) = 26 → μ 2 3 < μ' 2 3 → (∀ j, j ≤ (p : Int) → μ' 11 j = μ 11 j) → P 1 μ')
    (hV : ∀ μ', zV s ζ δ b Z Lb Ln μ0 μ' (t - 2) τ H κ o p h u c → μ 2 3 < μ' 2 3 → (∀ j, j ≤ (p : Int) → μ' 11 j = μ 11 j) → P 0 μ') : jj_mRe_takeOperand X (d + 1) 0 (ab_la [2]) [] μ P := by
  have hs := q.W.s'
  have b0 := q.Q.b0
  obtain ⟨u24, p274⟩ := q.u24 hc
  have t0 := hc.t0
  have hh0 := hc.h0
  have k0 := hc.k0
  have qz := q.z
  have W := q.W
  have qn := q.n
  have pp : ((p + 1 : Nat) : Int) = (p : Int) + 1 := by omega
  have a0 := W.at3
  -- unary signs and brackets
  have s107 : ∀ (l : ab_l) (μ1 : ab_m) (K : Int), l 0 = 2 → (18 ≤ K ∧ K ≤ 20) ∨ K = 24 → zW s ζ δ b Z Lb Ln μ0 μ1 (t - c) τ (H + h + 0) κ (o + u + 1) k → (∀ cc j, ¬ (cc = 2 ∧ 4 ≤ j ∧ j ≤ 8) → μ1 cc j = μ cc j) → (zTo (μ1 2 4 = 0) (μ1 2 5 = μ 2 5)) → k ≠ 33 → k ≠ 34 → k ≠ 35 → jj_mRe_takeOperand X (d + 1) 107 l [(0, K), (2, 2)] μ1 P := by
    intro l μ1 K l0 hK W1 f1 ff k33 k34 k35
    refine bk_mRe_takeOperand_107 l0 ?_
    refine c_pendGo (p := p) (wt' := 1) (Q := fun μ12 => P 1 μ12) hc W1 (by rw [f1 2 19 (by omega)]; exact qn) p274 (fun _ => zGo1 k34 k35) fun μ4 W4 n4 e4 f4 a4 => ?_
    by_cases z : μ1 2 4 = 0
    · have z4 : μ4 2 4 = 0 := by rw [f4 2 4 (by omega) (by omega)]; exact z
      have z5 : μ4 2 5 = 0 → μ 2 5 = 0 := by rw [f4 2 5 (by omega) (by omega), ff z]; exact id
      have at4 : μ4 2 3 = μ 2 3 + 1 := by rw [a4 z, f1 2 3 (by omega)]
      have Q4 : zP μ4 s ζ δ (μ0 s 4) p h u c := q.Q.up hs (fun cc j x y => by rw [f4 cc j (by omega) y, f1 cc j (by omega)]) z5 (by omega)
      have bg : μ4 12 (p : Int) ≤ μ4 12 ((p : Int) + 1) ∧ μ4 12 ((p : Int) + 1) ≤ μ4 s 4 := by
        rw [e4.2.1, f4 12 _ (by omega) (by omega), f4 s 4 (by omega) (by omega), f1 12 _ (by omega), f1 s 4 (by omega)]; omega
      have s11 : ∀ j, j ≤ (p : Int) → μ4 11 j = μ 11 j := fun j y => by rw [f4 11 _ (by omega) (by omega), f1 11 _ (by omega)]
      rcases hK with hK | hK
      · exact h1 μ4 _ (c + 1) ⟨(W4.to (by omega) rfl (by omega)).weak (Int.le_refl _) (by omega) (Int.le_refl _), ⟨h, u, c, Q4, bg, zE.one (by rw [e4.1]; exact hK)⟩, by rw [pp]; exact n4, z4, fun y => absurd y (by decide)⟩ (by omega) s11 fun y => absurd y k33
      · exact h1 μ4 _ c ⟨(W4.to rfl rfl (by omega)).weak (by omega) (by omega) (Int.le_refl _), ⟨h, u, c, Q4, bg, zE.rnd (by rw [e4.1]; exact hK)⟩, by rw [pp]; exact n4, z4, fun y => absurd y (by decide)⟩ (by omega) s11 fun y => absurd y k33
    · have z4 : μ4 2 4 ≠ 0 := by rw [f4 2 4 (by omega) (by omega)]; exact z
      exact hS 1 μ4 z4 (W4.stop z4)
  -- a name with its bracket
  have s251 : ∀ (l : ab_l) (μ1 : ab_m) (K v ic : Int), l 0 = 2 → l 2 = μ 2 3 → l 5 = ic → l 6 = v → (K = 25 ∧ ic = 0) ∨ (K = 26 ∧ ic ≠ 0 ∧ (-1 ≤ v ∧ v < 15)) → zW s ζ δ b Z Lb Ln μ0 μ1 (t - c - 1) (τ - 1) (H + h + 0) κ (o + u + 1) (μ 4 (μ 2 3 + 1)) → (∀ cc j, ¬ (cc = 2 ∧ 3 ≤ j ∧ j ≤ 8) → μ1 cc j = μ cc j) → (zTo (μ1 2 4 = 0) (μ1 2 3 = μ 2 3 + 1)) → (zTo (ic = 0) (μ 4 (μ 2 3 + 1) = 27)) → (zTo (ic ≠ 0) (μ 4 (μ 2 3 + 1) = 23)) → (zTo (μ1 2 5 = 0) (μ 2 5 = 0 ∧ zNg μ1 s ζ δ (if ic = 0 then 1 else 2) v)) → jj_mRe_takeOperand X (d + 1) 251 l [(0, K), (2, 2)] μ1 P := by
    intro l μ1 K v ic l0 l2 l5 l6 hK W1 f1 a1 n27 n23 g1
    refine bk_mRe_takeOperand_251 l0 ?_
    rw [l2, l5, l6]
    have zg : zGo (μ 4 (μ 2 3 + 1)) 1 := by
      by_cases y : ic = 0
      · rw [n27 y]; decide
      · rw [n23 y]; decide
    refine c_pendGo (p := p) (wt' := 1) (Q := fun μ12 => (ic = 0 → P 1 μ12) ∧ (ic ≠ 0 → jj_mRe_kind X d 0 (ab_la [2]) [] μ12 (fun r8 μ7 => (r8 ≠ 24 → P 1 μ7) ∧ (r8 = 24 → ((0 : Int) ≤ ab_w ((μ7 2 19) - 1) ∧ (ab_w ((μ7 2 19) - 1) : Int) < 400) ∧ ∀ μ10, μ10 = ab_mu μ7 14 (ab_w ((μ7 2 19) - 1)) ((-1)) → P 0 μ10)))) hc W1 (by rw [f1 2 19 (by omega)]; exact qn) p274 (fun _ => zg) fun μ4 W4 n4 e4 f4 a4 => ?_
    have f5 : ∀ cc j, cc ≠ 2 → ¬ (11 ≤ cc ∧ cc ≤ 15 ∧ j = (p : Int) + 1) → μ4 cc j = μ cc j := fun cc j x y => by rw [f4 cc j (by omega) y, f1 cc j (by omega)]
    have bg : μ4 12 (p : Int) ≤ μ4 12 ((p : Int) + 1) ∧ μ4 12 ((p : Int) + 1) ≤ μ4 s 4 := by
      rw [e4.2.1, f5 12 _ (by omega) (by omega), f4 s 4 (by omega) (by omega), f1 s 4 (by omega)]; omega
    have s11 : ∀ j, j ≤ (p : Int) → μ4 11 j = μ 11 j := fun j y => f5 11 j (by omega) (by omega)
    have ng : ∀ kd, kd = 1 ∨ kd = 2 → zNg μ1 s ζ δ kd v → zNg μ4 s ζ δ kd v := fun kd x y => ⟨fun r => by omega, fun r => by rw [f4 s 8 (by omega) (by omega)]; exact y.w r, fun r => by unfold rho; rw [f4 s 10 (by omega) (by omega)]; exact y.d r⟩
    have e5 := f4 2 5 (by omega) (by omega)
    by_cases z : μ1 2 4 = 0
    · have z4 : μ4 2 4 = 0 := by rw [f4 2 4 (by omega) (by omega)]; exact z
      have at4 : μ4 2 3 = μ 2 3 + 2 := by rw [a4 z, a1 z]; omega
      have Q4 : zP μ4 s ζ δ (μ0 s 4) p h u c := q.Q.up hs f5 (by rw [e5]; exact fun y => (g1 y).1) (by omega)
      refine ⟨fun y => h1 μ4 _ c ⟨(W4.to rfl rfl (by omega)).weak (by omega) (by omega) (Int.le_refl _), ⟨h, u, c, Q4, bg, zE.row (by rw [e4.1]; omega) fun x => ?_⟩, by rw [pp]; exact n4, z4, fun y => absurd y (by decide)⟩ (by omega) s11 fun _ => by rw [n27 y]; decide, fun y => ?_⟩
      · have := (g1 (by rw [← e5]; exact x)).2
        rw [if_pos y] at this
        rw [e4.2.2.1]; exact ng 1 (Or.inl rfl) this
      · have K26 : K = 26 ∧ -1 ≤ v ∧ v < 15 := by omega
        have g4 : zTo (μ4 2 5 = 0) (zNg μ4 s ζ δ 2 (μ4 13 ((p : Int) + 1))) := fun x => by
          have := (g1 (by rw [← e5]; exact x)).2
          rw [if_neg y] at this
          rw [e4.2.2.1]; exact ng 2 (Or.inr rfl) this
        refine c_mRe_kind W4 fun r hr => ⟨fun x => ?_, fun x => ?_⟩
        · have E := zE.lst (μ := μ4) (s := s) (ζ := ζ) (δ := δ) (n0 := μ0 s 4) (i := (p : Int) + 1) (h' := h) (u' := u) (c' := c) (by rw [e4.1]; exact K26.1) (by rw [e4.2.2.2.1]; omega) (by rw [e4.2.2.1]; exact K26.2) (by rw [e4.2.2.2.2]; exact a0) g4
          rw [e4.2.2.2.1, Int.add_zero] at E
          exact hL μ4 _ ⟨(W4.to (t' := t - 2 - c) (by omega) rfl (by omega)).weak (Int.le_refl _) (by omega) (Int.le_refl _), ⟨h, u, c, Q4, bg, E⟩, by rw [pp]; exact n4, z4, fun y => absurd y (by decide)⟩ (by rw [e4.1]; exact K26.1) (by omega) s11
        · rw [n4, show ab_w ((p : Int) + 1 + 1 - 1) = (p : Int) + 1 by rw [ab_wi (by omega) (by omega)]; omega]
          refine ⟨by omega, fun μ10 e10 => ?_⟩
          have k24 : μ1 4 (μ1 2 3 + 1) = 24 := by
            rcases hr with hr | hr
            · exact absurd z4 hr.1
            · omega
          rw [k24] at W4
          have f10 : ∀ cc j, ¬ (cc = 14 ∧ j = (p : Int) + 1) → μ10 cc j = μ4 cc j := fun cc j x => by rw [e10, ab_mud, if_neg x]
          have W10 := W4.neg1 e10
          refine hV μ10 ⟨(W10.to (t' := t - 2 - c) (by omega) (by omega) (by omega)).weak (Int.le_refl _) (by omega) (Int.le_refl _), Q4.up hs (fun cc j _ y => f10 cc j (by omega)) (by rw [f10 2 5 (by omega)]; exact id) (by rw [f10 2 3 (by omega)]; exact Int.le_refl _), by rw [f10 2 19 (by omega)]; exact n4, by rw [f10 2 4 (by omega)]; exact z4, ⟨by rw [f10 11 _ (by omega), e4.1]; exact K26.1, by rw [e10, ab_mud, if_pos ⟨rfl, rfl⟩], by rw [f10 13 _ (by omega), e4.2.2.1]; exact K26.2, by rw [f10 15 _ (by omega), e4.2.2.2.2]; exact a0⟩, ?_, by rw [f10 12 _ (by omega), f10 12 _ (by omega), f10 s 4 (by omega)]; exact bg⟩ (by rw [f10 2 3 (by omega)]; omega) fun j y => by rw [f10 11 _ (by omega)]; exact s11 j y
          rw [f10 2 5 (by omega), f10 13 _ (by omega)]
          exact fun x => ⟨fun r => by omega, fun r => by omega, fun r => by have := (g4 x).d rfl; unfold rho at *; rw [f10 s 10 (by omega)]; exact this⟩
    · have z4 : μ4 2 4 ≠ 0 := by rw [f4 2 4 (by omega) (by omega)]; exact z
      refine ⟨fun _ => hS 1 μ4 z4 (W4.stop z4), fun _ => c_mRe_kind W4 fun r hr => ⟨fun _ => hS 1 μ4 z4 (W4.stop z4), fun x => ?_⟩⟩
      rcases hr with hr | hr
      · omega
      · exact absurd hr.1 z4
  have s203 : ∀ (l : ab_l) (μ1 : ab_m) (v ir ic : Int), l 0 = 2 → l 2 = μ 2 3 → l 4 = ir → l 5 = ic → l 6 = v → k = 33 → zW s ζ δ b Z Lb Ln μ0 μ1 (t - c) τ (H + h + 0) κ (o + u) k → (∀ cc j, ¬ (cc = 2 ∧ (j = 5 ∨ j = 6)) → μ1 cc j = μ cc j) → (zTo (ir ≠ 0) (ic = 0 ∧ μ 4 (μ 2 3 + 1) = 27)) → (zTo (ic ≠ 0) (μ 4 (μ 2 3 + 1) = 23 ∧ -1 ≤ v ∧ v < 15)) → (zTo (ic = 0) (μ 4 (μ 2 3 + 1) ≠ 23)) → (zTo (μ1 2 5 = 0) (μ 2 5 = 0 ∧ zNg μ1 s ζ δ (if ir ≠ 0 then 1 else if ic ≠ 0 then 2 else 0) v)) → jj_mRe_takeOperand X (d + 1) 203 l [] μ1 P := by
    intro l μ1 v ir ic l0 l2 l4 l5 l6 k33 W1 f1 n27 n23 nn g1
    refine bk_mRe_takeOperand_203 l0 ?_
    rw [l4, l5, l6]
    refine c_mRe_go (w := 1) W1 (fun _ => by rw [k33]; decide) fun μ2 W2 a2 f2 => ?_
    have z1 : μ1 2 4 = 0 := by rw [f1 2 4 (by omega)]; exact qz
    have a2 := a2 z1
    rw [f1 2 3 (by omega), f1 4 _ (by omega)] at W2
    rw [f1 2 3 (by omega)] at a2
    have e25 : μ2 2 5 = μ1 2 5 := f2 2 5 (by omega)
    have z2 : μ2 2 4 = 0 := by rw [f2 2 4 (by omega)]; exact z1
    have ng : ∀ {μ3 : ab_m} {kd : Int}, (∀ cc j, cc ≠ 2 → μ3 cc j = μ2 cc j) → kd = 1 ∨ kd = 2 → zNg μ1 s ζ δ kd v → zNg μ3 s ζ δ kd v := fun {μ3} {kd} f3 x y => ⟨fun r => by omega, fun r => by rw [f3 s 8 (by omega), f2 s 8 (by omega)]; exact y.w r, fun r => by unfold rho; rw [f3 s 10 (by omega), f2 s 10 (by omega)]; exact y.d r⟩
    have fin : ∀ (K : Int) (R : ab_m → Prop), (K = 25 ∧ ir ≠ 0) ∨ (K = 26 ∧ ir = 0 ∧ ic ≠ 0) → (∀ μ4, jj_mRe_takeOperand X (d + 1) 251 l [(0, K), (2, 2)] μ4 P → R μ4) → jj_mRe_openOne X d 0 (ab_la [2]) [] μ2 (fun r5 μ4 => R μ4) := fun K R hK hR => by
      refine c_mRe_openOne W2 fun μ3 W3 a3 f3 => hR μ3 ?_
      have f13 : ∀ cc j, cc ≠ 2 → μ3 cc j = μ2 cc j := fun cc j x => f3 cc j (by omega)
      have i0 : ir ≠ 0 → ic = 0 := fun y => (n27 y).1
      have hg : zTo (μ3 2 5 = 0) (μ 2 5 = 0 ∧ zNg μ3 s ζ δ (if ic = 0 then 1 else 2) v) := fun y => by
        have e35 := (a3 (W3.go y)).2.2
        have g1 := g1 (by rw [← e25, ← e35]; exact y)
        refine ⟨g1.1, ?_⟩
        by_cases x : ir = 0
        · have x2 : ic ≠ 0 := by omega
          rw [if_neg (by omega), if_pos x2] at g1
          rw [if_neg x2]; exact ng f13 (Or.inr rfl) g1.2
        · rw [if_pos x] at g1
          rw [if_pos (n27 x).1]; exact ng f13 (Or.inl rfl) g1.2
      refine s251 l μ3 K v ic l0 l2 l5 l6 ?_ W3 (fun cc j x => by rw [f3 cc j (by omega), f2 cc j (by omega), f1 cc j (by omega)]) (fun z => by rw [f3 2 3 (by omega), a2]) (fun y => ?_) (fun y => (n23 y).1) hg
      · rcases hK with x | x
        · exact Or.inl ⟨x.1, (n27 x.2).1⟩
        · exact Or.inr ⟨x.1, x.2.2, (n23 x.2.2).2⟩
      · rcases hK with x | x
        · exact (n27 x.2).2
        · exact absurd y x.2.2
    refine ⟨fun y => ?_, fun y => ⟨fun x => ?_, fun x => ⟨by rw [W2.i.sc]; exact W2.i.hs, ?_⟩⟩⟩
    · exact fin 25 (fun μ4 => (ir = 0 → jj_mRe_takeOperand X (d + 1) 251 l [(0, 26), (2, 2)] μ4 P) ∧ (ir ≠ 0 → jj_mRe_takeOperand X (d + 1) 251 l [(0, 25), (2, 2)] μ4 P)) (Or.inl ⟨rfl, y⟩) fun μ4 j => ⟨fun z => absurd z y, fun _ => j⟩
    · exact fin 26 (fun μ4 => (ir = 0 → jj_mRe_takeOperand X (d + 1) 251 l [(0, 26), (2, 2)] μ4 P) ∧ (ir ≠ 0 → jj_mRe_takeOperand X (d + 1) 251 l [(0, 25), (2, 2)] μ4 P)) (Or.inr ⟨rfl, y, x⟩) fun μ4 j => ⟨fun _ => j, fun z => absurd y z⟩
    · refine c_zadd W2 W2.i.sc (by omega) (H' := H + h + 1) (κ' := κ) (fun z => ?_) fun r3 μ3 W3 a3 => ?_
      · have g1 := (g1 (by rw [← e25]; exact z)).2
        rw [if_neg (by omega), if_neg (by omega)] at g1
        rw [Int.add_zero]
        refine zA_1 (by omega) k0 ?_
        have := g1.max (Or.inl rfl)
        refine ⟨fun r => ⟨(this.n r).1, ?_⟩, fun r => by omega, fun r => by omega⟩
        have na := (this.n r).2
        unfold zNa at *
        rw [f2 s 6 (by omega), f2 s 4 (by omega), f2 (s + 8) _ (by omega), f2 (s + 9) _ (by omega)]
        rcases na with na | na | ⟨j, na⟩
        · exact Or.inl na
        · exact Or.inr (Or.inl na)
        · exact Or.inr (Or.inr ⟨j, by rw [f2 (s + 1) _ (by omega), f2 (s + 2) _ (by omega)]; exact na⟩)
      · obtain ⟨-, S⟩ := a3.S W2 z2 (by omega)
        have f3 := a3.fr
        have f5 : ∀ cc j, 11 ≤ cc → cc ≤ 15 → μ3 cc j = μ cc j := fun cc j x y => by rw [f3 cc j (by omega), f2 cc j (by omega), f1 cc j (by omega)]
        have Q2 : zP μ2 s ζ δ (μ0 s 4) p h u c := q.Q.fr hs (fun cc j x _ => by rw [f2 cc j (by omega), f1 cc j (by omega)]) (by rw [e25]; exact fun y => (g1 y).1) (by omega)
        refine h0 μ3 _ ⟨W3.to (by omega) rfl rfl |>.weak (Int.le_refl _) (by omega) (Int.le_refl _), Q2.add hs S, by rw [f3 2 19 (by omega), f2 2 19 (by omega), f1 2 19 (by omega)]; exact qn, by rw [f3 2 4 (by omega)]; exact z2, fun _ => ?_⟩ (by rw [f3 2 3 (by omega)]; omega) (fun j y => f5 11 j (by decide) (by decide)) fun _ => nn (by omega)
        rw [S.n, f5 12 _ (by decide) (by decide), f2 s 4 (by omega), f1 s 4 (by omega)]; omega
  have s186 : ∀ (l : ab_l) (kd tx ir ic : Int), l 0 = 2 → l 2 = μ 2 3 → l 4 = ir → l 5 = ic → k = 33 → kd = (if ir ≠ 0 then 1 else if ic ≠ 0 then 2 else 0) → (zTo (ir ≠ 0) (ic = 0 ∧ μ 4 (μ 2 3 + 1) = 27)) → (zTo (ic ≠ 0) (ir = 0 ∧ μ 4 (μ 2 3 + 1) = 23)) → (zTo (ic = 0) (μ 4 (μ 2 3 + 1) ≠ 23)) → jj_mRe_takeOperand X (d + 1) 186 l [(0, kd), (1, tx), (2, 7)] μ P := by
    intro l kd tx ir ic l0 l2 l4 l5 k33 hkd n27 n23 nn
    refine bk_mRe_takeOperand_186 l0 ?_
    rw [l2]
    refine c_mNa_find W.i.nc.1 fun r hr => ?_
    have n23' : zTo (ic ≠ 0) (μ 4 (μ 2 3 + 1) = 23 ∧ -1 ≤ r ∧ r < 15) := fun y => by
      have y2 := n23 y
      refine ⟨y2.2, ?_⟩
      rcases hr with hr | ⟨i, i1, i2, i3, i4⟩
      · omega
      · rw [hkd, if_neg (by omega), if_pos y] at i3
        have := W.i.nk i i1 i2 i3
        omega
    refine ⟨fun x => s203 _ μ r ir ic l0 l2 l4 l5 rfl k33 W (fun _ _ _ => rfl) n27 n23' nn fun z => ⟨z, ?_⟩, fun x => c_mRe_soften W (by decide) a0 fun μ1 y1 f1 W1 p1 => s203 _ μ1 r ir ic l0 l2 l4 l5 rfl k33 (W1 Z _ κ) f1 n27 n23' nn fun z => absurd z y1⟩
    rcases hr with hr | ⟨i, i1, i2, i3, i4⟩
    · exact absurd hr x
    · obtain ⟨Γ, gg⟩ := W.g z
      have := gg.find i1 i2
      rw [i3, ← i4, hkd] at this
      exact this
  have s152 : ∀ (l : ab_l) (ir ic : Int), l 0 = 2 → l 2 = μ 2 3 → l 4 = ir → k = 33 → (zTo (ir ≠ 0) (ic = 0 ∧ μ 4 (μ 2 3 + 1) = 27)) → (zTo (ic ≠ 0) (ir = 0 ∧ μ 4 (μ 2 3 + 1) = 23)) → (zTo (ic = 0) (μ 4 (μ 2 3 + 1) ≠ 23)) → jj_mRe_takeOperand X (d + 1) 152 l [(0, ic)] μ P := by
    intro l ir ic l0 l2 l4 k33 n27 n23 nn
    refine bk_mRe_takeOperand_152 l0 ?_
    rw [l2, l4]
    refine ⟨a0, fun x => ⟨fun y => s186 _ 0 _ ir ic l0 l2 l4 rfl k33 ?_ n27 n23 nn, fun y => s186 _ 2 _ ir ic l0 l2 l4 rfl k33 ?_ n27 n23 nn⟩, fun x => s186 _ 1 _ ir ic l0 l2 l4 rfl k33 ?_ n27 n23 nn⟩
    · rw [if_neg (by omega), if_neg (by omega)]
    · rw [if_neg (by omega), if_pos y]
    · rw [if_pos x]
  have s74 : ∀ (l : ab_l), l 0 = 2 → l 1 = k → (k = 33 ∨ k = 3 ∨ k = 19 ∨ k = 20 ∨ k = 23) → jj_mRe_takeOperand X (d + 1) 74 l [] μ P := by
    intro l l0 l1 hk
    refine bk_mRe_takeOperand_74 l0 ?_
    rw [l1]
    refine ⟨fun k33 => c_mRe_nextKind W fun r hr => ?_, fun k33 => c_mRe_openOne W fun μ1 W1 a1 f1 => ?_⟩
    · have hn : r = 27 → μ 4 (μ 2 3 + 1) = 27 := fun y => by
        rcases hr with hr | hr
        · omega
        · rw [← hr.2]; exact y
      have hn2 : r = 23 → μ 4 (μ 2 3 + 1) = 23 := fun y => by
        rcases hr with hr | hr
        · omega
        · rw [← hr.2]; exact y
      have hn3 : r ≠ 23 → μ 4 (μ 2 3 + 1) ≠ 23 := fun y => by
        rcases hr with hr | hr
        · have := W.nx qz 1 (by rw [k33]; decide)
          omega
        · rw [← hr.2]; exact y
      exact ⟨fun x => ⟨fun y => s152 _ 0 0 l0 rfl rfl k33 (fun z => absurd rfl z) (fun z => absurd rfl z) fun _ => hn3 y, fun y => s152 _ 0 1 l0 rfl rfl k33 (fun z => absurd rfl z) (fun _ => ⟨rfl, hn2 y⟩) fun z => absurd z (by decide)⟩, fun x => ⟨fun y => s152 _ 1 0 l0 rfl rfl k33 (fun _ => ⟨rfl, hn x⟩) (fun z => absurd rfl z) fun _ => hn3 y, fun y => by omega⟩⟩
    · have W1' := W1.to (o' := o + u + 1) rfl rfl (by omega)
      exact ⟨fun x => ⟨fun y => s107 _ μ1 k l0 (by omega) W1' f1 (fun z => (a1 z).2.2) k33 (by omega) (by omega), fun y => s107 _ μ1 18 l0 (by omega) W1' f1 (fun z => (a1 z).2.2) k33 (by omega) (by omega)⟩, fun x => s107 _ μ1 24 l0 (by omega) W1' f1 (fun z => (a1 z).2.2) k33 (by omega) (by omega)⟩
  refine bk_mRe_takeOperand_0 rfl (c_mRe_kind W fun r hr => ?_)
  have rk : r = k := by
    rcases hr with hr | hr
    · exact absurd qz hr.1
    · exact hr.2.1
  subst rk
  have mis : jj_mRe_misfit X d 0 (ab_la [2]) [] μ (fun r5 μ4 => P 0 μ4) := c_mRe_misfit W fun μ1 z1 W1 _ => hS 0 μ1 z1 W1
  refine ⟨fun x => ⟨fun y => s74 _ rfl rfl (by omega), fun _ => ⟨fun y => s74 _ rfl rfl (by omega), fun _ => ⟨fun y => s74 _ rfl rfl (by omega), fun _ => ⟨fun y => s74 _ rfl rfl (by omega), fun _ => ⟨fun y => s74 _ rfl rfl (by omega), fun _ => mis⟩⟩⟩⟩⟩, fun x => ⟨a0, by rw [W.i.sc]; exact W.i.hs, c_zadd W W.i.sc (by omega) (H' := H + h + 1) (κ' := κ) (fun z => by rw [Int.add_zero]; exact zA_0 (by omega) k0) fun r3 μ3 W3 a3 => c_mRe_go (w := 1) W3 (fun _ => by rw [x]; decide) fun μ4 W4 a4 f4 => ?_⟩⟩
  obtain ⟨-, S⟩ := a3.S W qz (by omega)
  have f3 := a3.fr
  have a4 := a4 (by rw [f3 2 4 (by omega)]; exact qz)
  rw [f3 2 3 (by omega)] at a4
  have f5 : ∀ cc j, 11 ≤ cc → cc ≤ 15 → μ4 cc j = μ cc j := fun cc j x y => by rw [f4 cc j (by omega), f3 cc j (by omega)]
  refine h0 μ4 _ ⟨(W4.to (by omega) rfl rfl).weak (Int.le_refl _) (by omega) (Int.le_refl _), (q.Q.add hs S).fr hs (fun cc j x _ => f4 cc j (by omega)) (by rw [f4 2 5 (by omega)]; exact id) (by rw [f3 2 3 (by omega)]; omega), by rw [f4 2 19 (by omega), f3 2 19 (by omega)]; exact qn, by rw [f4 2 4 (by omega), f3 2 4 (by omega)]; exact qz, fun _ => ?_⟩ (by omega) (fun j y => f5 11 j (by decide) (by decide)) fun y => by omega
  rw [f4 s 4 (by omega), S.n, f5 12 _ (by decide) (by decide)]; omega
end K31

/-! THE CLASS, part k32: takeClosing -/
section K32
variable {X : jm_X} {d : Nat} {P : Int → ab_m → Prop} {μ μ' μ0 μ1 : ab_m} {s t τ t' τ' ζ δ b b' H H' κ κ' o o' k k' n0 h u c h' u' c' w tt : Int} {Z Z' : Int → Prop} {Γ : scG} {Lb Ln Lb' Ln' : List Int} {p : Nat} {l : ab_l}
theorem c_tc189 (hc : zH μ0 s ζ t H κ o) (l0 : l 0 = 2) (l2 : l 2 = (p : Int) + 1) (W : zW s ζ δ b Z Lb Ln μ0 μ tt τ (H + h + 1) κ (o + u + 1) k) (ht : tt ≤ t - c + 1) (Q : zP μ s ζ δ (μ0 s 4) p h u c) (z : μ 2 4 = 0) (g : μ 12 p < μ s 4) (hk : k ≠ 34 ∧ k ≠ 35) (hD : ∀ μ' k', zQ s ζ δ b Z Lb Ln μ0 μ' t τ H κ o k' 1 p h u c → μ' 2 3 = μ 2 3 + 1 → (∀ j, μ' 11 j = μ 11 j) → μ' s 4 = μ s 4 → (∀ j, μ' (s + 1) j = μ (s + 1) j) → P 1 μ') : jj_mRe_takeClosing X (d + 1) 189 l [] μ P := by
  have hs := W.s'
  refine bk_mRe_takeClosing_189 l0 fun μ1 e1 μ2 e2 => ?_
  rw [l2] at e1
  have W1 := W.pn e1
  have f1 : ∀ cc j, ¬ (cc = 2 ∧ j = 19) → μ1 cc j = μ cc j := fun cc j y => by rw [e1, ab_mud, if_neg y]
  have D := W1.down (fun _ => by have := hc.o0; have := Q.b0; omega) e2
  have f2 := D.2
  refine c_mRe_go (w := 1) D.1 (fun _ => zGo1 hk.1 hk.2) fun μ3 W3 a3 f3 => ?_
  have z2 : μ2 2 4 = 0 := by rw [f2 2 4 (by omega), f1 2 4 (by omega)]; exact z
  have a3 := a3 z2
  have e23 : μ2 2 3 = μ 2 3 := by rw [f2 2 3 (by omega), f1 2 3 (by omega)]
  rw [e23] at a3
  have ff : ∀ cc j, cc ≠ 2 → μ3 cc j = μ cc j := fun cc j y => by rw [f3 cc j (by omega), f2 cc j (by omega), f1 cc j (by omega)]
  refine hD μ3 _ ⟨W3.weak (by omega) (by omega) (Int.le_refl _), Q.fr hs (fun cc j y _ => ff cc j y) (by rw [f3 2 5 (by omega), f2 2 5 (by omega), f1 2 5 (by omega)]; exact id) (by omega), ?_, by rw [f3 2 4 (by omega)]; exact z2, fun _ => by rw [ff 12 _ (by decide), ff s 4 (by omega)]; exact g⟩ a3 (fun j => ff 11 j (by decide)) (ff s 4 (by omega)) fun j => ff _ j (by omega)
  rw [f3 2 19 (by omega), f2 2 19 (by omega), e1, ab_mud, if_pos ⟨rfl, rfl⟩]
theorem c_tcList {e : Int} (hc : zH μ0 s ζ t H κ o) (l0 : l 0 = 2) (l1 : l 1 = 24) (l2 : l 2 = (p : Int) + 1) (l3 : l 3 = 26) (l4 : l 4 = μ 13 ((p : Int) + 1)) (W : zW s ζ δ b Z Lb Ln μ0 μ (t - c) τ (H + h + e + 1) κ (o + u + 1) 24) (Q : zP μ s ζ δ (μ0 s 4) p h u c) (z : μ 2 4 = 0) (he : μ 14 ((p : Int) + 1) = e ∧ -1 ≤ e ∧ e ≤ μ 2 3) (hn : -1 ≤ μ 13 ((p : Int) + 1) ∧ μ 13 ((p : Int) + 1) < 15) (hm : 0 ≤ μ 15 ((p : Int) + 1) ∧ μ 15 ((p : Int) + 1) < 3001) (hg : zTo (μ 2 5 = 0) (zNg μ s ζ δ 2 (μ 13 ((p : Int) + 1)))) (bg : μ 12 (p : Int) ≤ μ 12 ((p : Int) + 1) ∧ μ 12 ((p : Int) + 1) ≤ μ s 4) (p1 : (p : Int) ≤ 390) (hD : ∀ μ' k', zQ s ζ δ b Z Lb Ln μ0 μ' t τ H κ o k' 1 p h u c → μ' 2 3 = μ 2 3 + 1 → (∀ j, μ' 11 j = μ 11 j) → (μ' s 4 = μ s 4 + 1 ∧ μ' (s + 1) (μ s 4) = 32) → P 1 μ') : jj_mRe_takeClosing X (d + 1) 102 l [] μ P := by
  have hs := W.s'
  have t0 := hc.t0
  have b0 := Q.b0
  have k0 := hc.k0
  have h0 := hc.h0
  have a3 := W.at3
  have s152 : ∀ (μ1 : ab_m), zW s ζ δ b Z Lb Ln μ0 μ1 (t - c) τ (H + h + e + 1) κ (o + u + 1) 24 → (∀ cc j, ¬ (cc = 2 ∧ (j = 5 ∨ j = 6)) → μ1 cc j = μ cc j) → (zTo (μ1 2 5 = 0) (μ 2 5 = 0 ∧ μ (s + 9) (μ 13 ((p : Int) + 1)) = e + 1)) → jj_mRe_takeClosing X (d + 1) 152 l [] μ1 P := by
    intro μ1 W1 f1 g1
    refine bk_mRe_takeClosing_152 l0 ?_
    rw [l4]
    refine ⟨by rw [W1.i.sc]; exact W1.i.hs, c_zadd W1 W1.i.sc (by omega) (H' := H + h + 1) (κ' := κ) (fun y => ?_) fun r2 μ2 W2 a2 => ?_⟩
    · have g1 := g1 y
      have ng := hg g1.1
      have r0 := ng.d rfl
      rw [if_neg (by omega)]
      have e9 : μ1 (s + 9) (μ 13 ((p : Int) + 1)) = e + 1 := by rw [f1 _ _ (by omega)]; exact g1.2
      refine zA_32 k0 (by omega) (by omega) ⟨fun r => by omega, fun r => by omega, fun _ => ?_⟩
      unfold rho at *
      rw [f1 s 10 (by omega)]; exact r0
    · have z1 : μ1 2 4 = 0 := by rw [f1 2 4 (by omega)]; exact z
      obtain ⟨-, S⟩ := a2.S W1 z1 (by omega)
      have f2 := a2.fr
      have n1 : μ1 s 4 = μ s 4 := f1 s 4 (by omega)
      have Q1 : zP μ1 s ζ δ (μ0 s 4) p h u c := Q.fr hs (fun cc j y _ => f1 cc j (by omega)) (fun y => (g1 y).1) (by rw [f1 2 3 (by omega)]; exact Int.le_refl _)
      have e12 : μ2 12 (p : Int) = μ 12 p := by rw [f2 12 _ (by omega), f1 12 _ (by omega)]
      refine c_tc189 hc l0 l2 W2 (by omega) (Q1.add hs S) (by rw [f2 2 4 (by omega)]; exact z1) (by rw [S.n, e12]; omega) (by decide) fun μ3 k3 q3 at3 s3 n3 o3 => hD μ3 k3 q3 (by rw [at3, f2 2 3 (by omega), f1 2 3 (by omega)]) (fun j => by rw [s3, f2 11 _ (by omega), f1 11 _ (by omega)]) ⟨by rw [n3, S.n, n1], by rw [o3, ← n1]; exact S.o⟩
  refine bk_mRe_takeClosing_102 l0 ?_
  rw [l1, l2, l3, l4, he.1, W.i.sc, show ab_w (e + 1) = e + 1 from ab_wi (by omega) (by omega)]
  refine ⟨fun y => absurd rfl y, fun _ => ⟨fun y => absurd rfl y, fun _ => ⟨fun y => s152 μ W (fun _ _ _ => rfl) fun x => ⟨x, ?_⟩, fun y => ⟨W.i.hs, by omega, by omega, fun x => s152 μ W (fun _ _ _ => rfl) fun x' => ⟨x', x⟩, fun x => ⟨by omega, c_mRe_soften W (by decide) hm fun μ1 y1 f1 W1 p1 => s152 μ1 (W1 Z _ κ) f1 fun x => absurd x y1⟩⟩⟩⟩⟩
  have := (hg x).d rfl
  omega
theorem c_mRe_takeClosing (hc : zH μ0 s ζ t H κ o) (q : zQ s ζ δ b Z Lb Ln μ0 μ t τ H κ o k 1 p h u c) (hw : ab_str (μ 11 p) < 1)
    (hS : ∀ μ', μ' 2 4 ≠ 0 → (∀ Z' t' τ' H' κ' o' k', zW s ζ δ b Z' Lb Ln μ0 μ' t' τ' H' κ' o' k') → P 0 μ')
    (hE : p = 0 → P 0 μ)
    (hC : ∀ μ' k', k = 29 → zQ s ζ δ b Z Lb Ln μ0 μ' t τ H κ o k' 0 p (h + 1) u c → μ' 2 3 = μ 2 3 + 1 → (∀ j, μ' 11 j = μ 11 j) → P 1 μ')
    (hD : ∀ μ' k' p' h' u' c', p = p' + 1 → k ≠ 29 → zQ s ζ δ b Z Lb Ln μ0 μ' t τ H κ o k' 1 p' h' u' c' → μ' 2 3 = μ 2 3 + 1 → (∀ j, μ' 11 j = μ 11 j) → (zTo (μ 11 p = 26) (μ' s 4 = μ s 4 + 1 ∧ μ' (s + 1) (μ s 4) = 32)) → P 1 μ') : jj_mRe_takeClosing X (d + 1) 0 (ab_la [2, k]) [] μ P := by
  have hs := q.W.s'
  have b0 := q.Q.b0
  obtain ⟨u24, p274⟩ := q.u24 hc
  have t0 := hc.t0
  have h0 := hc.h0
  have k0 := hc.k0
  have qz := q.z
  have W := q.W
  have qn := q.n
  have qg := q.g rfl
  have mis : jj_mRe_misfit X d 0 (ab_la [2]) [] μ (fun r5 μ4 => P 0 μ4) := c_mRe_misfit W fun μ1 z1 W1 _ => hS μ1 z1 W1
  refine bk_mRe_takeClosing_0 rfl ?_
  simp only [la1]
  rw [qn, show ab_w ((p : Int) + 1 - 1) = p by rw [ab_wi (by omega) (by omega)]; omega]
  cases p with
  | zero =>
    have k23 : μ 11 ((0 : Nat) : Int) = 23 := q.Q.1
    exact ⟨by omega, fun y => absurd k23 y, fun _ => hE rfl⟩
  | succ p =>
    obtain ⟨h', u', c', Q1, bg, E⟩ := q.Q
    have b1 := Q1.b0
    rw [show ((p + 1 : Nat) : Int) = (p : Int) + 1 by omega] at *
    have pp : ((p + 1 : Nat) : Int) = (p : Int) + 1 := by omega
    have mis171 : ∀ (l : ab_l), l 0 = 2 → l 1 = k → (k = 24 → l 3 ≠ 24) → jj_mRe_takeClosing X (d + 1) 171 l [] μ P := fun l l0 l1 l3 => by
      refine bk_mRe_takeClosing_171 l0 ?_
      rw [l1]
      exact ⟨fun _ => mis, fun y => ⟨fun x => absurd x (l3 y), fun _ => mis⟩⟩
    have hw0 : ∀ {x : Int}, μ 11 ((p : Int) + 1) = x → ab_str x < 1 := fun y => by rw [← y]; exact hw
    rcases E with ⟨kk, w, rfl, rfl, rfl⟩ | ⟨kk, w, n, o', g, rfl, rfl, rfl⟩ | ⟨kk, rfl, rfl, rfl⟩ | ⟨kk, rfl, rfl, rfl⟩ | ⟨kk, g, rfl, rfl, rfl⟩ | ⟨kk, e, n, m, g, rfl, rfl, rfl⟩
    · have := strb (Or.inl kk); omega
    · have := strb (Or.inr kk); omega
    · have := stru kk; omega
    · have s63 : ∀ (l : ab_l), l 0 = 2 → l 1 = k → l 2 = (p : Int) + 1 → l 3 = 24 → jj_mRe_takeClosing X (d + 1) 63 l [] μ P := by
        intro l l0 l1 l2 l3
        have s102 : ∀ (l : ab_l), l 0 = 2 → l 1 = k → l 2 = (p : Int) + 1 → l 3 = 24 → jj_mRe_takeClosing X (d + 1) 102 l [] μ P := by
          intro l l0 l1 l2 l3
          have s171 : jj_mRe_takeClosing X (d + 1) 171 l [] μ P := by
            refine bk_mRe_takeClosing_171 l0 ?_
            rw [l1, l3]
            refine ⟨fun _ => mis, fun y => ⟨fun _ => ?_, fun x => absurd rfl x⟩⟩
            exact c_tc189 (h := h) (u := u') (c := c) hc l0 l2 (W.to rfl rfl (by omega)) (by omega) Q1 qz (by omega) (by omega) fun μ3 k3 q3 at3 s3 n3 o3 => hD μ3 k3 p h u' c rfl (by omega) q3 at3 s3 fun x => by omega
          refine bk_mRe_takeClosing_102 l0 ?_
          rw [l1, l3]
          exact ⟨fun _ => s171, fun _ => ⟨fun _ => s171, fun x => absurd x (by decide)⟩⟩
        refine bk_mRe_takeClosing_63 l0 ?_
        rw [l1, l2, l3]
        exact ⟨by omega, fun _ => s102 _ l0 l1 l2 l3, fun _ => ⟨fun _ => s102 _ l0 l1 l2 l3, fun x => absurd x (by decide)⟩⟩
      rw [kk]
      exact ⟨by omega, fun _ => ⟨fun _ => s63 _ rfl rfl rfl rfl, fun _ => ⟨fun _ => s63 _ rfl rfl rfl rfl, fun x => absurd x (by decide)⟩⟩, fun x => absurd x (by decide)⟩
    · have s63 : ∀ (l : ab_l), l 0 = 2 → l 1 = k → l 2 = (p : Int) + 1 → l 3 = 25 → jj_mRe_takeClosing X (d + 1) 63 l [] μ P := by
        intro l l0 l1 l2 l3
        have s102 : ∀ (l : ab_l), l 0 = 2 → l 1 = k → l 2 = (p : Int) + 1 → l 3 = 25 → jj_mRe_takeClosing X (d + 1) 102 l [] μ P := by
          intro l l0 l1 l2 l3
          have s171 := mis171 l l0 l1 (by omega)
          refine bk_mRe_takeClosing_102 l0 ?_
          rw [l1, l3]
          exact ⟨fun _ => s171, fun _ => ⟨fun _ => s171, fun x => absurd x (by decide)⟩⟩
        refine bk_mRe_takeClosing_63 l0 ?_
        rw [l1, l2, l3]
        refine ⟨by omega, fun _ => s102 _ l0 l1 l2 l3, fun y => ⟨fun _ => s102 _ l0 l1 l2 l3, fun _ => ⟨by rw [W.i.sc]; exact W.i.hs, c_zadd W W.i.sc (by omega) (H' := H + h + 1) (κ' := κ) (fun x => zA_21 (by omega) k0 ((g x).max (by omega))) fun r2 μ2 W2 a2 => ?_⟩⟩⟩
        obtain ⟨-, S⟩ := a2.S W qz (by omega)
        have f2 := a2.fr
        have e12 : μ2 12 (p : Int) = μ 12 p := f2 12 _ (by omega)
        exact c_tc189 (h := h) (u := u') (c := c) hc l0 l2 (W2.to rfl rfl (by omega)) (by omega) (Q1.add hs S) (by rw [f2 2 4 (by omega)]; exact qz) (by rw [S.n, e12]; omega) (by omega) fun μ3 k3 q3 at3 s3 n3 o3 => hD μ3 k3 p h u' c rfl (by omega) q3 (by rw [at3, f2 2 3 (by omega)]) (fun j => by rw [s3, f2 11 _ (by omega)]) fun x => by omega
      rw [kk]
      exact ⟨by omega, fun _ => ⟨fun _ => s63 _ rfl rfl rfl rfl, fun _ => ⟨fun _ => s63 _ rfl rfl rfl rfl, fun x => absurd x (by decide)⟩⟩, fun x => absurd x (by decide)⟩
    · have a3 := W.at3
      have s63 : ∀ (l : ab_l), k ≠ 29 → l 0 = 2 → l 1 = k → l 2 = (p : Int) + 1 → l 3 = 26 → jj_mRe_takeClosing X (d + 1) 63 l [] μ P := by
        intro l k29 l0 l1 l2 l3
        have s102 : ∀ (l : ab_l), l 0 = 2 → l 1 = k → l 2 = (p : Int) + 1 → l 3 = 26 → l 4 = μ 13 ((p : Int) + 1) → jj_mRe_takeClosing X (d + 1) 102 l [] μ P := by
          intro l l0 l1 l2 l3 l4
          by_cases y : k = 24
          · subst y
            exact c_tcList (e := μ 14 ((p : Int) + 1)) (h := h') (u := u') (c := c) hc l0 l1 l2 l3 l4 (W.to rfl (by omega) (by omega)) Q1 qz ⟨rfl, by omega, e.2⟩ n m g bg (by omega) fun μ3 k3 q3 at3 s3 n3 => hD μ3 k3 p h' u' c rfl (by omega) q3 at3 s3 fun _ => n3
          · have s171 := mis171 l l0 l1 (fun x => absurd x y)
            refine bk_mRe_takeClosing_102 l0 ?_
            rw [l1, l3]
            exact ⟨fun _ => s171, fun x => absurd x y⟩
        refine bk_mRe_takeClosing_63 l0 ?_
        rw [l1, l2, l3]
        exact ⟨by omega, fun _ => s102 _ l0 l1 l2 l3 rfl, fun _ => ⟨fun _ => s102 _ l0 l1 l2 l3 rfl, fun x => absurd x (by decide)⟩⟩
      rw [kk]
      refine ⟨by omega, fun _ => ⟨fun y => s63 _ y rfl rfl rfl rfl, fun y => ⟨fun x => absurd rfl x, fun _ => ⟨by omega, by omega, fun μ1 e1 => ?_⟩⟩⟩, fun x => absurd x (by decide)⟩
      rw [show ab_w (μ 14 ((p : Int) + 1) + 1) = μ 14 ((p : Int) + 1) + 1 from ab_wi (by omega) (by omega)] at e1
      have f1 : ∀ cc j, ¬ (cc = 14 ∧ j = (p : Int) + 1) → μ1 cc j = μ cc j := fun cc j x => by rw [e1, ab_mud, if_neg x]
      have W1 := W.neg1 e1
      refine ⟨by rw [W1.i.sc]; exact W1.i.hs, by omega, fun μ3 e3 => ?_⟩
      rw [W1.i.sc, f1 s 4 (by omega)] at e3
      have f3 : ∀ cc j, ¬ (cc = 12 ∧ j = (p : Int) + 1) → μ3 cc j = μ1 cc j := fun cc j x => by rw [e3, ab_mud, if_neg x]
      have g2 : ∀ j, μ3 2 j = μ 2 j := fun j => by rw [f3 2 j (by omega), f1 2 j (by omega)]
      have ff : ∀ cc j, ¬ (11 ≤ cc ∧ cc ≤ 15 ∧ j = (p : Int) + 1) → μ3 cc j = μ cc j := fun cc j y => by rw [f3 cc j (by omega), f1 cc j (by omega)]
      have W3 : zW s ζ δ b Z Lb Ln μ0 μ3 (t - c) τ (H + (h' + μ 14 ((p : Int) + 1)) + 1) κ (o + (u' + 1)) k := W.f3 (fun cc j _ y => ff cc j (by omega)) (fun j _ _ => g2 j) (by rw [g2]; exact ⟨Int.le_refl _, W.i.a.2⟩) (by rw [g2, g2, g2]; exact W.i.sf) (by rw [g2]; exact id) (by rw [g2]; exact id) (by rw [g2, g2, g2]; exact W.i.ph) (by rw [g2, g2]; exact W.op) (by rw [g2, g2]; exact W.kw) (by rw [g2]; exact W.g)
      refine c_mRe_go (w := 1) W3 (fun _ => by rw [y]; decide) fun μ4 W4 a4 f4 => ?_
      have a4 := a4 (by rw [g2]; exact qz)
      rw [g2] at a4
      have f5 : ∀ cc j, cc ≠ 2 → ¬ (11 ≤ cc ∧ cc ≤ 15 ∧ j = (p : Int) + 1) → μ4 cc j = μ cc j := fun cc j x y => by rw [f4 cc j (by omega), ff cc j y]
      have f6 : ∀ cc j, cc ≠ 2 → cc ≠ 14 → cc ≠ 12 → μ4 cc j = μ cc j := fun cc j x y z => by rw [f4 cc j (by omega), f3 cc j (by omega), f1 cc j (by omega)]
      have e14 : μ4 14 ((p : Int) + 1) = μ 14 ((p : Int) + 1) + 1 := by rw [f4 14 _ (by omega), f3 14 _ (by omega), e1, ab_mud, if_pos ⟨rfl, rfl⟩]
      have e12 : μ4 12 ((p : Int) + 1) = μ s 4 := by rw [f4 12 _ (by omega), e3, ab_mud, if_pos ⟨rfl, rfl⟩]
      have z5 : μ4 2 5 = μ 2 5 := by rw [f4 2 5 (by omega), g2]
      have E := zE.lst (μ := μ4) (s := s) (ζ := ζ) (δ := δ) (n0 := μ0 s 4) (i := (p : Int) + 1) (h' := h') (u' := u') (c' := c) (by rw [f6 11 _ (by decide) (by decide) (by decide)]; exact kk) (by rw [e14]; omega) (by rw [f6 13 _ (by decide) (by decide) (by decide)]; exact n) (by rw [f6 15 _ (by decide) (by decide) (by decide)]; exact m) fun x => by
        have g := g (by rw [← z5]; exact x)
        rw [f6 13 _ (by decide) (by decide) (by decide)]
        exact ⟨fun r => by omega, fun r => by omega, fun r => by have := g.d rfl; unfold rho at *; rw [f6 s 10 (by omega) (by omega) (by omega)]; exact this⟩
      rw [e14] at E
      refine hC μ4 _ y ⟨(W4.to (t' := t - c - 1) rfl (by omega) rfl).weak (by omega) (by omega) (Int.le_refl _), ⟨h', u', c, Q1.up hs f5 (by rw [z5]; exact id) (by omega), by rw [e12, f5 12 _ (by omega) (by omega), f6 s 4 (by omega) (by omega) (by omega)]; omega, by rw [show h' + μ 14 ((p : Int) + 1) + 1 = h' + (μ 14 ((p : Int) + 1) + 1) by omega]; exact E⟩, by rw [f4 2 19 (by omega), g2, pp]; exact qn, by rw [f4 2 4 (by omega), g2]; exact qz, fun x => absurd x (by decide)⟩ a4 fun j => f6 11 j (by decide) (by decide) (by decide)
end K32

/-! THE CLASS, part k33: takeExpr -/
section K33
variable {X : jm_X} {d : Nat} {P : Int → ab_m → Prop} {μ μ' μ0 μ1 : ab_m} {s t τ t' τ' ζ δ b b' H H' κ κ' o o' k k' n0 h u c h' u' c' w tt is : Int} {Z Z' : Int → Prop} {Γ : scG} {Lb Ln Lb' Ln' : List Int} {p : Nat}
theorem c_mRe_isBinary (hP : ∀ r, (r = 1 ∧ ((2 ≤ k ∧ k ≤ 17) ∨ k = 21 ∨ k = 22)) ∨ (r = 0 ∧ ¬ ((2 ≤ k ∧ k ≤ 17) ∨ k = 21 ∨ k = 22)) → P r μ) : jj_mRe_isBinary X d 0 (ab_la [k]) [] μ P := by
  refine bk_mRe_isBinary_0 ?_
  simp only [la0]
  exact ⟨fun a => ⟨fun y => by omega, fun y => ⟨fun x => hP 0 (Or.inr ⟨rfl, by omega⟩), fun x => by omega⟩⟩, fun a => ⟨fun y => hP 1 (Or.inl ⟨rfl, by omega⟩), fun y => ⟨fun x => hP 1 (Or.inl ⟨rfl, by omega⟩), fun x => ⟨fun z => hP 0 (Or.inr ⟨rfl, by omega⟩), fun z => hP 1 (Or.inl ⟨rfl, by omega⟩)⟩⟩⟩⟩
/-- an expr between two words -/
def zL (s ζ δ b : Int) (Z : Int → Prop) (Lb Ln : List Int) (μ0 μ : ab_m) (t τ H κ o wo : Int) : Prop := (∃ k p h u c, zQ s ζ δ b Z Lb Ln μ0 μ t τ H κ o k (if wo = 0 then 1 else 0) p h u c) ∨ (wo = 0 ∧ ∃ p h u c, zV s ζ δ b Z Lb Ln μ0 μ t τ H κ o p h u c)
theorem c_exprLoop (hc : zH μ0 s ζ t H κ o) (ht : t ≤ 0) (hS : ∀ μ', μ' 2 4 ≠ 0 → (∀ Z' t' τ' H' κ' o' k', zW s ζ δ b Z' Lb Ln μ0 μ' t' τ' H' κ' o' k') → P 0 μ')
    (hP : ∀ μ' k', zW s ζ δ b Z Lb Ln μ0 μ' t τ (H + 1) κ o k' → (zTo (is ≠ 0) (μ0 s 4 < μ' s 4 ∧ μ' (s + 1) (μ' s 4 - 1) = 32)) → P 0 μ') :
    ∀ (m : Nat) (l : ab_l) (μ : ab_m) (wo lf : Int), l 0 = 2 → l 1 = is → l 2 = wo → l 3 ≠ 0 → l 4 = lf → lf ≤ 3001 → lf.toNat = m → μ 3 3 ≤ lf + μ 2 3 → zL s ζ δ b Z Lb Ln μ0 μ t τ H κ o wo → (zTo (is ≠ 0) (2 ≤ μ 2 19 ∧ μ 11 1 = 26)) → jj_mRe_takeExpr X (d + 2) 26 l [] μ P := by
  intro m
  induction m with
  | zero =>
    intro l μ wo lf l0 l1 l2 l3 l4 lf1 em le L hi
    exfalso
    rcases L with ⟨k, p, h, u, c, q⟩ | ⟨-, p, h, u, c, q⟩
    · have := q.W.i.a; omega
    · have := q.W.i.a; omega
  | succ m ih =>
    intro l μ wo lf l0 l1 l2 l3 l4 lf1 em le L hi
    obtain ⟨lf2, lf3, lf4⟩ := lfm lf1 em
    have lf0 : 0 < lf := by omega
    -- the end of the loop
    have fin : ∀ (l : ab_l) (μ1 : ab_m), l 0 = 2 → l 3 = 0 → P 0 μ1 → jj_mRe_takeExpr X (d + 2) 26 l [] μ1 P := by
      intro l μ1 l0 l3 h1
      refine bk_mRe_takeExpr_26 l0 ?_
      rw [l3]
      exact ⟨fun _ => h1, fun _ => ⟨fun _ => h1, fun y => absurd rfl y⟩⟩
    have stp : ∀ (l : ab_l) (μ1 : ab_m), l 0 = 2 → μ1 2 4 ≠ 0 → P 0 μ1 → jj_mRe_takeExpr X (d + 2) 26 l [] μ1 P := by
      intro l μ1 l0 z h1
      refine bk_mRe_takeExpr_26 l0 ?_
      exact ⟨fun _ => h1, fun _ => ⟨fun _ => h1, fun _ => ⟨fun _ => h1, fun y => absurd y z⟩⟩⟩
    have c33 : ∀ {μ1 : ab_m} {tt ττ HH oo kk : Int}, zW s ζ δ b Z Lb Ln μ0 μ1 tt ττ HH κ oo kk → μ1 3 3 = μ0 3 3 := fun {μ1 _ _ _ _ _} W => by have := W.s'; exact W.f.o 3 3 (by decide) (by decide) (by omega)
    have e0 : μ 3 3 = μ0 3 3 := by
      rcases L with ⟨k, p, h, u, c, q⟩ | ⟨-, p, h, u, c, q⟩
      · exact c33 q.W
      · exact c33 q.W
    -- behind a closing
    have s123 : ∀ (l : ab_l) (μ1 : ab_m) (k : Int), l 0 = 2 → l 1 = is → l 4 = lf → l 5 = k → μ1 3 3 ≤ lf - 1 + μ1 2 3 → zL s ζ δ b Z Lb Ln μ0 μ1 t τ H κ o (if k = 29 then 1 else 0) → (zTo (is ≠ 0) (2 ≤ μ1 2 19 ∧ μ1 11 1 = 26)) → jj_mRe_takeExpr X (d + 2) 123 l [] μ1 P := by
      intro l μ1 k l0 l1 l4 l5 le1 L1 hi1
      refine bk_mRe_takeExpr_123 l0 ?_
      rw [l4, l5, lf4]
      refine ⟨fun y => ih _ μ1 0 (lf - 1) l0 l1 rfl (by show (1 : Int) ≠ 0; decide) rfl lf2 lf3 le1 ?_ hi1, fun y => ih _ μ1 1 (lf - 1) l0 l1 rfl (by show (1 : Int) ≠ 0; decide) rfl lf2 lf3 le1 ?_ hi1⟩
      · rw [if_neg y] at L1; exact L1
      · rw [if_pos y] at L1; exact L1
    have close : ∀ (l : ab_l) (μ1 μ4 : ab_m) (k k' : Int) (p' : Nat) (h' u' c' : Int), l 0 = 2 → l 1 = is → l 4 = lf → l 5 = k → k ≠ 29 → zQ s ζ δ b Z Lb Ln μ0 μ4 t τ H κ o k' 1 p' h' u' c' → μ4 2 3 = μ 2 3 + 1 → μ0 s 4 ≤ μ1 s 4 → (zTo (is ≠ 0) (μ4 11 1 = 26)) → (zTo (is ≠ 0) (zTo (p' = 0) (μ4 s 4 = μ1 s 4 + 1 ∧ μ4 (s + 1) (μ1 s 4) = 32))) → (is = 0 → jj_mRe_takeExpr X (d + 2) 123 l [] μ4 P) ∧ (is ≠ 0 → (μ4 2 19 = 1 → (k ≠ 29 → jj_mRe_takeExpr X (d + 2) 26 (ab_up (ab_up (ab_up l 3 0) 2 0) 4 (ab_w (lf + (-1)))) [] μ4 P) ∧ (k = 29 → jj_mRe_takeExpr X (d + 2) 26 (ab_up (ab_up (ab_up l 3 0) 2 1) 4 (ab_w (lf + (-1)))) [] μ4 P)) ∧ (μ4 2 19 ≠ 1 → jj_mRe_takeExpr X (d + 2) 123 l [] μ4 P)) := by
      intro l μ1 μ4 k k' p' h' u' c' l0 l1 l4 l5 k29 q4 at4 n1 i4 hl
      have qn := q4.n
      have e4 := c33 q4.W
      have L4 : zL s ζ δ b Z Lb Ln μ0 μ4 t τ H κ o (if k = 29 then 1 else 0) := by
        rw [if_neg k29]; exact Or.inl ⟨k', p', h', u', c', q4⟩
      refine ⟨fun y => s123 l μ4 k l0 l1 l4 l5 (by omega) L4 fun x => absurd y x, fun y => ⟨fun x => ⟨fun _ => fin _ μ4 l0 rfl ?_, fun z => absurd z k29⟩, fun x => s123 l μ4 k l0 l1 l4 l5 (by omega) L4 fun _ => ⟨by omega, i4 y⟩⟩⟩
      have p0 : p' = 0 := by omega
      have hl2 := hl y p0
      clear hl
      subst p0
      obtain ⟨Q1, Q2, Q3, Q4, Q5⟩ := q4.Q
      subst Q3 Q4 Q5
      exact hP μ4 k' (q4.W.to (by omega) (by omega) (by omega)) fun _ => ⟨by omega, by rw [hl2.1, show μ1 s 4 + 1 - 1 = μ1 s 4 by omega]; exact hl2.2⟩
    refine bk_mRe_takeExpr_26 l0 ?_
    rw [l2, l4, lf4]
    refine ⟨fun y => by omega, fun _ => ⟨fun y => absurd y l3, fun _ => ⟨fun y => ?_, fun z => ⟨fun w0 => ?_, fun w1 => ?_⟩⟩⟩⟩
    · rcases L with ⟨k, p, h, u, c, q⟩ | ⟨-, p, h, u, c, q⟩
      · exact absurd q.z y
      · exact absurd q.z y
    · rcases L with ⟨k, p, h, u, c, q⟩ | ⟨-, p, h, u, c, q⟩
      · rw [if_pos w0] at q
        have hs := q.W.s'
        obtain ⟨u24, p274⟩ := q.u24 hc
        have qn := q.n
        have pb : zTo (is ≠ 0) (1 ≤ p) := fun y => by have := hi y; omega
        refine c_mRe_kind q.W fun r hr => ?_
        have rk : r = k := by
          rcases hr with hr | hr
          · exact absurd z hr.1
          · exact hr.2.1
        subst rk
        -- after settle the bottom stands
        have bot : ∀ {p' : Nat}, (∀ i : Int, p' < i → i ≤ p → 1 ≤ ab_str (μ 11 i)) → is ≠ 0 → 1 ≤ p' := fun {p'} hp y => by
          by_cases x : p' = 0
          · have := hp 1 (by omega) (by have := pb y; omega)
            rw [(hi y).2, str0 (by decide)] at this
            omega
          · omega
        refine c_mRe_isBinary fun r5 h5 => ⟨fun y => ?_, fun y => ⟨by omega, ?_⟩⟩
        · have nb : ¬ ((2 ≤ r ∧ r ≤ 17) ∨ r = 21 ∨ r = 22) := by
            rcases h5 with h5 | h5
            · omega
            · exact h5.2
          refine bk_mRe_takeExpr_83 l0 (c_mRe_settle hc (by decide) (fun μ1 p' h' u' c' q1 s1 pl hp e1 a1 => ⟨fun _ => ?_, fun x => absurd y x⟩) q)
          show jj_mRe_takeClosing X (d + 1) 0 (ab_la [2, r]) [] μ1 _
          have n1 := q1.W.f.n
          have b26 : zTo (is ≠ 0) (μ1 11 1 = 26) := fun x => by rw [e1 11 1 (by decide) (by decide)]; exact (hi x).2
          have e4 := c33 q1.W
          refine c_mRe_takeClosing hc q1 s1 (fun μ2 z2 W2 => ⟨fun _ => ⟨fun _ => fin _ μ2 l0 rfl (hS μ2 z2 W2), fun _ => fin _ μ2 l0 rfl (hS μ2 z2 W2)⟩, fun x => absurd rfl x⟩) (fun p0 => ⟨fun _ => ?_, fun x => absurd rfl x⟩) (fun μ2 k2 k29 q2 at2 s2 => ⟨fun x => absurd x (by decide), fun _ => ?_⟩) (fun μ2 k2 p2 h2 u2 c2 ep k29 q2 at2 s2 hl => ⟨fun x => absurd x (by decide), fun _ => ?_⟩)
          · have i0 : is = 0 := by
              by_cases x : is = 0
              · exact x
              · have := bot hp x; omega
            subst p0
            obtain ⟨Q1, Q2, Q3, Q4, Q5⟩ := q1.Q
            subst Q3 Q4 Q5
            have fi := hP μ1 r (q1.W.to (by omega) (by omega) (by omega)) fun x => absurd i0 x
            exact ⟨fun _ => fin _ μ1 l0 rfl fi, fun _ => fin _ μ1 l0 rfl fi⟩
          · have qn2 := q2.n
            have L2 : zL s ζ δ b Z Lb Ln μ0 μ2 t τ H κ o (if r = 29 then 1 else 0) := by
              rw [if_pos k29]; exact Or.inl ⟨k2, p', _, u', c', by rw [if_neg (by decide)]; exact q2⟩
            have e5 := c33 q2.W
            have j := s123 (ab_up (ab_up l 5 r) 6 r5) μ2 r l0 l1 l4 rfl (by omega) L2 fun x => ⟨by have := bot hp x; omega, by rw [s2]; exact b26 x⟩
            show (l 1 = 0 → _) ∧ (l 1 ≠ 0 → _)
            refine ⟨fun _ => j, fun x => ⟨fun v => ?_, fun _ => j⟩⟩
            have := bot hp (by rw [← l1]; exact x)
            omega
          · have := close (ab_up (ab_up l 5 r) 6 r5) μ1 μ2 r k2 p2 h2 u2 c2 l0 l1 l4 rfl k29 q2 (by rw [at2, a1]) n1 (fun x => by rw [s2]; exact b26 x) fun x x2 => hl ?_
            · rw [← l1] at this
              rw [← l4] at this
              exact this
            · have : (p' : Int) = 1 := by omega
              rw [this]; exact b26 x
        · have hb : (2 ≤ r ∧ r ≤ 17) ∨ r = 21 ∨ r = 22 := by
            rcases h5 with h5 | h5
            · exact h5.2
            · omega
          have sb := strb hb
          refine bk_mRe_takeExpr_83 l0 (c_mRe_settle hc sb (fun μ1 p' h' u' c' q1 s1 pl hp e1 a1 => ⟨fun x => absurd x y, fun _ => ?_⟩) q)
          show jj_mRe_takeBinary X (d + 1) 0 (ab_la [2, r]) [] μ1 _
          refine c_mRe_takeBinary hc ht q1 hb s1 fun μ2 k2 h2 c2 q2 at2 s2 => ?_
          show jj_mRe_takeExpr X (d + 2) 26 (ab_up (ab_up (ab_up (ab_up l 5 r) 6 r5) 2 1) 4 (ab_w (l 4 + (-1)))) [] μ2 P
          rw [l4, lf4]
          have e5 := c33 q2.W
          have qn2 := q2.n
          refine ih _ μ2 1 (lf - 1) l0 l1 rfl l3 rfl lf2 lf3 (by omega) (Or.inl ⟨k2, p' + 1, h2, u', c2, by rw [if_neg (by decide)]; exact q2⟩) fun x => ?_
          have b1 := bot hp x
          exact ⟨by omega, by rw [s2 1 (by omega), e1 11 1 (by decide) (by decide)]; exact (hi x).2⟩
      · have hs := q.W.s'
        have W := q.W
        have u24 : u ≤ 23 := by
          have := W.i.ph z; have := W.op z; have := hc.o0; omega
        have p274 := q.Q.p274 (by omega)
        have a3 := W.at3
        refine c_mRe_kind W fun r hr => ?_
        have rk : r = 24 := by
          rcases hr with hr | hr
          · exact absurd z hr.1
          · exact hr.2.1
        subst rk
        refine c_mRe_isBinary fun r5 h5 => ⟨fun y => ?_, fun y => by omega⟩
        refine bk_mRe_takeExpr_83 l0 (bk_mRe_settle_0 rfl ?_)
        rw [q.n, show ab_w ((p : Int) + 1 + 1 - 1) = (p : Int) + 1 by rw [ab_wi (by omega) (by omega)]; omega, q.e.1]
        refine ⟨fun x => by omega, fun _ => ⟨by omega, by decide, fun _ => ⟨fun _ => ?_, fun x => absurd y x⟩, fun x => ?_⟩⟩
        · show jj_mRe_takeClosing X (d + 1) 0 (ab_la [2, 24]) [] μ _
          refine bk_mRe_takeClosing_0 rfl ?_
          simp only [la1]
          rw [q.n, show ab_w ((p : Int) + 1 + 1 - 1) = (p : Int) + 1 by rw [ab_wi (by omega) (by omega)]; omega, q.e.1]
          refine ⟨by omega, fun _ => ⟨fun _ => ?_, fun x => absurd x (by decide)⟩, fun x => absurd x (by decide)⟩
          refine bk_mRe_takeClosing_63 rfl ⟨by show 0 ≤ (p : Int) + 1 ∧ (p : Int) + 1 < 400; omega, fun _ => ?_, fun x => absurd x (by show ¬ ((24 : Int) = 28); decide)⟩
          refine c_tcList (e := -1) hc rfl rfl rfl rfl rfl (W.to rfl (by omega) rfl) q.Q z ⟨q.e.2.1, by omega, by omega⟩ q.e.2.2.1 q.e.2.2.2 q.g q.bg (by omega) fun μ3 k3 q3 at3 s3 n3 => ⟨fun x => absurd x (by decide), fun _ => ?_⟩
          have := close (ab_up (ab_up l 5 24) 6 r5) μ μ3 24 k3 p h u c l0 l1 l4 rfl (by decide) q3 at3 W.f.n (fun x => by rw [s3]; exact (hi x).2) fun _ _ => n3
          rw [← l1] at this
          rw [← l4] at this
          exact this
        · exfalso
          have x' : (1 : Int) ≤ ab_str 26 := x
          rw [str0 (by decide)] at x'
          omega
    · rcases L with ⟨k, p, h, u, c, q⟩ | ⟨e, -⟩
      · rw [if_neg w1] at q
        obtain ⟨u24, p274⟩ := q.u24 hc
        have qn := q.n
        have hp : zTo (is ≠ 0) (1 ≤ (p : Int) ∧ μ 11 1 = 26) := fun x => by have := hi x; exact ⟨by omega, this.2⟩
        refine c_mRe_takeOperand hc q (fun r μ1 z1 W1 => stp _ μ1 l0 z1 (hS μ1 z1 W1)) (fun μ1 k1 q1 at1 s1 _ => ?_) (fun μ1 k1 c1 q1 at1 s1 _ => ?_) (fun μ1 k1 q1 _ at1 s1 => ?_) (fun μ1 q1 at1 s1 => ?_)
        · have := c33 q1.W
          have := q1.n
          exact ih _ μ1 0 (lf - 1) l0 l1 rfl l3 rfl lf2 lf3 (by omega) (Or.inl ⟨k1, p, h, u, c, q1⟩) fun x => ⟨by have := hp x; omega, by rw [s1 1 (hp x).1]; exact (hp x).2⟩
        · have := c33 q1.W
          have := q1.n
          exact ih _ μ1 1 (lf - 1) l0 l1 rfl l3 rfl lf2 lf3 (by omega) (Or.inl ⟨k1, p + 1, h, u + 1, c1, q1⟩) fun x => ⟨by have := hp x; omega, by rw [s1 1 (hp x).1]; exact (hp x).2⟩
        · have := c33 q1.W
          have := q1.n
          exact ih _ μ1 1 (lf - 1) l0 l1 rfl l3 rfl lf2 lf3 (by omega) (Or.inl ⟨k1, p + 1, h, u + 1, c, q1.weak (by omega) (Int.le_refl _)⟩) fun x => ⟨by have := hp x; omega, by rw [s1 1 (hp x).1]; exact (hp x).2⟩
        · have := c33 q1.W
          have := q1.n
          exact ih _ μ1 0 (lf - 1) l0 l1 rfl l3 rfl lf2 lf3 (by omega) (Or.inr ⟨rfl, p, h, u, c, q1.weak (by omega)⟩) fun x => ⟨by have := hp x; omega, by rw [s1 1 (hp x).1]; exact (hp x).2⟩
      · exact absurd e w1
theorem zF.fault (h : zW s ζ δ b Z Lb Ln μ0 μ t τ H κ o k) : μ 2 5 = 0 → μ0 2 5 = 0 := fun y => by
  by_cases x : μ0 2 5 = 0
  · exact x
  · exact absurd y (h.f.ft x)
/-- the first words of an expr: nothing is pending but its base -/
theorem c_exprBegin (h : zW s ζ δ b Z Lb Ln μ μ t τ H κ o k) (hS : ∀ μ', μ' 2 4 ≠ 0 → (∀ Z' t' τ' H' κ' o' k', zW s ζ δ b Z' Lb Ln μ μ' t' τ' H' κ' o' k') → P 0 μ') (hP : ∀ (l : ab_l) μ1, l 0 = 2 → l 1 = is → l 2 = 1 → l 3 = 1 → l 4 = μ 3 3 → zQ s ζ δ b Z Lb Ln μ μ1 t τ H κ o k 0 0 0 0 0 → (∀ cc j, cc ≠ 2 ∨ j = 3 → ¬ (11 ≤ cc ∧ cc ≤ 15) → μ1 cc j = μ cc j) → jj_mRe_takeExpr X (d + 2) 26 l [] μ1 P) : jj_mRe_takeExpr X (d + 2) 0 (ab_la [2, is]) [] μ P := by
  have hs := h.s'
  refine bk_mRe_takeExpr_0 rfl fun μ1 e1 => ?_
  have n1 : μ1 2 19 = 0 := by rw [e1, ab_mud, if_pos ⟨rfl, rfl⟩]
  have f1 : ∀ cc j, ¬ (cc = 2 ∧ j = 19) → μ1 cc j = μ cc j := fun cc j y => by rw [e1, ab_mud, if_neg y]
  refine c_mRe_pend (h.pn e1) (by omega) fun μ2 W2 n2 e2 f2 => ?_
  rw [n1] at n2 e2 f2
  have s4 : μ2 s 4 = μ s 4 := by rw [f2 s 4 (by omega) (by omega), f1 s 4 (by omega)]
  by_cases z : μ2 2 4 = 0
  · refine hP _ μ2 rfl rfl rfl rfl ?_ ⟨W2.to (by omega) (by omega) (by omega), ⟨e2.1, by rw [e2.2.1, s4, f1 s 4 (by omega)]; omega, rfl, rfl, rfl⟩, by omega, z, fun y => absurd y (by decide)⟩ fun cc j x y => by rw [f2 cc j (by omega) (by omega), f1 cc j (by omega)]
    show μ2 3 3 = μ 3 3
    rw [f2 3 3 (by omega) (by omega), f1 3 3 (by omega)]
  · exact bk_mRe_takeExpr_26 rfl ⟨fun _ => hS μ2 z (W2.stop z), fun _ => ⟨fun _ => hS μ2 z (W2.stop z), fun _ => ⟨fun _ => hS μ2 z (W2.stop z), fun y => absurd y z⟩⟩⟩
theorem zW.hc (h : zW s ζ δ b Z Lb Ln μ0 μ t τ H κ o k) (z : μ 2 4 = 0) (t0 : t ≤ 1) (k0 : 0 ≤ κ ∧ κ ≤ 30) (h0 : 0 ≤ H) : zH μ s ζ t H κ o := by
  refine ⟨t0, k0, h0, ?_, fun y => ?_, h.i.n.1⟩
  · have := h.i.ph z; have := h.op z; omega
  · obtain ⟨Γ, gg⟩ := h.g y; exact gg.z.2.1
theorem c_takeExpr0 (h : zW s ζ δ b Z Lb Ln μ0 μ t τ H κ o k) (t0 : t ≤ 0) (k0 : zTo (μ 2 4 = 0) (0 ≤ κ ∧ κ ≤ 30)) (h0 : 0 ≤ H) (hP : ∀ μ' k', zW s ζ δ b Z Lb Ln μ0 μ' t τ (H + 1) κ o k' → zF s μ μ' → P 0 μ') : jj_mRe_takeExpr X (d + 2) 0 (ab_la [2, 0]) [] μ P := by
  have hS : ∀ μ', μ' 2 4 ≠ 0 → (∀ Z' t' τ' H' κ' o' k', zW s ζ δ b Z' Lb Ln μ μ' t' τ' H' κ' o' k') → P 0 μ' := fun μ1 z1 W1 => hP μ1 0 ((W1 Z t τ (H + 1) κ o 0).back h.f) (W1 Z t τ (H + 1) κ o 0).f
  refine c_exprBegin h.base hS fun l μ1 l0 l1 l2 l3 l4 q f1 => ?_
  have z : μ 2 4 = 0 := by
    by_cases x : μ 2 4 = 0
    · exact x
    · exact absurd q.z (q.W.f.st x)
  have a := h.i.a
  have a1 := q.W.i.a
  have at1 := f1 2 3 (Or.inr rfl) (by decide)
  refine c_exprLoop (is := 0) (h.hc z (by omega) (k0 z) h0) t0 hS (fun μ2 k2 W2 _ => hP μ2 k2 (W2.back h.f) W2.f) _ l μ1 1 (μ 3 3) l0 l1 l2 (by rw [l3]; decide) l4 h.i.ww.c.2 rfl ?_ (Or.inl ⟨k, 0, 0, 0, 0, by rw [if_neg (by decide)]; exact q⟩) fun x => absurd rfl x
  rw [f1 3 3 (Or.inl (by decide)) (by decide)]; omega
/-- a call that is a statement -/
theorem c_takeExpr1 (h : zW s ζ δ b Z Lb Ln μ0 μ t τ H κ o k) (t0 : t ≤ 1) (k0 : zTo (μ 2 4 = 0) (0 ≤ κ ∧ κ ≤ 30)) (h0 : 0 ≤ H) (hk : zTo (μ 2 4 = 0) (k = 33 ∧ μ 4 (μ 2 3 + 1) = 23)) (hP : ∀ μ' k', zW s ζ δ b Z Lb Ln μ0 μ' (t - 2) τ (H + 1) κ o k' → zF s μ μ' → (zTo (μ' 2 4 = 0) (μ s 4 < μ' s 4 ∧ μ' (s + 1) (μ' s 4 - 1) = 32)) → P 0 μ') : jj_mRe_takeExpr X (d + 2) 0 (ab_la [2, 1]) [] μ P := by
  have hS : ∀ μ', μ' 2 4 ≠ 0 → (∀ Z' t' τ' H' κ' o' k', zW s ζ δ b Z' Lb Ln μ μ' t' τ' H' κ' o' k') → P 0 μ' := fun μ1 z1 W1 => hP μ1 0 ((W1 Z (t - 2) τ (H + 1) κ o 0).back h.f) (W1 Z t τ (H + 1) κ o 0).f fun x => absurd x z1
  refine c_exprBegin h.base hS fun l μ1 l0 l1 l2 l3 l4 q f1 => ?_
  have z : μ 2 4 = 0 := by
    by_cases x : μ 2 4 = 0
    · exact x
    · exact absurd q.z (q.W.f.st x)
  have hk := hk z
  have hc := h.hc z t0 (k0 z) h0
  have hc2 : zH μ s ζ (t - 2) H κ o := ⟨by omega, hc.k0, hc.h0, hc.o0, hc.z0, hc.n0⟩
  have C := h.i.ww.c
  have a := h.i.a
  have at1 := f1 2 3 (Or.inr rfl) (by decide)
  have c1 : μ1 3 3 = μ 3 3 := f1 3 3 (Or.inl (by decide)) (by decide)
  have nk : μ1 4 (μ1 2 3 + 1) = 23 := by rw [at1, f1 4 _ (Or.inl (by decide)) (by decide)]; exact hk.2
  have hs := h.s'
  have loop := fun (m : Nat) => c_exprLoop (X := X) (d := d) (P := P) (is := 1) (δ := δ) (b := b) (Z := Z) (Lb := Lb) (Ln := Ln) (τ := τ) hc2 (by omega) hS (fun μ2 k2 W2 hl => hP μ2 k2 (W2.back h.f) W2.f fun _ => hl (by decide)) m
  refine bk_mRe_takeExpr_26 l0 ?_
  rw [l2, l3, l4, show ab_w (μ 3 3 + -1) = μ 3 3 - 1 by rw [ab_wi (by omega) (by omega)]; omega]
  refine ⟨fun y => by omega, fun _ => ⟨fun y => absurd y (by decide), fun _ => ⟨fun y => absurd q.z y, fun _ => ⟨fun y => absurd y (by decide), fun _ => ?_⟩⟩⟩⟩
  have stp : ∀ (l : ab_l) (μ1 : ab_m), l 0 = 2 → μ1 2 4 ≠ 0 → P 0 μ1 → jj_mRe_takeExpr X (d + 2) 26 l [] μ1 P := by
    intro l μ1 l0 z h1
    refine bk_mRe_takeExpr_26 l0 ?_
    exact ⟨fun _ => h1, fun _ => ⟨fun _ => h1, fun _ => ⟨fun _ => h1, fun y => absurd y z⟩⟩⟩
  refine c_mRe_takeOperand hc q (fun r μ2 z2 W2 => stp _ μ2 l0 z2 (hS μ2 z2 W2)) (fun μ2 k2 q2 at2 s2 no => absurd nk (no hk.1)) (fun μ2 k2 c2 q2 at2 s2 no => absurd nk (no hk.1)) (fun μ2 k2 q2 k26 at2 s2 => ?_) (fun μ2 q2 at2 s2 => ?_)
  · have n2 := q2.n
    have e2 : μ2 3 3 = μ 3 3 := q2.W.f.o 3 3 (by decide) (by decide) (by omega)
    exact loop _ _ μ2 1 (μ 3 3 - 1) l0 l1 rfl (by show l 3 ≠ 0; rw [l3]; decide) rfl (by omega) rfl (by omega) (Or.inl ⟨k2, 1, 0, 1, 0, q2⟩) fun _ => ⟨by omega, k26⟩
  · have n2 := q2.n
    have e2 : μ2 3 3 = μ 3 3 := q2.W.f.o 3 3 (by decide) (by decide) (by omega)
    exact loop _ _ μ2 0 (μ 3 3 - 1) l0 l1 rfl (by show l 3 ≠ 0; rw [l3]; decide) rfl (by omega) rfl (by omega) (Or.inr ⟨rfl, 0, 0, 0, 0, q2⟩) fun _ => ⟨by omega, q2.e.1⟩
end K33

/-! THE CLASS, part k34: simple statements -/
section K34
variable {X : jm_X} {d : Nat} {P : Int → ab_m → Prop} {μ μ' μ0 μ1 : ab_m} {s t τ t' τ' ζ δ b b' H H' κ κ' o o' k k' n0 : Int} {Z Z' : Int → Prop} {Γ : scG} {Lb Ln Lb' Ln' A B : List Int}
theorem c_mSc_aim {q x v : Int} {L : List Int} (hs : ab_is 10 s) (hq : q = s) (hL : zDc μ s L x) (hP : ∀ μ', (∀ k ∈ L, μ' (s + 2) k = v) → (∀ k, k ∉ L → μ' (s + 2) k = μ (s + 2) k) → (∀ c j, c ≠ s + 2 → μ' c j = μ c j) → P 0 μ') : jj_mSc_aim X d 0 (ab_la [q, x, v]) [] μ P := by
  subst hq
  have hs' : q = 16 ∨ q = 26 := hs
  have main : ∀ (R D : List Int) (l : ab_l) (μ1 : ab_m) (x lf : Int), l 0 = q → l 2 = v → l 3 = x → l 4 = lf → (R.length : Int) < lf → lf ≤ 3002 → zDc μ1 q R x → (∀ k, k ∈ L ↔ k ∈ D ∨ k ∈ R) → (∀ k ∈ D, μ1 (q + 2) k = v) → (∀ k, k ∉ D → μ1 (q + 2) k = μ (q + 2) k) → (∀ c j, c ≠ q + 2 → μ1 c j = μ c j) → jj_mSc_aim X d 7 l [] μ1 P := by
    intro R
    induction R with
    | nil =>
      intro D l μ1 x lf l0 l2 l3 l4 ll lf1 hR hLD e1 e2 e3
      have hx : x = -1 := hR
      refine bk_mSc_aim_7 (by rw [l0]; exact hs) ?_
      rw [l3, l4]
      have fin : P 0 μ1 := hP μ1 (fun k hk => e1 k (by have := (hLD k).mp hk; simpa using this)) (fun k hk => e2 k fun y => hk ((hLD k).mpr (Or.inl y))) e3
      exact ⟨fun _ => fin, fun _ => ⟨fun _ => fin, fun y => by omega⟩⟩
    | cons y R ih =>
      intro D l μ1 x lf l0 l2 l3 l4 ll lf1 hR hLD e1 e2 e3
      obtain ⟨r1, r2, r3, r4, r5, r6, r7⟩ := hR
      have lr : ((y :: R : List Int).length : Int) = R.length + 1 := by simp
      refine bk_mSc_aim_7 (by rw [l0]; exact hs) ?_
      rw [l0, l2, l3, l4, show ab_w (lf + -1) = lf - 1 by rw [ab_wi (by omega) (by omega)]; omega]
      refine ⟨fun z => by omega, fun _ => ⟨fun z => by omega, fun _ => ⟨by omega, by omega, fun μ2 e4 => ?_⟩⟩⟩
      subst r1
      have g2 : ∀ j, j ≠ x → μ2 (q + 2) j = μ1 (q + 2) j := fun j z => by rw [e4, ab_mud, if_neg (fun w => z w.2)]
      have gc : ∀ c j, c ≠ q + 2 → μ2 c j = μ1 c j := fun c j z => by rw [e4, mu_ne z]
      refine ih (x :: D) _ μ2 (μ1 (q + 2) x) (lf - 1) l0 l2 rfl rfl (by omega) (by omega) ?_ (fun k => ?_) (fun k hk => ?_) (fun k hk => ?_) (fun c j z => by rw [gc c j z, e3 c j z])
      · exact r7.same (by rw [gc q 4 (by omega)]; exact Int.le_refl _) fun z hz => ⟨gc _ z (by omega), g2 z (by have := r6 z hz; omega)⟩
      · rw [hLD k]; simp only [List.mem_cons]; constructor
        · rintro (h | h | h)
          · exact Or.inl (Or.inr h)
          · exact Or.inl (Or.inl h)
          · exact Or.inr h
        · rintro ((h | h) | h)
          · exact Or.inr (Or.inl h)
          · exact Or.inl h
          · exact Or.inr (Or.inr h)
      · by_cases z : k = x
        · rw [e4, ab_mud, if_pos ⟨rfl, z⟩]
        · rw [g2 k z]; exact e1 k (by rcases List.mem_cons.mp hk with w | w; exact absurd w z; exact w)
      · have z : k ≠ x := fun w => hk (w ▸ List.mem_cons_self ..)
        rw [g2 k z]; exact e2 k fun w => hk (List.mem_cons_of_mem _ w)
  have ln := hL.len
  exact bk_mSc_aim_0 hs (main L [] _ μ x 3002 rfl rfl rfl rfl (by omega) (by decide) hL (fun k => by simp) (fun k hk => by simp at hk) (fun _ _ => rfl) fun _ _ _ => rfl)
/-- a step that is no TICK ends their row -/
theorem zGG.q0 (h : zGG μ s Γ ζ δ b Z H κ) (n1 : 0 < μ s 4) (o : μ (s + 1) (μ s 4 - 1) ≠ 31 ∧ μ (s + 1) (μ s 4 - 1) ≠ 0 ∧ μ (s + 1) (μ s 4 - 1) ≠ 35) (k0 : 0 ≤ κ') : zG μ s ζ δ b Z H κ' := by
  obtain ⟨z, b0, cu, rz, rm, st, mi, df, cd, nm, hb, ro⟩ := h
  generalize hn : μ s 4 = n at *
  refine ⟨⟨Γ.1, Γ.2.1, Γ.2.2.1, fun k => if k = n then 0 else Γ.2.2.2.1 k, Γ.2.2.2.2⟩, by rw [hn]; exact z, b0, ?_, by rw [hn]; exact rz, rm, fun k x y => ?_, by rw [hn]; exact mi, fun x p q => ?_, cd, nm, hb, ro⟩
  · rw [hn]
    refine ⟨cu.1, cu.2.1, ?_⟩
    show 0 ≤ (if n = n then 0 else Γ.2.2.2.1 n) ∧ (if n = n then 0 else Γ.2.2.2.1 n) ≤ κ'
    rw [if_pos rfl]
    exact ⟨Int.le_refl _, k0⟩
  · rw [hn] at y
    obtain ⟨mv, qq, n', td, jp, rw', cl, rt, tr, dr, wr⟩ := st k x y
    have e1 : (if k = n then 0 else Γ.2.2.2.1 k) = Γ.2.2.2.1 k := if_neg (Int.ne_of_lt y)
    refine ⟨?_, ?_, n', td, jp, rw', cl, rt, tr, dr, wr⟩
    · rcases mv with m | ⟨m1, m2, m3, m4, m5⟩
      · exact Or.inl m
      · refine Or.inr ⟨m1, m2, m3, fun w => ?_, fun w => ?_⟩
        · show (if k + 1 = n then 0 else Γ.2.2.2.1 (k + 1)) = (if k = n then 0 else Γ.2.2.2.1 k) + 1
          have : k + 1 ≠ n := fun e => by rw [show n - 1 = k by omega] at o; exact o.1 w
          rw [e1, if_neg this]; exact m4 w
        · show (if k + 1 = n then 0 else Γ.2.2.2.1 (k + 1)) = (if k = n then 0 else Γ.2.2.2.1 k)
          have : k + 1 ≠ n := fun e => by
            rw [show n - 1 = k by omega] at o
            rcases w with w | w
            · exact o.2.1 w
            · exact o.2.2 w
          rw [e1, if_neg this]; exact m5 w
    · show 0 ≤ (if k = n then 0 else Γ.2.2.2.1 k) ∧ (if k = n then 0 else Γ.2.2.2.1 k) ≤ 30
      rw [e1]; exact qq
  · obtain ⟨d1, d2, d3⟩ := df x p q
    exact ⟨d1, d2, d3⟩
theorem zW.mono (h : zW s ζ δ b Z Lb Ln μ0 μ t τ H κ o k) (hZ : ∀ k, Z k → Z' k) : zW s ζ δ b Z' Lb Ln μ0 μ t τ H κ o k :=
  ⟨h.i, h.f, h.c, fun q => by
    obtain ⟨Γ, gg⟩ := h.g q
    exact ⟨Γ, ⟨gg.z, gg.b0, gg.cu, gg.rz, gg.rm, gg.st, fun k x y w => (gg.mi k x y w).imp id (hZ k), gg.df, gg.cd, gg.nm, gg.b, gg.ro⟩⟩, h.op, h.kw⟩
theorem zW.g' (h : zW s ζ δ b Z Lb Ln μ0 μ t τ H κ o k) (g : μ 2 5 = 0 → zG μ s ζ δ b Z' H' κ') : zW s ζ δ b Z' Lb Ln μ0 μ t τ H' κ' o k := ⟨h.i, h.f, h.c, g, h.op, h.kw⟩
/-- fields of loops, and aims, change -/
theorem zI.upd (h : zI μ s t τ) (hs : s = 16 ∨ s = 26) (e : ∀ c j, c ≠ 2 → c ≠ s + 2 → μ' c j = μ c j) (ef : ∀ j, ¬ (11 ≤ j ∧ j ≤ 13) → μ' 2 j = μ 2 j) (bo : 0 ≤ μ' 2 11 ∧ μ' 2 11 ≤ 1) : zI μ' s t τ := by
  have es : ∀ j, μ' s j = μ s j := fun j => e s j (by omega) (by omega)
  obtain ⟨i1, i2, i3, i4, i5, i6, i7, i8, i9, i10, i11, i12⟩ := h
  have e' : ∀ c j, c = 3 ∨ c = 4 ∨ c = 5 ∨ c = 7 ∨ c = 9 ∨ c = 10 → μ' c j = μ c j := fun c j q => e c j (by omega) (by omega)
  have f3 := ef 3 (by decide)
  have f4 := ef 4 (by decide)
  refine ⟨by rw [ef 2 (by decide)]; exact i1, i2, by rw [e' 3 3 (by decide)]; exact i3.same fun c j q => e' c j (q.elim (fun w => Or.inr (Or.inl w)) fun w => Or.inr (Or.inr (Or.inl w))), by rw [f3, e' 3 3 (by decide)]; exact i4, by rw [f4, ef 5 (by decide), ef 7 (by decide)]; exact i5, by rw [es]; exact i6, by rw [f4, f3, es, es, ef 8 (by decide), e' 5 _ (by decide)]; exact i7, by rw [es, es, es, es]; exact i8, by rw [e' 7 3 (by decide), e' 7 4 (by decide)]; exact i9, fun i x y q => ?_, bo, by rw [ef 10 (by decide)]; exact i12⟩
  rw [e' 7 3 (by decide)] at y
  rw [e' 9 i (by decide)] at q
  rw [e' 10 i (by decide)]
  exact i10 i x y q
/-- the jumps behind a statement: those that wait, and no others have no aim -/
def zZ (Z : Int → Prop) (A B : List Int) : Int → Prop := fun k => Z k ∨ k ∈ A ∨ k ∈ B
end K34
def zPo (s : Int) (μ μ' : ab_m) (A B : List Int) : Prop := (∀ x ∈ A, μ s 4 ≤ x) ∧ (∀ x ∈ B, μ s 4 ≤ x) ∧ (μ' 2 5 = 0 → μ 2 11 = 0 → A = [] ∧ B = [])
theorem zPo.a {s : Int} {μ μ' : ab_m} {A B : List Int} (h'' : zPo s μ μ' A B) : ∀ x ∈ A, μ s 4 ≤ x := h''.1
theorem zPo.b {s : Int} {μ μ' : ab_m} {A B : List Int} (h'' : zPo s μ μ' A B) : ∀ x ∈ B, μ s 4 ≤ x := h''.2.1
theorem zPo.l {s : Int} {μ μ' : ab_m} {A B : List Int} (h'' : zPo s μ μ' A B) : μ' 2 5 = 0 → μ 2 11 = 0 → A = [] ∧ B = [] := h''.2.2
section K34
variable {X : jm_X} {d : Nat} {P : Int → ab_m → Prop} {μ μ' μ0 μ1 : ab_m} {s t τ t' τ' ζ δ b b' H H' κ κ' o o' k k' n0 : Int} {Z Z' : Int → Prop} {Γ : scG} {Lb Ln Lb' Ln' A B : List Int}
theorem zPo.nil : zPo s μ μ' [] [] := ⟨fun x hx => by simp at hx, fun x hx => by simp at hx, fun _ _ => ⟨rfl, rfl⟩⟩
theorem zW.nil (h : zW s ζ δ b Z Lb Ln μ0 μ t τ H κ o k) : zW s ζ δ b (zZ Z [] []) ([] ++ Lb) ([] ++ Ln) μ0 μ t τ H κ o k := h.mono fun _ q => Or.inl q
/-- break or next: one more jump waits -/
theorem zW.leave {n : Int} (h : zW s ζ δ b Z Lb Ln μ0 μ t τ H κ o k) (e : μ' = ab_mu μ 2 n (μ s 4 - 1)) (hn : n = 12 ∨ n = 13) (n1 : 1 ≤ μ s 4 ∧ μ s 4 ≤ 3001) (op : μ (s + 1) (μ s 4 - 1) = 25) (hb : ∀ x ∈ Lb, x < μ s 4 - 1) (hln : ∀ x ∈ Ln, x < μ s 4 - 1) (ar : μ (s + 2) (μ s 4 - 1) = μ 2 n) : zW s ζ δ b Z (if n = 12 then (μ s 4 - 1) :: Lb else Lb) (if n = 12 then Ln else (μ s 4 - 1) :: Ln) μ0 μ' t τ H κ o k := by
  have hs := h.s'
  have g : ∀ c j, ¬ (c = 2 ∧ j = n) → μ' c j = μ c j := fun c j q => by rw [e, ab_mud, if_neg q]
  have gc : ∀ c j, c ≠ 2 → μ' c j = μ c j := fun c j q => g c j (fun w => q w.1)
  have g2 : ∀ j, ¬ (11 ≤ j ∧ j ≤ 13) → μ' 2 j = μ 2 j := fun j q => g 2 j (by omega)
  have v : μ' 2 n = μ s 4 - 1 := by rw [e, ab_mud, if_pos ⟨rfl, rfl⟩]
  have es : ∀ j, μ' s j = μ s j := fun j => gc s j (by omega)
  have I : zI μ' s t τ := h.i.upd hs (fun c j q _ => gc c j q) g2 (by rw [g 2 11 (by omega)]; exact h.i.bo)
  have dc : ∀ {L x}, zDc μ s L x → zDc μ' s L x := fun {L x} q => q.same (by rw [es]; exact Int.le_refl _) fun y _ => ⟨gc _ y (by omega), gc _ y (by omega)⟩
  obtain ⟨a1, a2, a3, a4, a5, a6, a7, a8, a9, a10⟩ := h.f
  refine ⟨I, ⟨fun c j x y z => by rw [gc c j x]; exact a1 c j x y z, fun j x y z w => by rw [g 2 j (by omega)]; exact a2 j x y z w, fun j x y => by rw [es]; exact a3 j x y, fun k x y z => by rw [gc (s + 1) k (by omega), gc (s + 2) k (by omega)]; exact a4 k x y z, by rw [es]; exact a5, by rw [g2 3 (by decide)]; exact a6, by rw [gc 7 3 (by decide)]; exact a7, by rw [gc 7 4 (by decide)]; exact a8, by rw [g2 5 (by decide)]; exact a9, by rw [g2 4 (by decide)]; exact a10⟩, ?_, fun q => ?_, by rw [g2 4 (by decide), g2 8 (by decide)]; exact h.op, by rw [g2 4 (by decide), g2 3 (by decide), gc 4 _ (by decide)]; exact h.kw⟩
  · have new : ∀ {L : List Int}, (∀ x ∈ L, x < μ s 4 - 1) → zDc μ s L (μ 2 n) → zDc μ' s ((μ s 4 - 1) :: L) (μ' 2 n) := fun {L} q w => ⟨v, by omega, by omega, by rw [es]; omega, by rw [gc _ _ (by omega)]; exact op, q, by rw [gc _ _ (by omega), ar]; exact dc w⟩
    have hd := h.c.d
    rcases hn with hn | hn
    · subst hn
      rw [if_pos rfl, if_pos rfl]
      refine ⟨new hb h.c.b, by rw [g 2 13 (by decide)]; exact dc h.c.n, fun x hx w => ?_⟩
      rcases List.mem_cons.mp hx with y | y
      · have := hln x w; omega
      · exact hd x y w
    · subst hn
      rw [if_neg (by decide), if_neg (by decide)]
      refine ⟨by rw [g 2 12 (by decide)]; exact dc h.c.b, new hln h.c.n, fun x hx w => ?_⟩
      rcases List.mem_cons.mp w with y | y
      · have := hb x hx; omega
      · exact hd x hx y
  · rw [g2 5 (by decide)] at q
    obtain ⟨Γ, gg⟩ := h.g q
    exact ⟨Γ, gg.same (fun j _ _ => es j) (fun c j x y => gc c j (by omega)) (gc 7 3 (by decide)) fun c j x => gc c j (by omega)⟩
end K34

