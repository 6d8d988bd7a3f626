/-! THE REFERENCE, part 56: the end of an expression -/
section M56
variable {X : jm_X} {d : Nat} {P : Int → ab_m → Prop} {K : Int → Int} {W g : Int} {s0 : aS} {μ0 μ ν ν' : ab_m} {s s' : aS} {Γ Γ' : tQ} {F F' : Int → List Int} {dd : Int} {Ln : Int → Nat} {G : Int → List Int} {a m o : Int} {p r : List aE} {kp k wv hh n dn : Int} {ss : List Int} {ex pd : Int → Prop} {q : Int} {e : aE}
end M56
/-- what stands when an expression has ended -/
def xE (K : Int → Int) (W g : Int) (s0 : aS) (μ0 μ : ab_m) (s : aS) (Γ : tQ) (F : Int → List Int) (dd : Int) (Ln : Int → Nat) (G : Int → List Int) (e : aE) (r : List aE) : Prop := (J K W g s0 μ0 μ s) ∧ (μ 109 22 = 1 → rO K W g μ s Γ F dd Ln) ∧ (μ 109 22 = 0 → rZ K W s0 μ s G) ∧ (s.1 = 3) ∧ (s.2.2.2 = e :: r) ∧ (e.1 ≠ 40 ∧ e.1 ≠ 41) ∧ (stOf (K s.2.1) = 0) ∧ (V g μ Γ dd μ s.2.1 3 s.2.2.1 (e :: r) (e :: r).length 0 0 (hP (e :: r) + 1) (sP F (e :: r)) (fun _ => False) (qP (e :: r))) ∧ (aNext K s = aEnd K s (e :: r))
theorem xE.j {K : Int → Int} {W g : Int} {s0 : aS} {μ0 μ : ab_m} {s : aS} {Γ : tQ} {F : Int → List Int} {dd : Int} {Ln : Int → Nat} {G : Int → List Int} {e : aE} {r : List aE} (h'' : xE K W g s0 μ0 μ s Γ F dd Ln G e r) : J K W g s0 μ0 μ s := h''.1
theorem xE.O {K : Int → Int} {W g : Int} {s0 : aS} {μ0 μ : ab_m} {s : aS} {Γ : tQ} {F : Int → List Int} {dd : Int} {Ln : Int → Nat} {G : Int → List Int} {e : aE} {r : List aE} (h'' : xE K W g s0 μ0 μ s Γ F dd Ln G e r) : μ 109 22 = 1 → rO K W g μ s Γ F dd Ln := h''.2.1
theorem xE.Z {K : Int → Int} {W g : Int} {s0 : aS} {μ0 μ : ab_m} {s : aS} {Γ : tQ} {F : Int → List Int} {dd : Int} {Ln : Int → Nat} {G : Int → List Int} {e : aE} {r : List aE} (h'' : xE K W g s0 μ0 μ s Γ F dd Ln G e r) : μ 109 22 = 0 → rZ K W s0 μ s G := h''.2.2.1
theorem xE.m {K : Int → Int} {W g : Int} {s0 : aS} {μ0 μ : ab_m} {s : aS} {Γ : tQ} {F : Int → List Int} {dd : Int} {Ln : Int → Nat} {G : Int → List Int} {e : aE} {r : List aE} (h'' : xE K W g s0 μ0 μ s Γ F dd Ln G e r) : s.1 = 3 := h''.2.2.2.1
theorem xE.hs {K : Int → Int} {W g : Int} {s0 : aS} {μ0 μ : ab_m} {s : aS} {Γ : tQ} {F : Int → List Int} {dd : Int} {Ln : Int → Nat} {G : Int → List Int} {e : aE} {r : List aE} (h'' : xE K W g s0 μ0 μ s Γ F dd Ln G e r) : s.2.2.2 = e :: r := h''.2.2.2.2.1
theorem xE.k0 {K : Int → Int} {W g : Int} {s0 : aS} {μ0 μ : ab_m} {s : aS} {Γ : tQ} {F : Int → List Int} {dd : Int} {Ln : Int → Nat} {G : Int → List Int} {e : aE} {r : List aE} (h'' : xE K W g s0 μ0 μ s Γ F dd Ln G e r) : e.1 ≠ 40 ∧ e.1 ≠ 41 := h''.2.2.2.2.2.1
theorem xE.st {K : Int → Int} {W g : Int} {s0 : aS} {μ0 μ : ab_m} {s : aS} {Γ : tQ} {F : Int → List Int} {dd : Int} {Ln : Int → Nat} {G : Int → List Int} {e : aE} {r : List aE} (h'' : xE K W g s0 μ0 μ s Γ F dd Ln G e r) : stOf (K s.2.1) = 0 := h''.2.2.2.2.2.2.1
theorem xE.v {K : Int → Int} {W g : Int} {s0 : aS} {μ0 μ : ab_m} {s : aS} {Γ : tQ} {F : Int → List Int} {dd : Int} {Ln : Int → Nat} {G : Int → List Int} {e : aE} {r : List aE} (h'' : xE K W g s0 μ0 μ s Γ F dd Ln G e r) : V g μ Γ dd μ s.2.1 3 s.2.2.1 (e :: r) (e :: r).length 0 0 (hP (e :: r) + 1) (sP F (e :: r)) (fun _ => False) (qP (e :: r)) := h''.2.2.2.2.2.2.2.1
theorem xE.nx {K : Int → Int} {W g : Int} {s0 : aS} {μ0 μ : ab_m} {s : aS} {Γ : tQ} {F : Int → List Int} {dd : Int} {Ln : Int → Nat} {G : Int → List Int} {e : aE} {r : List aE} (h'' : xE K W g s0 μ0 μ s Γ F dd Ln G e r) : aNext K s = aEnd K s (e :: r) := h''.2.2.2.2.2.2.2.2
section M56
variable {X : jm_X} {d : Nat} {P : Int → ab_m → Prop} {K : Int → Int} {W g : Int} {s0 : aS} {μ0 μ ν ν' : ab_m} {s s' : aS} {Γ Γ' : tQ} {F F' : Int → List Int} {dd : Int} {Ln : Int → Nat} {G : Int → List Int} {a m o : Int} {p r : List aE} {kp k wv hh n dn : Int} {ss : List Int} {ex pd : Int → Prop} {q : Int} {e : aE}
/-- behind the end of an expression all words are earlier ones -/
theorem aEnd_lt (hm : s.1 = 3) (m1 : aPx (e :: r)) (m2 : aPd (e :: r) s.2.2.1) : aAl (fun s' q => (s'.1 = 3 → s'.2.2.1 < s.2.2.1) ∧ (∀ y ∈ s'.2.2.2, aRl y → y.2.2.1 < s.2.2.1) ∧ ∀ w b, q = some (w, b) → w < s.2.2.1) (aEnd K s (e :: r)) := by
  have rl : aRl e → 0 ≤ e.2.2.1 ∧ e.2.2.1 < s.2.2.1 ∧ aPd r e.2.2.1 := fun z => ⟨(m2 z).1, (m2 z).2.1.1, (m2 z).2.2⟩
  have pr : ∀ y ∈ r, aRl y → y.2.2.1 < s.2.2.1 := fun y hy hy2 => by
    rcases m1 with ⟨b1, -, -, b4⟩ | ⟨b1, -, b4⟩
    · have q := rl (by unfold aRl; omega)
      have := q.2.2.mem b4 y hy hy2
      omega
    · have := b4.k y hy
      unfold aRl at hy2; omega
  have prt : ∀ y ∈ r.tail, aRl y → y.2.2.1 < s.2.2.1 := fun y hy => pr y (List.mem_of_mem_tail hy)
  have pe : ∀ c, aRl e → ∀ y ∈ ((e.1, e.2.1, e.2.2.1, c) : aE) :: r, aRl y → y.2.2.1 < s.2.2.1 := fun c hr y hy hy2 => by
    rcases List.mem_cons.mp hy with z | z
    · rw [z]; exact (rl hr).2.1
    · exact pr y z hy2
  have pn : ∀ kd, (kd ≠ 40 ∧ kd ≠ 41 ∧ kd ≠ 23 ∧ kd ≠ 24 ∧ kd ≠ 28) → ∀ y ∈ (⟨kd, 0, 0, 0⟩ : aE) :: r, aRl y → y.2.2.1 < s.2.2.1 := fun kd hk y hy hy2 => by
    rcases List.mem_cons.mp hy with z | z
    · rw [z] at hy2
      have hy2 : kd = 40 ∨ kd = 41 ∨ kd = 23 ∨ kd = 24 ∨ kd = 28 := hy2
      omega
    · exact pr y z hy2
  have n3 : ∀ {x : Int}, x ≠ 3 → x = 3 → s.2.2.1 < s.2.2.1 := fun h h2 => absurd h2 h
  unfold aEnd
  refine aAl_i (fun k => aAl_i (fun _ => aAl_s ⟨fun _ => (rl (Or.inr (Or.inr (Or.inl k)))).2.1, pr, aNr⟩) fun _ => aAl_n) fun _ => aAl_i (fun k => aAl_i (fun _ => aAl_s ⟨fun _ => (rl (Or.inr (Or.inr (Or.inr (Or.inl k))))).2.1, pr, aNr⟩) fun _ => aAl_n) fun _ => aAl_i (fun k => ?_) fun _ => aAl_i (fun _ => aAl_i (fun _ => aAl_s ⟨n3 (by show (1 : Int) ≠ 3; decide), pn 4 (by decide), aNr⟩) fun _ => aAl_n) fun _ => aAl_i (fun _ => aAl_i (fun _ => aAl_s ⟨n3 (by show (1 : Int) ≠ 3; decide), pn 6 (by decide), aNr⟩) fun _ => aAl_n) fun _ => aAl_i (fun _ => aAl_i (fun _ => aAl_s ⟨n3 (by show (4 : Int) ≠ 3; decide), prt, aNr⟩) fun _ => aAl_n) fun _ => aAl_i (fun _ => aAl_i (fun _ => aAl_s ⟨n3 (by show (2 : Int) ≠ 3; decide), pn 27 (by decide), aNr⟩) fun _ => aAl_n) fun _ => aAl_i (fun _ => aAl_s ⟨n3 (by show (4 : Int) ≠ 3; decide), pr, aNr⟩) fun _ => aAl_n
  have r28 : aRl e := Or.inr (Or.inr (Or.inr (Or.inr k)))
  have lw : ∀ w b, some (e.2.2.1, e.2.2.2 + 3) = some (w, b) → w < s.2.2.1 := fun w b z => by cases z; exact (rl r28).2.1
  exact aAl_i (fun _ => aAl_s ⟨n3 (by show (2 : Int) ≠ 3; decide), pe _ r28, aNr⟩) fun _ => aAl_i (fun _ => aAl_i (fun _ => aAl_i (fun _ => aAl_s ⟨n3 (by show (4 : Int) ≠ 3; decide), pr, lw⟩) fun _ => aAl_n) fun _ => aAl_s ⟨fun _ => (rl r28).2.1, pr, lw⟩) fun _ => aAl_n
theorem xE.mk' (hJ : J K W g s0 μ0 μ s) (hO : μ 109 22 = 1 → rO K W g μ s Γ F dd Ln) (hZ : μ 109 22 = 0 → rZ K W s0 μ s G) (hm : s.1 = 3) (hs : s.2.2.2 = e :: r) (h41 : e.1 ≠ 41) (h40 : e.1 ≠ 40) (st : stOf (K s.2.1) = 0) : xE K W g s0 μ0 μ s Γ F dd Ln G e r := by
  have nx : aNext K s = aEnd K s (e :: r) := by
    rw [aNext_69 hm (by rw [hs]; exact h41) (fun x y hx hk => by rw [hs] at hx; injection hx with h1 h2; rw [← h1] at hk; exact absurd hk h40), if_pos st, hs]
  have v0 := hJ.v0 hO
  rw [hm, hQ_3 hm, hs, hJ.i.r.2.2.1 hm] at v0
  refine ⟨hJ, hO, hZ, hm, hs, ⟨h40, h41⟩, st, ?_, nx⟩
  rcases hJ.i.p01 with p0 | p1
  · exact v0.zero (by omega)
  · have O := hO p1
    obtain ⟨m1, m2, m3, m4⟩ := hJ.i.w.m3 hm
    rw [hs] at m1 m2
    obtain ⟨x, ex⟩ := O.rest.some' (Or.inl (by omega))
    obtain ⟨s1, r1⟩ := x
    have aq := aNext_q hJ.i.kk hJ.i.w _ _ ex
    -- the operand's word isn't active behind this turn
    have c0 : cF F s.2.2.1 = 0 := by
      obtain ⟨F', rest', eF⟩ := O.rest.next ex
      have key := aEnd_lt (K := K) (s := s) hm m1 m2 _ _ (by rw [← nx]; exact ex)
      have z : cF F' s.2.2.1 = 0 := hJ.done hm rest' aq.w aq.le key.1 key.2.1 rfl
      cases r1 with
      | none => have eF : F = F' := eF; rw [eF]; exact z
      | some wb =>
        obtain ⟨w, b⟩ := wb
        have eF : F = fun x => if x = w then b :: F' x else F' x := eF
        have := key.2.2 w b rfl
        rw [eF]
        unfold cF
        dsimp only
        rw [if_neg (by omega)]
        exact z
    rw [sQ_3 hm, c0, hs] at v0
    exact v0
end M56

/-! THE REFERENCE, part 57: brackets, cells, tests -/
section M57
variable {X : jm_X} {d : Nat} {P : Int → ab_m → Prop} {K : Int → Int} {W g : Int} {s0 : aS} {μ0 μ ν ν' : ab_m} {s s' : aS} {Γ Γ' : tQ} {F F' : Int → List Int} {dd : Int} {Ln : Int → Nat} {G : Int → List Int} {a m o : Int} {p r : List aE} {kp k wv hh n dn : Int} {ss : List Int} {ex pd : Int → Prop} {q : Int} {e : aE}
theorem c_V_take2 {kd : Int} (hi : rI K W g μ0 μ s) (v : V g μ Γ dd ν a m o p kp k wv hh ss ex q) (ha : 0 ≤ a ∧ a < 3002) (h1 : K a = kd → ∀ ν', V g μ Γ dd ν' (a + 1) m o p kp k wv hh ss ex q → (∀ c j, c ≠ 109 → ν' c j = ν c j) → P 1 ν') (hF : ∀ ν', rFt g μ0 ν' → P 0 ν') : jj_mM_take X (d + 2) 0 (ab_la [109, kd]) [] ν P := by
  refine bk_mM_take_0 rfl ⟨by rw [v.at']; exact ha, fun e ν1 e1 => ?_, fun _ => c_V_misfit hi v ha hF⟩
  rw [v.at', v.Kk hi] at e
  exact h1 e ν1 (v.fa1 ha e1) fun c j z => by rw [e1, ab_mud, if_neg (by omega)]
theorem c_V_takeClose2 {kd : Int} (hi : rI K W g μ0 μ s) (v : V g μ Γ dd ν a m o p kp k wv hh ss ex q) (ha : 0 ≤ a ∧ a < 3002) (h1 : K a = kd → ∀ ν', V g μ Γ dd ν' (a + 1) m o p kp k wv hh ss ex q → (∀ c j, c ≠ 109 → ν' c j = ν c j) → P 1 ν') (hF : ∀ ν', rFt g μ0 ν' → P 0 ν') : jj_mM_takeClose X (d + 3) 0 (ab_la [109, kd]) [] ν P := by
  refine bk_mM_takeClose_0 rfl ?_
  refine c_V_take2 hi v ha (fun e ν1 v1 f1 => ⟨fun _ ν4 e4 => ?_, fun w => absurd w (by decide)⟩) (fun ν1 f1 => ⟨fun w => absurd rfl w, fun _ => hF ν1 f1⟩)
  exact h1 e ν4 (v1.f1 e4 (Or.inl rfl)) fun c j z => by rw [e4, ab_mud, if_neg (by omega)]; exact f1 c j z
/-- an entry that waits for nothing goes -/
theorem V.pop0 (v : V g μ Γ dd ν a m o (e :: p) kp k wv hh ss (fun _ => False) q) (e1 : ν' = ab_mu ν 109 38 (ab_w (ν 109 38 - 1))) (hl : (p.length : Int) < 3010) (ek : e.1 ≠ 4 ∧ e.1 ≠ 5 ∧ e.1 ≠ 6 ∧ e.1 ≠ 40 ∧ e.1 ≠ 7 ∧ e.1 ≠ 3) : V g μ Γ dd ν' a m o p kp k wv hh ss (fun _ => False) q := by
  have ll : ((e :: p).length : Int) = p.length + 1 := by simp
  rw [v.ln, ll, show ab_w ((p.length : Int) + 1 - 1) = p.length by rw [ab_wi (by omega) (by omega)]; omega] at e1
  have v1 := v.pop (ν' := ν') (kp' := kp) (fun c j z => by rw [e1, ab_mud, if_neg (by omega)]) (by rw [e1, ab_mud, if_pos ⟨rfl, rfl⟩]) (Int.le_refl _)
  refine v1.more fun _ _ _ _ j _ _ z => ?_
  have z : pE ν g q p.length j := z.elim (fun z => z.elim) id
  have k1 : ν 129 p.length = e.1 := v.ap.1.1
  exfalso
  unfold pE at z
  rw [k1] at z
  rcases z with z | z | z | ⟨z, -⟩ | ⟨-, z, -⟩ <;> omega
variable (x : xE K W g s0 μ0 μ s Γ F dd Ln G e r)
theorem xE.len (x : xE K W g s0 μ0 μ s Γ F dd Ln G e r) : (r.length : Int) ≤ 3000 ∧ ((e :: r).length : Int) = r.length + 1 ∧ ab_w (μ 109 38 - 1) = r.length := by
  have := x.j.len
  rw [x.hs] at this
  have ll : ((e :: r).length : Int) = r.length + 1 := by simp
  refine ⟨by omega, ll, ?_⟩
  rw [x.v.ln, ll, ab_wi (by omega) (by omega)]; omega
/-- ) and ] -/
theorem c_xE_23 (x : xE K W g s0 μ0 μ s Γ F dd Ln G e r) (ek : e.1 = 23) (hF : ∀ ν', rFt g μ0 ν' → P 0 ν') (hN : ∀ ν' s', J K W g s0 μ0 ν' s' ∧ aMs W s' < aMs W s → P 0 ν') : jj_mM_takeClose X (d + 3) 0 (ab_la [109, 41]) [] μ (fun r56 μ55 => (r56 = 0 → P 0 μ55) ∧ (r56 ≠ 0 → ∀ μ58, μ58 = ab_mu μ55 109 38 (ab_w ((μ55 109 38) - 1)) → ∀ μ59, μ59 = ab_mu μ58 109 46 (μ 130 r.length) → P 0 μ59)) := by
  have at0 := x.j.at'
  obtain ⟨l1, l2, l3⟩ := x.len
  have hp := (x.j.i.w.m3 x.m).1
  rw [x.hs] at hp
  have hr := hp.low (by omega)
  refine c_V_takeClose2 x.j.i x.v (by omega) (fun k41 ν1 v1 f1 => ⟨fun w => absurd w (by decide), fun _ ν2 e2 ν3 e3 => ?_⟩) (fun ν1 f1 => ⟨fun _ => hF _ f1, fun w => absurd rfl w⟩)
  have v2 := v1.pop0 e2 (by omega) (by omega)
  rw [show μ 130 r.length = e.2.2.1 from x.v.ap.1.2.2.2.1 ek] at e3
  have v3 := v2.fo e3
  have nx : aNext K s = some ((s.1, s.2.1 + 1, e.2.2.1, r), none) := by rw [x.nx]; simp [aEnd, ek, k41]
  have sl : (sW Ln s.2.1.toNat : Int) ≤ sW Ln (s.2.1 + 1).toNat := sW_at at0.1 (by omega)
  refine hN _ _ (V.fin (s' := (s.1, s.2.1 + 1, e.2.2.1, r)) (kp := (e :: r).length) (k := 0) (wv := 0) (o := e.2.2.1) ?_ x.j x.O x.Z nx (fun _ => rfl) (by decide) (fun w => ?_) (fun w => ?_) (fun w => ?_) (by rw [x.hs]; exact (bK_cons hr.ne).symm) hr.ne)
  · rw [hQ_3 (s := (s.1, s.2.1 + 1, e.2.2.1, r)) x.m, sQ_3 (s := (s.1, s.2.1 + 1, e.2.2.1, r)) x.m]
    show V _ _ _ _ _ (s.2.1 + 1) s.1 _ r _ _ _ (hP r + 1) (oN (cF F e.2.2.1) ++ sP F r) _ (qP r)
    have q1 : hP (e :: r) = hP r := by rw [hP_cons, if_neg (by omega), if_neg (by omega), if_neg (by omega)]; omega
    have q2 : sP F (e :: r) = oN (cF F e.2.2.1) ++ sP F r := by
      rw [sP_cons, if_neg (by omega)]; unfold sO
      rw [if_neg (by omega), if_neg (by omega), if_neg (by omega), if_neg (by omega), if_neg (by omega), if_pos (by omega)]
    have q3 : qP (e :: r) = qP r := by rw [qP_cons, if_neg (by omega)]
    rw [q1, q2, q3] at v3
    rw [x.m]; exact v3
  · show 0 + pEn r + (sW Ln s.2.1.toNat : Int) ≤ pEn s.2.2.2 + 2 * (s.2.1 + 1 - s.2.1) + (sW Ln (s.2.1 + 1).toNat : Int)
    rw [x.hs, pEn_cons, if_neg (by omega)]; omega
  · show 2 * 0 + pDo s.2.2.2 + 2 * (sW Ln s.2.1.toNat : Int) ≤ s.2.1 + 1 - s.2.1 + pDo r + 2 * (sW Ln (s.2.1 + 1).toNat : Int)
    rw [x.hs, pDo_cons, if_neg (by omega), if_neg (by omega)]; omega
  · have nb := (x.O w).nm.nb
    rw [x.hs] at nb
    unfold nB at nb
    rw [if_neg (by omega)] at nb
    exact v3.nb nb (by show (r.length : Int) ≤ _; omega)
theorem c_xE_24 (x : xE K W g s0 μ0 μ s Γ F dd Ln G e r) (ek : e.1 = 24) (hF : ∀ ν', rFt g μ0 ν' → P 0 ν') (hN : ∀ ν' s', J K W g s0 μ0 ν' s' ∧ aMs W s' < aMs W s → P 0 ν') : jj_mM_takeClose X (d + 3) 0 (ab_la [109, 93]) [] μ (fun r65 μ64 => (r65 = 0 → P 0 μ64) ∧ (r65 ≠ 0 → ∀ μ67, μ67 = ab_mu μ64 109 38 (ab_w ((μ64 109 38) - 1)) → jj_mM_step X (d + 3) 0 (ab_la [109, 3, μ 130 r.length]) [] μ67 (fun r69 μ68 => ∀ μ71, μ71 = ab_mu μ68 109 46 (μ 131 r.length) → P 0 μ71))) := by
  have at0 := x.j.at'
  have room := x.j.room x.O
  obtain ⟨l1, l2, l3⟩ := x.len
  have hp := (x.j.i.w.m3 x.m).1
  rw [x.hs] at hp
  have hr := hp.low (by omega)
  have hr0 := hr.h0
  have q1 : hP (e :: r) = hP r := by rw [hP_cons, if_neg (by omega), if_neg (by omega), if_neg (by omega)]; omega
  have q2 : sP F (e :: r) = oN (cF F e.2.2.1) ++ sP F r := by
    rw [sP_cons, if_neg (by omega)]; unfold sO
    rw [if_neg (by omega), if_neg (by omega), if_neg (by omega), if_neg (by omega), if_neg (by omega), if_pos (by omega)]
  have q3 : qP (e :: r) = qP r := by rw [qP_cons, if_neg (by omega)]
  refine c_V_takeClose2 x.j.i x.v (by omega) (fun k41 ν1 v1 f1 => ⟨fun w => absurd w (by decide), fun _ ν2 e2 => ?_⟩) (fun ν1 f1 => ⟨fun _ => hF _ f1, fun w => absurd rfl w⟩)
  have v2 := v1.pop0 e2 (by omega) (by omega)
  rw [q1, q2, q3] at v2
  refine c_V_step x.j.i v2 (fun w => by have := room w; omega) (by decide) (by decide) (h' := hP r + 1) (s1 := oN (cF F e.2.2.1) ++ sP F r) (fun _ => ?_) (fun w Γ' x' Gk => ?_) fun ν3 r3 v3 f3 e3 ν4 e4 => ?_
  · show (if 1 ≤ hP r + 1 then some (hP r + 1, oN (cF F e.2.2.1) ++ sP F r) else none) = _
    rw [if_pos (by omega)]
  · have ent := (x.O w).x.ent
    rw [x.hs] at ent
    exact ⟨fun _ => ent.1.f24 (Or.inl ek), fun z => absurd z (by decide), fun z => absurd z (by decide), fun z => absurd z (by decide), fun z => absurd z (by decide), fun z => absurd z (by decide), fun z => absurd z (by decide)⟩
  · have v3' := v3.more (ex' := fun _ => False) fun _ _ _ _ j _ _ z => z.elim (fun z => z.elim) fun z => absurd z.1 (by unfold tGo; decide)
    rw [show μ 131 r.length = e.2.2.1 from x.v.ap.1.2.2.2.2.1 ek] at e4
    have v4 := v3'.fo e4
    have nx : aNext K s = some ((s.1, s.2.1 + 1, e.2.2.1, r), none) := by rw [x.nx]; simp [aEnd, ek, k41]
    have sl : (sW Ln s.2.1.toNat : Int) ≤ sW Ln (s.2.1 + 1).toNat := sW_at at0.1 (by omega)
    refine hN _ _ (V.fin (s' := (s.1, s.2.1 + 1, e.2.2.1, r)) (kp := (e :: r).length) (k := 1) (wv := 0) (o := e.2.2.1) ?_ x.j x.O x.Z nx (fun _ => rfl) (by decide) (fun w => ?_) (fun w => ?_) (fun w => ?_) (by rw [x.hs]; exact (bK_cons hr.ne).symm) hr.ne)
    · rw [hQ_3 (s := (s.1, s.2.1 + 1, e.2.2.1, r)) x.m, sQ_3 (s := (s.1, s.2.1 + 1, e.2.2.1, r)) x.m]
      show V _ _ _ _ _ (s.2.1 + 1) s.1 _ r _ _ _ (hP r + 1) (oN (cF F e.2.2.1) ++ sP F r) _ (qP r)
      rw [x.m]; exact v4
    · show 1 + pEn r + (sW Ln s.2.1.toNat : Int) ≤ pEn s.2.2.2 + 2 * (s.2.1 + 1 - s.2.1) + (sW Ln (s.2.1 + 1).toNat : Int)
      rw [x.hs, pEn_cons, if_neg (by omega)]; omega
    · show 2 * 0 + pDo s.2.2.2 + 2 * (sW Ln s.2.1.toNat : Int) ≤ s.2.1 + 1 - s.2.1 + pDo r + 2 * (sW Ln (s.2.1 + 1).toNat : Int)
      rw [x.hs, pDo_cons, if_neg (by omega), if_neg (by omega)]; omega
    · have nb := (x.O w).nm.nb
      rw [x.hs] at nb
      unfold nB at nb
      rw [if_neg (by omega)] at nb
      exact v4.nb nb (by show (r.length : Int) ≤ _; omega)
/-- the tests of IF and WHILE end -/
theorem c_xE_20 (x : xE K W g s0 μ0 μ s Γ F dd Ln G e r) (ek : e.1 = 20) (hF : ∀ ν', rFt g μ0 ν' → P 0 ν') (hN : ∀ ν' s', J K W g s0 μ0 ν' s' ∧ aMs W s' < aMs W s → P 0 ν') : jj_mM_takeClose X (d + 3) 0 (ab_la [109, 41]) [] μ (fun r2 μ1 => (r2 = 0 → P 0 μ1) ∧ (r2 ≠ 0 → ∀ μ4, μ4 = ab_mu μ1 109 38 (ab_w ((μ1 109 38) - 1)) → jj_mM_step X (d + 3) 0 (ab_la [109, 15, 0]) [] μ4 (fun r6 μ5 => jj_mM_push X (d + 3) 0 (ab_la [109, 4, r6, 0]) [] μ5 (fun r9 μ8 => ∀ μ11, μ11 = ab_mu μ8 109 39 1 → P 0 μ11)))) := by
  have at0 := x.j.at'
  have room := x.j.room x.O
  obtain ⟨l1, l2, l3⟩ := x.len
  have hp := (x.j.i.w.m3 x.m).1
  rw [x.hs] at hp
  have hr := hp.st (by omega)
  have q1 : hP (e :: r) = 0 := by rw [hP_cons, if_neg (by omega), if_neg (by omega), if_neg (by omega), hr.h0]; rfl
  have q2 : sP F (e :: r) = sP F r := by
    rw [sP_cons, if_neg (by omega)]; unfold sO
    rw [if_neg (by omega), if_neg (by omega), if_neg (by omega), if_neg (by omega), if_neg (by omega), if_neg (by omega)]; rfl
  have q3 : qP (e :: r) = -1 := by rw [qP_cons, if_neg (by omega)]; exact hr.qm
  refine c_V_takeClose2 x.j.i x.v (by omega) (fun k41 ν1 v1 f1 => ⟨fun w => absurd w (by decide), fun _ ν2 e2 => ?_⟩) (fun ν1 f1 => ⟨fun _ => hF _ f1, fun w => absurd rfl w⟩)
  have v2 := v1.pop0 e2 (by omega) (by omega)
  rw [q1, q2, q3] at v2
  refine c_V_step2 x.j.i v2 (fun w => by have := room w; omega) (by decide) (by decide) (h' := 0) (s1 := 7 :: sP F r) (fun _ => rfl) (fun _ _ _ _ => tVk_n (by decide)) fun ν3 r3 v3 f3 e3 => ?_
  refine c_mM_push (by rw [v3.ln]; omega) fun ν4 m4 ν5 e5 => ?_
  have m4' := m4
  obtain ⟨a1, a2, a3, a4, a5, a6, a7⟩ := m4
  rw [v3.ln] at a1 a2 a3 a4 a5 a6 a7
  have v4 := v3.put (e := ⟨4, 0, 0, 0⟩) (ν' := ν4) (ex' := fun _ => False) (kp' := r.length) (fun c j z1 z2 => a1 c j z1 (by omega)) a2 (aM_n a3 (by decide)) ⟨by omega, Int.le_refl _⟩ fun w Γ' x' Gk => by
    obtain ⟨b1, b2, b3, b4⟩ := e3 w
    have rm := room w
    have O := x.O w
    have gn := Gk (μ 109 21) rm.1 (Int.le_refl _)
    refine ⟨eF_4 rfl ?_, fun z => absurd z (by decide), fun z => absurd z (by decide), fun z => absurd z (by decide), fun j z => Or.inl (Or.inl ⟨Or.inl a3, ?_⟩)⟩
    · rw [a4, b1]
      refine ⟨by omega, by omega, ?_, ?_, ?_⟩
      · show ν4 115 _ = 15
        rw [a1 115 _ (by omega) (by omega)]; exact b3
      · rw [show μ 109 21 + 0 = μ 109 21 by omega, gn.1, O.x.ch, hQ_3 x.m, x.hs, q1]; rfl
      · rw [x'.cr, show μ 109 21 + 0 = μ 109 21 by omega, gn.2.2.2.1, O.x.cr]
    · rw [a4, b1]
      exact z.elim (fun z => z.elim) fun z => z.2
  have v5 := v4.fm e5
  have nx : aNext K s = some ((1, s.2.1 + 1, s.2.2.1, ⟨4, 0, 0, 0⟩ :: r), none) := by rw [x.nx]; simp [aEnd, ek, k41]
  have sl : (sW Ln s.2.1.toNat : Int) ≤ sW Ln (s.2.1 + 1).toNat := sW_at at0.1 (by omega)
  have hp4 : aPs (⟨4, 0, 0, 0⟩ :: r) := aPss (by decide) hr
  refine hN _ _ (V.fin (s' := (1, s.2.1 + 1, s.2.2.1, ⟨4, 0, 0, 0⟩ :: r)) (kp := r.length) (k := 1) (wv := 1) (o := s.2.2.1) ?_ x.j x.O x.Z nx (fun z => absurd (show (1 : Int) = 3 from z) (by decide)) (by decide) (fun w => ?_) (fun w => ?_) (fun w => ?_) (by rw [x.hs]; exact (bK_cons hr.ne).trans (bK_cons hr.ne).symm) (List.cons_ne_nil _ _))
  · rw [hQ_m (s := (1, s.2.1 + 1, s.2.2.1, ⟨4, 0, 0, 0⟩ :: r)) (by show (1 : Int) ≠ 3; decide), sQ_m (s := (1, s.2.1 + 1, s.2.2.1, ⟨4, 0, 0, 0⟩ :: r)) (by show (1 : Int) ≠ 3; decide)]
    show V _ _ _ _ _ (s.2.1 + 1) 1 _ (⟨4, 0, 0, 0⟩ :: r) _ _ _ (hP (⟨4, 0, 0, 0⟩ :: r)) (sP F (⟨4, 0, 0, 0⟩ :: r)) _ (qP (⟨4, 0, 0, 0⟩ :: r))
    rw [hp4.h0, hp4.qm]
    exact v5
  · show 1 + pEn (⟨4, 0, 0, 0⟩ :: r) + (sW Ln s.2.1.toNat : Int) ≤ pEn s.2.2.2 + 2 * (s.2.1 + 1 - s.2.1) + (sW Ln (s.2.1 + 1).toNat : Int)
    rw [x.hs, pEn_cons, pEn_cons, if_pos (by decide), if_neg (by omega)]; omega
  · show 2 * 1 + pDo s.2.2.2 + 2 * (sW Ln s.2.1.toNat : Int) ≤ s.2.1 + 1 - s.2.1 + pDo (⟨4, 0, 0, 0⟩ :: r) + 2 * (sW Ln (s.2.1 + 1).toNat : Int)
    rw [x.hs, pDo_cons, pDo_cons, if_neg (by omega), if_pos ek, if_neg (by decide), if_neg (by decide)]; omega
  · have nb := (x.O w).nm.nb
    rw [x.hs] at nb
    unfold nB at nb
    rw [if_neg (by omega)] at nb
    exact nB_cons (by decide) (v5.nb nb (Int.le_refl _))
end M57

/-! THE REFERENCE, part 58: more ends of expressions -/
section M58
variable {X : jm_X} {d : Nat} {P : Int → ab_m → Prop} {K : Int → Int} {W g : Int} {s0 : aS} {μ0 μ ν ν' : ab_m} {s s' : aS} {Γ Γ' : tQ} {F F' : Int → List Int} {dd : Int} {Ln : Int → Nat} {G : Int → List Int} {a m o : Int} {p r : List aE} {kp k wv hh n dn : Int} {ss : List Int} {ex pd : Int → Prop} {q : Int} {e : aE}
theorem c_xE_21 (x : xE K W g s0 μ0 μ s Γ F dd Ln G e r) (ek : e.1 = 21) (hF : ∀ ν', rFt g μ0 ν' → P 0 ν') (hN : ∀ ν' s', J K W g s0 μ0 ν' s' ∧ aMs W s' < aMs W s → P 0 ν') : jj_mM_takeClose X (d + 3) 0 (ab_la [109, 41]) [] μ (fun r17 μ16 => (r17 = 0 → P 0 μ16) ∧ (r17 ≠ 0 → ∀ μ19, μ19 = ab_mu μ16 109 38 (ab_w ((μ16 109 38) - 1)) → jj_mM_step X (d + 3) 0 (ab_la [109, 19, 0]) [] μ19 (fun r21 μ20 => jj_mM_push X (d + 3) 0 (ab_la [109, 6, μ 130 r.length, r21]) [] μ20 (fun r24 μ23 => ∀ μ26, μ26 = ab_mu μ23 109 39 1 → P 0 μ26)))) := by
  have at0 := x.j.at'
  have room := x.j.room x.O
  obtain ⟨l1, l2, l3⟩ := x.len
  have hp := (x.j.i.w.m3 x.m).1
  rw [x.hs] at hp
  have hr := hp.st (by omega)
  have q1 : hP (e :: r) = 0 := by rw [hP_cons, if_neg (by omega), if_neg (by omega), if_neg (by omega), hr.h0]; rfl
  have q2 : sP F (e :: r) = 3 :: sP F r := by
    rw [sP_cons, if_neg (by omega)]; unfold sO
    rw [if_neg (by omega), if_neg (by omega), if_neg (by omega), if_pos ek]; rfl
  have q3 : qP (e :: r) = -1 := by rw [qP_cons, if_neg (by omega)]; exact hr.qm
  refine c_V_takeClose2 x.j.i x.v (by omega) (fun k41 ν1 v1 f1 => ⟨fun w => absurd w (by decide), fun _ ν2 e2 => ?_⟩) (fun ν1 f1 => ⟨fun _ => hF _ f1, fun w => absurd rfl w⟩)
  have v2 := v1.pop0 e2 (by omega) (by omega)
  have f2 : ∀ c j, c ≠ 109 → ν2 c j = μ c j := fun c j z => by rw [e2, ab_mud, if_neg (by omega)]; exact f1 c j z
  rw [q1, q2, q3] at v2
  refine c_V_step2 x.j.i v2 (fun w => by have := room w; omega) (by decide) (by decide) (h' := 0) (s1 := 4 :: sP F r) (fun _ => rfl) (fun _ _ _ _ => tVk_n (by decide)) fun ν3 r3 v3 f3 e3 => ?_
  refine c_mM_push (by rw [v3.ln]; omega) fun ν4 m4 ν5 e5 => ?_
  obtain ⟨a1, a2, a3, a4, a5, a6, a7⟩ := m4
  rw [v3.ln] at a1 a2 a3 a4 a5 a6 a7
  have v4 := v3.put (e := ⟨6, 0, 0, 0⟩) (ν' := ν4) (ex' := fun _ => False) (kp' := r.length) (fun c j z1 z2 => a1 c j z1 (by omega)) a2 (aM_n a3 (by decide)) ⟨by omega, Int.le_refl _⟩ fun w Γ' x' Gk => by
    obtain ⟨b1, b2, b3, b4⟩ := e3 w
    have rm := room w
    have O := x.O w
    have gn := Gk (μ 109 21) rm.1 (Int.le_refl _)
    have ent := O.x.ent
    rw [x.hs] at ent
    have chn := O.x.chn
    rw [x.hs, q3, l2] at chn
    have pA := ent.1.f6 (Or.inr ek)
    have k129 : μ 129 r.length = 21 := by rw [x.v.ap.1.1]; exact ek
    refine ⟨eF_6 rfl ?_ ?_, fun _ => a6, fun z => absurd z (by decide), fun _ => ?_, fun j z => Or.inl (Or.inr (Or.inl ⟨a3, ?_⟩))⟩
    · rw [a4]
      exact pA.same (by omega) (fun j j0 j1 => by
        show ν4 115 _ = μ 115 _
        rw [a1 115 _ (by omega) (by omega)]; exact (v3.tx j j0 j1).1) Gk (by rw [x'.cr, O.x.cr])
    · rw [a5, b1]
      refine ⟨by omega, by omega, ?_, ?_, ?_⟩
      · show ν4 115 _ = 19
        rw [a1 115 _ (by omega) (by omega)]; exact b3
      · rw [show μ 109 21 + 0 = μ 109 21 by omega, gn.1, O.x.ch, hQ_3 x.m, x.hs, q1]; rfl
      · rw [x'.cr, show μ 109 21 + 0 = μ 109 21 by omega, gn.2.2.2.1, O.x.cr]
    · rw [a4]
      intro i i0 i1 L ca n3 y hy
      have sy := x'.chn.S i0 i1 ca hy
      have lt : ∀ y ∈ L, 0 ≤ y ∧ y < μ 109 21 := fun y hy => by
        have sy := x'.chn.S i0 i1 ca hy
        have : y ≠ μ 109 21 + 0 := fun z => by
          rw [z, show (tEv ν3 g dd).1 (μ 109 21 + 0) = 19 from b3] at sy
          omega
        omega
      have g3 : ∀ c j, 129 ≤ c → c ≤ 133 → ν3 c j = μ c j := fun c j z1 z2 => by rw [f3 c j (by omega) (by omega)]; exact f2 c j (by omega)
      have mc : ∀ {x}, mCh ν3 g L x → mCh μ g L x := fun m => m.same fun y hy => by
        have := lt y hy
        rw [← f2 116 _ (by decide), ← f3 116 _ (by omega) (by omega)]
      have ca' : cA μ g (-1) i L := by
        unfold cA at ca ⊢
        rw [g3 129 i (by decide) (by decide), g3 132 i (by decide) (by decide), g3 133 i (by decide) (by decide)] at ca
        exact ca.imp (fun z => ⟨z.1, mc z.2⟩) fun z => ⟨z.1, z.2.1, mc z.2.2⟩
      exact chn.cLt ⟨by omega, by omega⟩ (Or.inr (Or.inr k129)) i i0 i1 L ca' (by rw [← g3 129 i (by decide) (by decide)]; exact n3) y hy
    · rw [a5, b1]
      exact z.elim (fun z => z.elim) fun z => z.2
  have v5 := v4.fm e5
  have nx : aNext K s = some ((1, s.2.1 + 1, s.2.2.1, ⟨6, 0, 0, 0⟩ :: r), none) := by rw [x.nx]; simp [aEnd, ek, k41]
  have sl : (sW Ln s.2.1.toNat : Int) ≤ sW Ln (s.2.1 + 1).toNat := sW_at at0.1 (by omega)
  have hp4 : aPs (⟨6, 0, 0, 0⟩ :: r) := aPss (by decide) hr
  refine hN _ _ (V.fin (s' := (1, s.2.1 + 1, s.2.2.1, ⟨6, 0, 0, 0⟩ :: r)) (kp := r.length) (k := 1) (wv := 0) (o := s.2.2.1) ?_ x.j x.O x.Z nx (fun z => absurd (show (1 : Int) = 3 from z) (by decide)) (by decide) (fun w => ?_) (fun w => ?_) (fun w => ?_) (by rw [x.hs]; exact (bK_cons hr.ne).trans (bK_cons hr.ne).symm) (List.cons_ne_nil _ _))
  · rw [hQ_m (s := (1, s.2.1 + 1, s.2.2.1, ⟨6, 0, 0, 0⟩ :: r)) (by show (1 : Int) ≠ 3; decide), sQ_m (s := (1, s.2.1 + 1, s.2.2.1, ⟨6, 0, 0, 0⟩ :: r)) (by show (1 : Int) ≠ 3; decide)]
    show V _ _ _ _ _ (s.2.1 + 1) 1 _ (⟨6, 0, 0, 0⟩ :: r) _ _ _ (hP (⟨6, 0, 0, 0⟩ :: r)) (sP F (⟨6, 0, 0, 0⟩ :: r)) _ (qP (⟨6, 0, 0, 0⟩ :: r))
    rw [hp4.h0, hp4.qm]
    exact v5
  · show 1 + pEn (⟨6, 0, 0, 0⟩ :: r) + (sW Ln s.2.1.toNat : Int) ≤ pEn s.2.2.2 + 2 * (s.2.1 + 1 - s.2.1) + (sW Ln (s.2.1 + 1).toNat : Int)
    rw [x.hs, pEn_cons, pEn_cons, if_pos (by decide), if_neg (by omega)]; omega
  · show 2 * 0 + pDo s.2.2.2 + 2 * (sW Ln s.2.1.toNat : Int) ≤ s.2.1 + 1 - s.2.1 + pDo (⟨6, 0, 0, 0⟩ :: r) + 2 * (sW Ln (s.2.1 + 1).toNat : Int)
    rw [x.hs, pDo_cons, pDo_cons, if_neg (by omega), if_neg (by omega), if_neg (by decide), if_neg (by decide)]; omega
  · have nb := (x.O w).nm.nb
    rw [x.hs] at nb
    unfold nB at nb
    rw [if_neg (by omega)] at nb
    exact nB_cons (by decide) (v5.nb nb (Int.le_refl _))
/-- an entry of the same place takes another's -/
theorem V.swap {e' : aE} (v : V g μ Γ dd ν a m o (e :: r) kp k wv hh ss (fun _ => False) q) (hkp : (r.length : Int) ≤ kp) (hl : (r.length : Int) < 3010) (ek : e.1 ≠ 4 ∧ e.1 ≠ 5 ∧ e.1 ≠ 6 ∧ e.1 ≠ 40 ∧ e.1 ≠ 7 ∧ e.1 ≠ 3) (ek' : e'.1 ≠ 3 ∧ e'.1 ≠ 6 ∧ e'.1 ≠ 7 ∧ e'.1 ≠ 21) (f : ∀ c j : Int, ¬ (129 ≤ c ∧ c ≤ 133 ∧ j = r.length) → ν' c j = ν c j) (am : aM ν' r.length e') (one : μ 109 22 = 1 → ∀ Γ', Γ'.2.2.2.1 (μ 109 21 + k) = μ 109 32 → eF ν' (tEv ν' g dd) Γ' (μ 109 21 + k) e' r r.length) : V g μ Γ dd ν' a m o (e' :: r) r.length k wv hh ss (fun _ => False) q := by
  have ll : ((e :: r).length : Int) = r.length + 1 := by simp
  have hl38 := v.ln
  rw [ll] at hl38
  have v1 := v.pop0 (ν' := ab_mu ν 109 38 (ab_w (ν 109 38 - 1))) rfl hl ek
  have w38 : ab_w (ν 109 38 - 1) = r.length := by rw [hl38, ab_wi (by omega) (by omega)]; omega
  rw [w38] at v1
  refine v1.put (fun c j z1 z2 => by rw [f c j z1, ab_mud, if_neg (by omega)]) (by rw [f 109 38 (by omega)]; exact hl38) am ⟨hkp, Int.le_refl _⟩ fun w Γ' x' Gk => ?_
  exact ⟨one w Γ' x'.cr, fun z => by omega, fun z => by omega, fun z => by omega, fun j z => z.elim⟩
theorem c_xE_25 (x : xE K W g s0 μ0 μ s Γ F dd Ln G e r) (ek : e.1 = 25) (hF : ∀ ν', rFt g μ0 ν' → P 0 ν') (hN : ∀ ν' s', J K W g s0 μ0 ν' s' ∧ aMs W s' < aMs W s → P 0 ν') : jj_mM_takeClose X (d + 3) 0 (ab_la [109, 93]) [] μ (fun r77 μ76 => (r77 = 0 → P 0 μ76) ∧ (r77 ≠ 0 → jj_mM_take X (d + 3) 0 (ab_la [109, 61]) [] μ76 (fun r80 μ79 => (r80 = 0 → P 0 μ79) ∧ (r80 ≠ 0 → ((0 : Int) ≤ (r.length : Int) ∧ ((r.length : Int) : Int) < 3010) ∧ ∀ μ82, μ82 = ab_mu μ79 129 (r.length : Int) 27 → ∀ μ83, μ83 = ab_mu μ82 109 39 2 → P 0 μ83)))) := by
  have at0 := x.j.at'
  obtain ⟨l1, l2, l3⟩ := x.len
  have hp := (x.j.i.w.m3 x.m).1
  rw [x.hs] at hp
  have hr := hp.st (by omega)
  have q1 : hP (e :: r) = 0 := by rw [hP_cons, if_neg (by omega), if_neg (by omega), if_neg (by omega), hr.h0]; rfl
  have q2 : sP F (e :: r) = sP F r := by
    rw [sP_cons, if_neg (by omega)]; unfold sO
    rw [if_neg (by omega), if_neg (by omega), if_neg (by omega), if_neg (by omega), if_neg (by omega), if_neg (by omega)]; rfl
  have q3 : qP (e :: r) = -1 := by rw [qP_cons, if_neg (by omega)]; exact hr.qm
  refine c_V_takeClose2 x.j.i x.v (by omega) (fun k93 ν1 v1 f1 => ⟨fun w => absurd w (by decide), fun _ => ?_⟩) (fun ν1 f1 => ⟨fun _ => hF _ f1, fun w => absurd rfl w⟩)
  have lW := aK_lt x.j.i.kk at0.1 at0.2.2 k93 (by decide)
  have W3 := x.j.i.kk.2.1
  refine c_V_take2 x.j.i v1 (by omega) (fun k61 ν2 v2 f2 => ⟨fun w => absurd w (by decide), fun _ => ⟨by omega, fun ν3 e3 ν4 e4 => ?_⟩⟩) (fun ν1 f1 => ⟨fun _ => hF _ f1, fun w => absurd rfl w⟩)
  rw [q1, q2, q3] at v2
  have v3 := v2.swap (e' := ⟨27, 0, 0, 0⟩) (ν' := ν3) (by omega) (by omega) (by omega) (by decide) (fun c j z => by rw [e3, ab_mud, if_neg (by omega)]) (aM_n (by rw [e3, ab_mud, if_pos ⟨rfl, rfl⟩]) (by decide)) fun w Γ' cr => eF_27 rfl (by
    have ent := (x.O w).x.ent
    rw [x.hs] at ent
    rw [e3, ab_mud, if_neg (by omega), f2 130 _ (by decide), f1 130 _ (by decide)]
    exact ent.1.f24 (Or.inr (Or.inl ek)))
  have v4 := v3.fm e4
  have nx : aNext K s = some ((2, s.2.1 + 1 + 1, s.2.2.1, ⟨27, 0, 0, 0⟩ :: r), none) := by
    rw [x.nx, show s.2.1 + 1 + 1 = s.2.1 + 2 by omega]; simp [aEnd, ek, k93, k61]
  have sl : (sW Ln s.2.1.toNat : Int) ≤ sW Ln (s.2.1 + 1 + 1).toNat := sW_at at0.1 (by omega)
  refine hN _ _ (V.fin (s' := (2, s.2.1 + 1 + 1, s.2.2.1, ⟨27, 0, 0, 0⟩ :: r)) (kp := r.length) (k := 0) (wv := 0) (o := s.2.2.1) ?_ x.j x.O x.Z nx (fun z => absurd (show (2 : Int) = 3 from z) (by decide)) (by decide) (fun w => ?_) (fun w => ?_) (fun w => ?_) (by rw [x.hs]; exact (bK_cons hr.ne).trans (bK_cons hr.ne).symm) (List.cons_ne_nil _ _))
  · rw [hQ_m (s := (2, s.2.1 + 1 + 1, s.2.2.1, ⟨27, 0, 0, 0⟩ :: r)) (by show (2 : Int) ≠ 3; decide), sQ_m (s := (2, s.2.1 + 1 + 1, s.2.2.1, ⟨27, 0, 0, 0⟩ :: r)) (by show (2 : Int) ≠ 3; decide)]
    show V _ _ _ _ _ (s.2.1 + 1 + 1) 2 _ (⟨27, 0, 0, 0⟩ :: r) _ _ _ (hP (⟨27, 0, 0, 0⟩ :: r)) (sP F (⟨27, 0, 0, 0⟩ :: r)) _ (qP (⟨27, 0, 0, 0⟩ :: r))
    rw [show hP (⟨27, 0, 0, 0⟩ :: r) = 0 + 1 by rw [hP_cons, hr.h0]; rfl, show qP (⟨27, 0, 0, 0⟩ :: r) = -1 from hr.qm]
    exact v4
  · show 0 + pEn (⟨27, 0, 0, 0⟩ :: r) + (sW Ln s.2.1.toNat : Int) ≤ pEn s.2.2.2 + 2 * (s.2.1 + 1 + 1 - s.2.1) + (sW Ln (s.2.1 + 1 + 1).toNat : Int)
    rw [x.hs, pEn_cons, pEn_cons, if_neg (by decide), if_neg (by omega)]; omega
  · show 2 * 0 + pDo s.2.2.2 + 2 * (sW Ln s.2.1.toNat : Int) ≤ s.2.1 + 1 + 1 - s.2.1 + pDo (⟨27, 0, 0, 0⟩ :: r) + 2 * (sW Ln (s.2.1 + 1 + 1).toNat : Int)
    rw [x.hs, pDo_cons, pDo_cons, if_neg (by omega), if_neg (by omega), if_neg (by decide), if_neg (by decide)]; omega
  · have nb := (x.O w).nm.nb
    rw [x.hs] at nb
    unfold nB at nb
    rw [if_neg (by omega)] at nb
    exact nB_cons (by decide) (v4.nb nb (Int.le_refl _))
/-- the entry of a call takes one argument more -/
theorem xE.arg (x : xE K W g s0 μ0 μ s Γ F dd Ln G e r) (ek : e.1 = 28) {ν1 : ab_m} (e1 : ν1 = ab_mu μ 132 r.length (ab_w (μ 132 r.length + 1))) : V g μ Γ dd ν1 s.2.1 3 s.2.2.1 ((e.1, e.2.1, e.2.2.1, e.2.2.2 + 1) :: r) r.length 0 0 (hP (e :: r) + 1) (sP F (e :: r)) (fun _ => False) (qP r) := by
  obtain ⟨l1, l2, l3⟩ := x.len
  obtain ⟨m1, m2, m3, m4⟩ := x.j.i.w.m3 x.m
  rw [x.hs] at m1 m2
  have at0 := x.j.at'
  have c0 := m1.c0
  have cb := (m2 (Or.inr (Or.inr (Or.inr (Or.inr ek))))).2.1
  have w0 := (m2 (Or.inr (Or.inr (Or.inr (Or.inr ek))))).1
  obtain ⟨am1, am2, am3, am4, am5, am6, am7⟩ := x.v.ap.1
  obtain ⟨b1, b2, b3⟩ := am6 ek
  clear am2 am3 am4 am5 am6 am7
  rw [b3, show ab_w (e.2.2.2 + 1) = e.2.2.2 + 1 from ab_wi (by omega) (by omega)] at e1
  have v := x.v
  have q3 : qP (e :: r) = qP r := by rw [qP_cons, if_neg (by omega)]
  rw [q3] at v
  refine v.swap (e' := (e.1, e.2.1, e.2.2.1, e.2.2.2 + 1)) (ν' := ν1) (by omega) (by omega) (by omega) ⟨by show e.1 ≠ 3; omega, by show e.1 ≠ 6; omega, by show e.1 ≠ 7; omega, by show e.1 ≠ 21; omega⟩ (fun c j z => by rw [e1, ab_mud, if_neg (by omega)]) ⟨by rw [e1, ab_mud, if_neg (by omega)]; exact am1, fun z => by have z : e.1 = 40 := z; omega, fun z => by have z : e.1 = 41 := z; omega, fun z => by have z : e.1 = 23 := z; omega, fun z => by have z : e.1 = 24 := z; omega, fun _ => ⟨by rw [e1, ab_mud, if_neg (by omega)]; exact b1, by rw [e1, ab_mud, if_neg (by omega)]; exact b2, by rw [e1, ab_mud, if_pos ⟨rfl, rfl⟩]⟩, fun z => by have z : e.1 = 3 := z; omega⟩ fun w Γ' cr => eF_28 ek ?_
  have O := x.O w
  have ent := O.x.ent
  rw [x.hs] at ent
  obtain ⟨t1, t2, t3, t4⟩ := ent.1.f28 ek
  have e130 : ν1 130 r.length = μ 130 r.length := by rw [e1, ab_mud, if_neg (by omega)]
  rw [e130, cr]
  refine ⟨t1, by rw [← O.x.cr]; exact t2, t3, ?_⟩
  show ν1 120 _ = ν1 134 e.2.2.1
  rw [e1, ab_mud, if_neg (by omega), ab_mud, if_neg (by omega)]
  exact t4
end M58

/-! THE REFERENCE, part 59: calls and statements end -/
section M59
variable {X : jm_X} {d : Nat} {P : Int → ab_m → Prop} {K : Int → Int} {W g : Int} {s0 : aS} {μ0 μ ν ν' : ab_m} {s s' : aS} {Γ Γ' : tQ} {F F' : Int → List Int} {dd : Int} {Ln : Int → Nat} {G : Int → List Int} {a m o : Int} {p r : List aE} {kp k wv hh n dn : Int} {ss : List Int} {ex pd : Int → Prop} {q : Int} {e : aE}
theorem xE.low (x : xE K W g s0 μ0 μ s Γ F dd Ln G e r) (ek : e.1 = 28) : r ≠ [] ∧ 0 ≤ hP r ∧ (∀ y ∈ r, y.1 = 28 → y.2.2.1 ≠ e.2.2.1) ∧ (e.2.1 = 1 → hP r = 0) ∧ 0 ≤ e.2.2.1 ∧ e.2.2.1 < s.2.2.1 ∧ 0 ≤ e.2.2.2 ∧ (e.2.1 = 0 ∨ e.2.1 = 1) := by
  obtain ⟨m1, m2, m3, m4⟩ := x.j.i.w.m3 x.m
  rw [x.hs] at m1 m2
  obtain ⟨w1, w2, w3⟩ := m2 (Or.inr (Or.inr (Or.inr (Or.inr ek))))
  have c0 := m1.c0
  rcases m1 with ⟨b1, -, -, b4⟩ | ⟨b1, -, b4⟩
  · refine ⟨b4.ne, b4.h0, fun y hy hk => ?_, fun z => by omega, w1, w2.1, c0, by omega⟩
    have := w3.mem b4 y hy (Or.inr (Or.inr (Or.inr (Or.inr hk))))
    omega
  · refine ⟨b4.ne, by rw [b4.h0]; decide, fun y hy hk => ?_, fun z => b4.h0, w1, w2.1, c0, by omega⟩
    have := b4.k y hy
    omega
/-- a comma -/
theorem c_xE_28c (x : xE K W g s0 μ0 μ s Γ F dd Ln G e r) (ek : e.1 = 28) (k44 : K s.2.1 = 44) (hN : ∀ ν' s', J K W g s0 μ0 ν' s' ∧ aMs W s' < aMs W s → P 0 ν') {ν1 ν2 ν3 : ab_m} (e1 : ν1 = ab_mu μ 132 r.length (ab_w (μ 132 r.length + 1))) (e2 : ν2 = ab_mu ν1 109 40 (ab_w (ν1 109 40 + 1))) (e3 : ν3 = ab_mu ν2 109 39 2) : P 0 ν3 := by
  have at0 := x.j.at'
  obtain ⟨ne, h0, pd, -, w0, w1, c0, a01⟩ := x.low ek
  have v3 := ((x.arg ek e1).fa1 (by omega) e2).fm e3
  have nx : aNext K s = some ((2, s.2.1 + 1, s.2.2.1, (e.1, e.2.1, e.2.2.1, e.2.2.2 + 1) :: r), none) := by rw [x.nx]; simp [aEnd, ek, k44]
  have sl : (sW Ln s.2.1.toNat : Int) ≤ sW Ln (s.2.1 + 1).toNat := sW_at at0.1 (by omega)
  refine hN _ _ (V.fin (s' := (2, s.2.1 + 1, s.2.2.1, (e.1, e.2.1, e.2.2.1, e.2.2.2 + 1) :: r)) (kp := r.length) (k := 0) (wv := 0) (o := s.2.2.1) ?_ x.j x.O x.Z nx (fun z => absurd (show (2 : Int) = 3 from z) (by decide)) (by decide) (fun w => ?_) (fun w => ?_) (fun w => ?_) (by rw [x.hs]; exact (bK_cons ne).trans (bK_cons ne).symm) (List.cons_ne_nil _ _))
  · rw [hQ_m (s := (2, s.2.1 + 1, s.2.2.1, (e.1, e.2.1, e.2.2.1, e.2.2.2 + 1) :: r)) (by show (2 : Int) ≠ 3; decide), sQ_m (s := (2, s.2.1 + 1, s.2.2.1, (e.1, e.2.1, e.2.2.1, e.2.2.2 + 1) :: r)) (by show (2 : Int) ≠ 3; decide)]
    show V _ _ _ _ _ (s.2.1 + 1) 2 _ ((e.1, e.2.1, e.2.2.1, e.2.2.2 + 1) :: r) _ _ _ (hP ((e.1, e.2.1, e.2.2.1, e.2.2.2 + 1) :: r)) (sP F ((e.1, e.2.1, e.2.2.1, e.2.2.2 + 1) :: r)) _ (qP ((e.1, e.2.1, e.2.2.1, e.2.2.2 + 1) :: r))
    have q1 : hP ((e.1, e.2.1, e.2.2.1, e.2.2.2 + 1) :: r) = hP (e :: r) + 1 := by
      rw [hP_cons, hP_cons, if_neg (by show ¬ (e.1 = 40 ∧ _); omega), if_pos (show e.1 = 28 from ek), if_neg (by omega), if_pos ek]
      show e.2.2.2 + 1 + hP r = e.2.2.2 + hP r + 1
      omega
    have q2 : qP ((e.1, e.2.1, e.2.2.1, e.2.2.2 + 1) :: r) = qP r := by rw [qP_cons, if_neg (by show ¬ e.1 = 22; omega)]
    rw [q1, q2]
    exact v3
  · show 0 + pEn ((e.1, e.2.1, e.2.2.1, e.2.2.2 + 1) :: r) + (sW Ln s.2.1.toNat : Int) ≤ pEn s.2.2.2 + 2 * (s.2.1 + 1 - s.2.1) + (sW Ln (s.2.1 + 1).toNat : Int)
    rw [x.hs, pEn_cons, pEn_cons]
    dsimp only
    omega
  · show 2 * 0 + pDo s.2.2.2 + 2 * (sW Ln s.2.1.toNat : Int) ≤ s.2.1 + 1 - s.2.1 + pDo ((e.1, e.2.1, e.2.2.1, e.2.2.2 + 1) :: r) + 2 * (sW Ln (s.2.1 + 1).toNat : Int)
    rw [x.hs, pDo_cons, pDo_cons]
    dsimp only
    omega
  · have nb := (x.O w).nm.nb
    rw [x.hs] at nb
    unfold nB at nb
    rw [if_neg (by omega)] at nb
    exact nB_cons (by show e.1 ≠ 1 ∧ e.1 ≠ 2 ∧ e.1 ≠ 3; omega) (v3.nb nb (Int.le_refl _))
/-- the call's bracket closes -/
theorem c_xE_28e (x : xE K W g s0 μ0 μ s Γ F dd Ln G e r) (ek : e.1 = 28) (k41 : K s.2.1 = 41) (hF : ∀ ν', rFt g μ0 ν' → P 0 ν') (hN : ∀ ν' s', J K W g s0 μ0 ν' s' ∧ aMs W s' < aMs W s → P 0 ν') {ν1 : ab_m} (e1 : ν1 = ab_mu μ 132 r.length (ab_w (μ 132 r.length + 1))) : jj_mM_endCall X (d + 3) 0 (ab_la [109]) [] ν1 P := by
  have at0 := x.j.at'
  have room := x.j.room x.O
  obtain ⟨l1, l2, l3⟩ := x.len
  obtain ⟨ne, h0, pd, ha0, w0, w1, c0, a01⟩ := x.low ek
  have m4 := (x.j.i.w.m3 x.m).2.2.2
  have nxA : e.2.1 ≠ 1 → aNext K s = some ((3, s.2.1 + 1, e.2.2.1, r), some (e.2.2.1, e.2.2.2 + 1 + 2)) := fun z => by
    rw [x.nx, show e.2.2.2 + 1 + 2 = e.2.2.2 + 3 by omega]
    simp [aEnd, ek, k41, z, x.m]
  have nxB : e.2.1 = 1 → K (s.2.1 + 1) = 59 → aNext K s = some ((4, s.2.1 + 2, s.2.2.1, r), some (e.2.2.1, e.2.2.2 + 1 + 2)) := fun z k59 => by
    rw [x.nx, show e.2.2.2 + 1 + 2 = e.2.2.2 + 3 by omega]
    simp [aEnd, ek, k41, z, k59]
  have sl : (sW Ln s.2.1.toNat : Int) ≤ sW Ln (s.2.1 + 1).toNat := sW_at at0.1 (by omega)
  refine c_V_endCall (e := (e.1, e.2.1, e.2.2.1, e.2.2.2 + 1)) (p := r) (G := G) x.j x.O x.Z (x.arg ek e1) ek ⟨at0.1, at0.2.2, k41⟩ ⟨w0, by show e.2.2.1 < 3002; omega⟩ (by decide) (fun w => by have := room w; omega) (by show 0 ≤ e.2.2.2 + 1; omega) (by omega) (fun p1 => ?_) (fun _ => ⟨?_, h0⟩) nxA nxB (fun p0 => (x.Z p0).np e (by rw [x.hs]; exact List.mem_cons_self ..) ek) pd (fun z => ?_) (fun z => ⟨?_, ha0 z⟩) (fun _ => ?_) (fun _ => ?_) (fun w => ?_) (Int.le_refl _) (by rw [x.hs]; exact (bK_cons ne).symm) ne hF hN
  · have O := x.O p1
    by_cases z : e.2.1 = 1
    · obtain ⟨y, ey⟩ := O.rest.some' (Or.inl (by have := x.m; omega))
      have k59 : K (s.2.1 + 1) = 59 := by
        by_cases u : K (s.2.1 + 1) = 59
        · exact u
        · exfalso
          rw [x.nx] at ey
          simp [aEnd, ek, k41, z, u] at ey
      exact O.cnt (c := e.2.2.2 + 1) (by omega) (nxB z k59)
    · exact O.cnt (c := e.2.2.2 + 1) (by omega) (nxA z)
  · show hP (e :: r) + 1 = hP r + (e.2.2.2 + 1)
    rw [hP_cons, if_neg (by omega), if_pos ek]; omega
  · have z : e.2.1 ≠ 1 := z
    show sP F (e :: r) = oN (cF F e.2.2.1) ++ sP F r
    rw [sP_cons, if_neg (by omega)]; unfold sO
    rw [if_neg (by omega), if_neg (by omega), if_neg (by omega), if_neg (by omega), if_neg (by omega), if_pos (by omega)]
  · have z : e.2.1 = 1 := z
    show sP F (e :: r) = sP F r
    rw [sP_cons, if_neg (by omega)]; unfold sO
    rw [if_neg (by omega), if_neg (by omega), if_neg (by omega), if_neg (by omega), if_neg (by omega), if_neg (by omega)]; rfl
  · rw [x.hs, pEn_cons, if_neg (by omega)]; omega
  · rw [x.hs, pDo_cons, if_neg (by omega), if_neg (by omega)]; omega
  · have nb := (x.O w).nm.nb
    rw [x.hs] at nb
    unfold nB at nb
    rw [if_neg (by omega)] at nb
    exact nb
/-- a statement ends with its expression -/
theorem V.toE (v : V g μ Γ dd ν (s.2.1 + 1) 4 o r kp k 0 0 (sP F r) (fun _ => False) (-1)) (x : xE K W g s0 μ0 μ s Γ F dd Ln G e r) (ek : e.1 = 26 ∨ e.1 = 27 ∨ e.1 = 29 ∨ e.1 = 30) (k59 : K s.2.1 = 59) (k0 : 0 ≤ k ∧ k ≤ 2) (hkp : (r.length : Int) ≤ kp) : J K W g s0 μ0 ν (4, s.2.1 + 1, s.2.2.1, r) ∧ aMs W (4, s.2.1 + 1, s.2.2.1, r) < aMs W s := by
  have at0 := x.j.at'
  have hp := (x.j.i.w.m3 x.m).1
  rw [x.hs] at hp
  have hr := hp.st (by omega)
  have nx : aNext K s = some ((4, s.2.1 + 1, s.2.2.1, r), none) := by
    rw [x.nx]
    have : e.1 ≠ 23 ∧ e.1 ≠ 24 ∧ e.1 ≠ 28 ∧ e.1 ≠ 20 ∧ e.1 ≠ 21 ∧ e.1 ≠ 22 ∧ e.1 ≠ 25 := by omega
    simp [aEnd, this, k59]
  have sl : (sW Ln s.2.1.toNat : Int) ≤ sW Ln (s.2.1 + 1).toNat := sW_at at0.1 (by omega)
  refine V.fin (s' := (4, s.2.1 + 1, s.2.2.1, r)) (kp := kp) (k := k) (wv := 0) (o := o) ?_ x.j x.O x.Z nx (fun z => absurd (show (4 : Int) = 3 from z) (by decide)) k0.1 (fun w => ?_) (fun w => ?_) (fun w => ?_) (by rw [x.hs]; exact (bK_cons hr.ne).symm) hr.ne
  · rw [hQ_m (s := (4, s.2.1 + 1, s.2.2.1, r)) (by show (4 : Int) ≠ 3; decide), sQ_m (s := (4, s.2.1 + 1, s.2.2.1, r)) (by show (4 : Int) ≠ 3; decide)]
    show V _ _ _ _ _ (s.2.1 + 1) 4 _ r _ _ _ (hP r) (sP F r) _ (qP r)
    rw [hr.h0, hr.qm]
    exact v
  · show k + pEn r + (sW Ln s.2.1.toNat : Int) ≤ pEn s.2.2.2 + 2 * (s.2.1 + 1 - s.2.1) + (sW Ln (s.2.1 + 1).toNat : Int)
    rw [x.hs, pEn_cons, if_neg (by omega)]; omega
  · show 2 * 0 + pDo s.2.2.2 + 2 * (sW Ln s.2.1.toNat : Int) ≤ s.2.1 + 1 - s.2.1 + pDo r + 2 * (sW Ln (s.2.1 + 1).toNat : Int)
    rw [x.hs, pDo_cons, if_neg (by omega), if_neg (by omega)]; omega
  · have nb := (x.O w).nm.nb
    rw [x.hs] at nb
    unfold nB at nb
    rw [if_neg (by omega)] at nb
    exact v.nb nb hkp
theorem bK3 : ∀ {p : List aE}, aPs p → aP μ p → bK p = 3 → μ 129 0 = 3
  | [], h, _, _ => h.elim
  | e :: r, h, ha, hb => by
    rcases h with ⟨h, hr⟩ | ⟨h, hr⟩
    · rw [hr] at ha hb
      have : e.1 = 3 := hb
      rw [← this]; exact ha.1.1
    · rw [bK_cons hr.ne] at hb
      exact bK3 hr ha.2 hb
set_option maxHeartbeats 1000000 in
theorem c_xE_st (x : xE K W g s0 μ0 μ s Γ F dd Ln G e r) (ek : e.1 = 26 ∨ e.1 = 27 ∨ e.1 = 29 ∨ e.1 = 30) (hF : ∀ ν', rFt g μ0 ν' → P 0 ν') (hN : ∀ ν' s', J K W g s0 μ0 ν' s' ∧ aMs W s' < aMs W s → P 0 ν') : jj_mM_endStatementExpr X (d + 3) 0 (ab_la [109, r.length, μ 130 r.length]) [] μ P := by
  have at0 := x.j.at'
  have room := x.j.room x.O
  obtain ⟨l1, l2, l3⟩ := x.len
  have hp := (x.j.i.w.m3 x.m).1
  rw [x.hs] at hp
  have hr := hp.st (by omega)
  have q2 : sP F (e :: r) = sP F r := by
    rw [sP_cons, if_neg (by omega)]; unfold sO
    rw [if_neg (by omega), if_neg (by omega), if_neg (by omega), if_neg (by omega), if_neg (by omega), if_neg (by omega)]; rfl
  have q3 : qP (e :: r) = -1 := by rw [qP_cons, if_neg (by omega)]; exact hr.qm
  refine bk_mM_endStatementExpr_0 rfl (c_V_take2 x.j.i x.v (by omega) (fun k59 ν1 v1 f1 => ⟨fun _ ν4 e4 ν5 e5 => ?_, fun w => absurd w (by decide)⟩) (fun ν1 f1 => ⟨fun w => absurd rfl w, fun _ => hF _ f1⟩))
  have v4 := v1.pop0 e4 (by omega) (by omega)
  have v5 := v4.fm e5
  rw [q2, q3] at v5
  have f5 : ∀ c j, c ≠ 109 → ν5 c j = μ c j := fun c j z => by rw [e5, ab_mud, if_neg (by omega), e4, ab_mud, if_neg (by omega)]; exact f1 c j z
  have k5 : ν5 129 r.length = e.1 := by rw [f5 129 _ (by decide)]; exact x.v.ap.1.1
  have ln5 : ab_w (ν5 109 38 - 1) = r.length - 1 := by rw [v5.ln, ab_wi (by omega) (by omega)]
  simp only [la1, la2]
  rw [k5, ln5]
  -- RETURN
  have ret : e.1 = 29 → (ν5 109 22 ≠ 1 → P 0 ν5) ∧ (ν5 109 22 = 1 → jj_mM_endStatementExpr X (d + 3) 109 (ab_up (ab_la [109, r.length, μ 130 r.length]) 6 (r.length - 1)) [] ν5 P) := by
    intro k29
    have q1 : hP (e :: r) = 0 := by rw [hP_cons, if_neg (by omega), if_neg (by omega), if_neg (by omega), hr.h0]; rfl
    rw [q1] at v5
    refine ⟨fun n1 => hN _ _ (V.toE (k := 0) (v5.zero (fun z => n1 (by rw [v5.ps]; exact z))) x ek k59 (by decide) (by omega)), fun y1 => ?_⟩
    have w : μ 109 22 = 1 := by rw [← v5.ps]; exact y1
    have rm := room w
    have O := x.O w
    have ent := O.x.ent
    rw [x.hs] at ent
    have b3 := ent.1.f29 k29
    have z3 : ν5 129 0 = 3 := bK3 hr v5.ap b3
    have key : ∀ (m : Nat) (l : ab_l) (i : Int), l 0 = 109 → l 6 = i → 0 ≤ i → i < (r.length : Int) → i.toNat = m → jj_mM_endStatementExpr X (d + 3) 109 l [] ν5 P := by
      intro m
      induction m using Nat.strongRecOn with
      | ind m ih =>
        intro l i l0 l6 i0 i1 hm
        refine bk_mM_endStatementExpr_109 l0 ?_
        rw [l6]
        refine ⟨by omega, fun y3 => ⟨by omega, ?_⟩, fun n3 => ?_⟩
        · refine c_V_step x.j.i v5 (fun w => by omega) (by decide) (by decide) (h' := 0) (s1 := sP F r) (fun _ => rfl) (fun _ Γ' x' _ => ⟨fun z => absurd z (by decide), fun z => absurd z (by decide), fun z => absurd z (by decide), fun z => absurd z (by decide), fun z => absurd z (by decide), fun z => absurd z (by decide), fun _ => by rw [x'.cr]; show _ < dd; have := (O.b3.1 (by rw [x.hs, bK_cons hr.ne]; exact b3)).1; omega⟩) fun ν6 r6 v6 f6 e6 => ⟨by omega, fun ν7 e7 => ?_⟩
          obtain ⟨g1, g2, g3, g4⟩ := e6 w
          have v6' := v6.more (ex' := fun j => False ∨ j = μ 109 21 + 0) fun _ _ _ _ j _ _ z => Or.inl (z.elim (fun z => z.elim) fun z => Or.inr z.2)
          have p6 : ∀ c j, 129 ≤ c → c ≤ 133 → ν6 c j = ν5 c j := fun c j z1 z2 => f6 c j (by omega) (by omega) (by omega) (by omega)
          have v7 := v6'.link (ν' := ν7) (c := 132) (i := i) (ex := fun _ => False) (by omega) (fun b j z => by rw [e7, ab_mud, if_neg z]) (by rw [e7, ab_mud, if_pos ⟨rfl, rfl⟩]; exact g1) ⟨i0, i1⟩ w (by rw [g4, p6 132 i (by decide) (by decide)]) (Or.inr (Or.inr ⟨rfl, by rw [p6 129 i (by decide) (by decide)]; exact y3, g3⟩)) rfl (fun z => absurd (by rw [p6 129 i (by decide) (by decide)]; exact y3) z)
          exact hN _ _ (V.toE (k := 1) v7 x ek k59 (by decide) (by omega))
        · have : i ≠ 0 := fun z => by rw [z] at n3; exact n3 z3
          rw [show ab_w (i + -1) = i - 1 from ab_wi (by omega) (by omega)]
          exact ih _ (by omega) _ (i - 1) l0 rfl (by omega) (by omega) rfl
    have rne := hr.ne
    have r1 : (1 : Int) ≤ r.length := by
      cases r with
      | nil => exact absurd rfl rne
      | cons y t => simp; omega
    exact key _ _ (r.length - 1) rfl rfl (by omega) (by omega) rfl
  refine ⟨by omega, ⟨fun k26 => ?_, fun k27 => ?_, fun z => by omega, ret, fun k30 => ?_, trivial⟩, fun z => by omega⟩
  · have q1 : hP (e :: r) = 0 := by rw [hP_cons, if_neg (by omega), if_neg (by omega), if_neg (by omega), hr.h0]; rfl
    rw [q1] at v5
    refine c_V_step x.j.i v5 (fun w => by have := room w; omega) (by decide) (by decide) (h' := 0) (s1 := sP F r) (fun _ => rfl) (fun w Γ' x' Gk => ?_) fun ν6 r6 v6 f6 e6 => ?_
    · have O := x.O w
      have ent := O.x.ent
      rw [x.hs] at ent
      obtain ⟨t1, t2, t3⟩ := ent.1.f26 k26
      exact ⟨fun z => absurd z (by decide), fun z => absurd z (by decide), fun z => absurd z (by decide), fun z => absurd z (by decide), fun _ => ⟨t1, t2⟩, fun _ => v5.ok O (by decide) x' Gk t3, fun z => absurd z (by decide)⟩
    · have v6' := v6.more (ex' := fun _ => False) fun _ _ _ _ j _ _ z => z.elim (fun z => z.elim) fun z => absurd z.1 (by unfold tGo; decide)
      exact hN _ _ (V.toE (k := 1) v6' x ek k59 (by decide) (by omega))
  · have q1 : hP (e :: r) = 1 := by rw [hP_cons, if_neg (by omega), if_neg (by omega), if_pos k27, hr.h0]; rfl
    rw [q1] at v5
    refine c_V_step x.j.i v5 (fun w => by have := room w; omega) (by decide) (by decide) (h' := 0) (s1 := sP F r) (fun _ => rfl) (fun w Γ' x' Gk => ?_) fun ν6 r6 v6 f6 e6 => ?_
    · have ent := (x.O w).x.ent
      rw [x.hs] at ent
      exact ⟨fun _ => ent.1.f24 (Or.inr (Or.inr k27)), fun z => absurd z (by decide), fun z => absurd z (by decide), fun z => absurd z (by decide), fun z => absurd z (by decide), fun z => absurd z (by decide), fun z => absurd z (by decide)⟩
    · have v6' := v6.more (ex' := fun _ => False) fun _ _ _ _ j _ _ z => z.elim (fun z => z.elim) fun z => absurd z.1 (by unfold tGo; decide)
      exact hN _ _ (V.toE (k := 1) v6' x ek k59 (by decide) (by omega))
  · have q1 : hP (e :: r) = 0 := by rw [hP_cons, if_neg (by omega), if_neg (by omega), if_neg (by omega), hr.h0]; rfl
    rw [q1] at v5
    refine c_V_step x.j.i v5 (fun w => by have := room w; omega) (by decide) (by decide) (h' := 0) (s1 := sP F r) (fun _ => rfl) (fun _ _ _ _ => tVk_n (by decide)) fun ν6 r6 v6 f6 e6 => ?_
    have v6' := v6.more (ex' := fun _ => False) fun _ _ _ _ j _ _ z => z.elim (fun z => z.elim) fun z => absurd z.1 (by unfold tGo; decide)
    exact hN _ _ (V.toE (k := 1) v6' x ek k59 (by decide) (by omega))
end M59

/-! THE REFERENCE, part 60: UNTIL, endExpr, readBehind -/
section M60
variable {X : jm_X} {d : Nat} {P : Int → ab_m → Prop} {K : Int → Int} {W g : Int} {s0 : aS} {μ0 μ ν ν' : ab_m} {s s' : aS} {Γ Γ' : tQ} {F F' : Int → List Int} {dd : Int} {Ln : Int → Nat} {G : Int → List Int} {a m o : Int} {p r : List aE} {kp k wv hh n dn : Int} {ss : List Int} {ex pd : Int → Prop} {q : Int} {e e2 : aE}
theorem mem_head {l : List Int} {x : Int} (h : l.head? = some x) : x ∈ l := by
  cases l with
  | nil => cases h
  | cons y t => simp at h; rw [h]; exact List.mem_cons_self ..
set_option maxHeartbeats 1000000 in
theorem c_xE_22 {r2 : List aE} (x : xE K W g s0 μ0 μ s Γ F dd Ln G e (e2 :: r2)) (ek : e.1 = 22) (ek2 : e2.1 = 7) (hF : ∀ ν', rFt g μ0 ν' → P 0 ν') (hN : ∀ ν' s', J K W g s0 μ0 ν' s' ∧ aMs W s' < aMs W s → P 0 ν') : jj_mM_takeClose X (d + 3) 0 (ab_la [109, 41]) [] μ (fun r32 μ31 => (r32 = 0 → P 0 μ31) ∧ (r32 ≠ 0 → jj_mM_take X (d + 3) 0 (ab_la [109, 59]) [] μ31 (fun r35 μ34 => (r35 = 0 → P 0 μ34) ∧ (r35 ≠ 0 → ∀ μ37, μ37 = ab_mu μ34 109 38 (ab_w ((μ34 109 38) - 1)) → ((0 : Int) ≤ ab_w ((μ37 109 38) - 1) ∧ (ab_w ((μ37 109 38) - 1) : Int) < 3010) ∧ jj_mM_step X (d + 3) 0 (ab_la [109, 23, μ37 130 (ab_w ((μ37 109 38) - 1))]) [] μ37 (fun r39 μ38 => ((0 : Int) ≤ ab_w ((μ38 109 38) - 1) ∧ (ab_w ((μ38 109 38) - 1) : Int) < 3010) ∧ jj_mM_tellChain X (d + 3) 0 (ab_la [109, μ38 132 (ab_w ((μ38 109 38) - 1)), μ38 109 21]) [] μ38 (fun r42 μ41 => ∀ μ44, μ44 = ab_mu μ41 109 38 (ab_w ((μ41 109 38) - 1)) → ∀ μ45, μ45 = ab_mu μ44 109 41 (ab_w ((μ44 109 41) - 1)) → ∀ μ46, μ46 = ab_mu μ45 109 39 4 → P 0 μ46)))))) := by
  have at0 := x.j.at'
  have room := x.j.room x.O
  have g01 := x.j.i.g01
  obtain ⟨l1, l2, l3⟩ := x.len
  have hp := (x.j.i.w.m3 x.m).1
  rw [x.hs] at hp
  have hr := hp.st (by omega)
  have hr2 := hr.tail (by omega)
  have ll2 : ((e2 :: r2).length : Int) = r2.length + 1 := by simp
  have q1 : hP (e :: e2 :: r2) = 0 := by rw [hP_cons, if_neg (by omega), if_neg (by omega), if_neg (by omega), hr.h0]; rfl
  have q7 : sP F (e2 :: r2) = 5 :: sP F r2 := by
    rw [sP_cons, if_neg (by omega)]; unfold sO
    rw [if_neg (by omega), if_neg (by omega), if_pos ek2]; rfl
  have q2 : sP F (e :: e2 :: r2) = 6 :: sP F r2 := by rw [sP_cons, if_pos ek, q7]; rfl
  have q3 : qP (e :: e2 :: r2) = r2.length := by rw [qP_cons, if_pos ek, ll2]; omega
  have no6 : ¬ 6 ∈ sP F r2 := fun z => hr2.tl (sP6 z)
  refine c_V_takeClose2 x.j.i x.v (by omega) (fun k41 ν1 v1 f1 => ⟨fun w => absurd w (by decide), fun _ => ?_⟩) (fun ν1 f1 => ⟨fun _ => hF _ f1, fun w => absurd rfl w⟩)
  have lW := aK_lt x.j.i.kk at0.1 at0.2.2 k41 (by decide)
  have W3 := x.j.i.kk.2.1
  refine c_V_take2 x.j.i v1 (by omega) (fun k59 ν34 v34 f34 => ⟨fun w => absurd w (by decide), fun _ ν37 e37 => ?_⟩) (fun ν1 f1 => ⟨fun _ => hF _ f1, fun w => absurd rfl w⟩)
  have v37 := v34.pop0 e37 (by omega) (by omega)
  rw [q1, q2, q3] at v37
  have w37 : ab_w (ν37 109 38 - 1) = r2.length := by rw [v37.ln, ll2, ab_wi (by omega) (by omega)]; omega
  have b3 : (0 : Int) ≤ r2.length ∧ (r2.length : Int) < 3010 := by omega
  rw [w37]
  refine ⟨b3, ?_⟩
  refine c_V_step2 x.j.i v37 (fun w => by have := room w; omega) (by decide) (by decide) (h' := 0) (s1 := sP F r2) (fun _ => rfl) (fun _ _ _ _ => tVk_n (by decide)) fun ν38 r39 v38 f38 e38 => ?_
  have w38 : ab_w (ν38 109 38 - 1) = r2.length := by rw [v38.ln, ll2, ab_wi (by omega) (by omega)]; omega
  rw [w38]
  refine ⟨b3, ?_⟩
  have p38 : ∀ c j, 129 ≤ c → c ≤ 133 → ν38 c j = ν37 c j := fun c j z1 z2 => f38 c j (by omega) (by omega)
  have v38' := v38.more (ex' := fun _ => False) fun w Γ' x' Gk j _ _ z => Or.inr (by
    have z : j = μ 109 21 + 0 := z.elim (fun z => z.elim) fun z => z.2
    subst z
    have rm := room w
    obtain ⟨g1, g2, g3, g4⟩ := e38 w
    obtain ⟨⟨t1, t2, t3, t4, t5⟩, t6⟩ := x'.ent.1.f7 ek2
    have la := x1.last (n := μ 109 21 + 0) (by rw [show μ 109 21 + 0 + 1 = μ 109 21 + (0 + 1) by omega]; exact x') (by omega) g3 (by decide)
    have l0 : (if 1 ≤ Γ'.1 (μ 109 21 + 0) ∧ (Γ'.2.1 (μ 109 21 + 0)).head? = some 6 then some (Γ'.1 (μ 109 21 + 0) - 1, (Γ'.2.1 (μ 109 21 + 0)).tail) else none) = some ((0 : Int), sP F r2) := la.1
    have l4 : Γ'.1 (μ 109 21 + 0) = 1 ∧ 6 ∈ Γ'.2.1 (μ 109 21 + 0) := by
      split at l0
      · next h => injection l0 with l0; injection l0 with l0 _; exact ⟨by omega, mem_head h.2⟩
      · cases l0
    unfold tJ tJt
    rw [show (tEv ν38 g dd).1 (μ 109 21 + 0) = 23 from g3, show (tEv ν38 g dd).2.1 (μ 109 21 + 0) = ν38 130 r2.length by rw [p38 130 _ (by decide) (by decide)]; exact g4]
    refine ⟨t1, by omega, ?_, ?_, Or.inr (Or.inr ⟨rfl, l4.2, t6, t2⟩)⟩
    · rw [t5, la.2, show μ 109 21 + 0 + 1 = μ 109 21 + (0 + 1) by omega]
    · rw [t4, l4.1]; rfl)
  rw [show (0 : Int) + tPu 23 = 0 from rfl, show (0 : Int) + 1 = 1 from rfl] at v38'
  have nx : aNext K s = some ((4, s.2.1 + 1 + 1, s.2.2.1, r2), none) := by
    rw [x.nx, show s.2.1 + 1 + 1 = s.2.1 + 2 by omega]; simp [aEnd, ek, k41, k59]
  have sl : (sW Ln s.2.1.toNat : Int) ≤ sW Ln (s.2.1 + 1 + 1).toNat := sW_at at0.1 (by omega)
  have fin : ∀ ν51 ν52 ν53, ν52 = ab_mu ν51 109 41 (ab_w (ν51 109 41 - 1)) → ν53 = ab_mu ν52 109 39 4 → V g μ Γ dd ν51 (s.2.1 + 1 + 1) 3 s.2.2.1 r2 r2.length 1 0 0 (sP F r2) (fun _ => False) r2.length → P 0 ν53 := by
    intro ν51 ν52 ν53 e52 e53 v51
    have vq := v51.qch (q' := -1) (ex' := fun _ => False) (fun i _ i1 _ => by omega) (fun j z => z) (fun i i0 _ _ _ => Or.inl (by omega))
    have v53 := (vq.f1 e52 (Or.inl rfl)).fm e53
    refine hN _ _ (V.fin (s' := (4, s.2.1 + 1 + 1, s.2.2.1, r2)) (kp := r2.length) (k := 1) (wv := 0) (o := s.2.2.1) ?_ x.j x.O x.Z nx (fun z => absurd (show (4 : Int) = 3 from z) (by decide)) (by decide) (fun w => ?_) (fun w => ?_) (fun w => ?_) (by rw [x.hs]; exact ((bK_cons (List.cons_ne_nil _ _)).trans (bK_cons hr2.ne)).symm) hr2.ne)
    · rw [hQ_m (s := (4, s.2.1 + 1 + 1, s.2.2.1, r2)) (by show (4 : Int) ≠ 3; decide), sQ_m (s := (4, s.2.1 + 1 + 1, s.2.2.1, r2)) (by show (4 : Int) ≠ 3; decide)]
      show V _ _ _ _ _ (s.2.1 + 1 + 1) 4 _ r2 _ _ _ (hP r2) (sP F r2) _ (qP r2)
      rw [hr2.h0, hr2.qm]
      exact v53
    · show 1 + pEn r2 + (sW Ln s.2.1.toNat : Int) ≤ pEn s.2.2.2 + 2 * (s.2.1 + 1 + 1 - s.2.1) + (sW Ln (s.2.1 + 1 + 1).toNat : Int)
      rw [x.hs, pEn_cons, pEn_cons, if_neg (by omega), if_neg (by omega)]; omega
    · show 2 * 0 + pDo s.2.2.2 + 2 * (sW Ln s.2.1.toNat : Int) ≤ s.2.1 + 1 + 1 - s.2.1 + pDo r2 + 2 * (sW Ln (s.2.1 + 1 + 1).toNat : Int)
      rw [x.hs, pDo_cons, pDo_cons, if_neg (by omega), if_neg (by omega), if_pos ek2]; omega
    · have nb := (x.O w).nm.nb
      rw [x.hs] at nb
      unfold nB at nb
      rw [if_neg (by omega)] at nb
      unfold nB at nb
      rw [if_neg (by omega)] at nb
      exact v53.nb nb (Int.le_refl _)
  have w45 : ∀ ν48 : ab_m, ν48 109 38 = (e2 :: r2).length → ab_w (ν48 109 38 - 1) = r2.length := fun ν48 z => by rw [z, ll2, ab_wi (by omega) (by omega)]; omega
  rcases x.j.i.p01 with p0 | p1
  · refine c_mM_tellChain (L := []) (by rw [v38.h20]; exact g01) (fun z => by rw [v38.ps] at z; omega) (fun _ ν51 e51 ν52 e52 ν53 e53 => ?_) fun z => by rw [v38.ps] at z; omega
    rw [w45 ν38 v38.ln] at e51
    exact fin ν51 ν52 ν53 e52 e53 ((v38'.pop (kp' := r2.length) (fun c j z => by rw [e51, ab_mud, if_neg (by omega)]) (by rw [e51, ab_mud, if_pos ⟨rfl, rfl⟩]) (by omega)).zero (by omega))
  · have rm := room p1
    have O := x.O p1
    obtain ⟨Γa, xa, na, Ga, wa⟩ := v38'.one p1
    have k45 : ν38 129 r2.length = 7 := by rw [v38.ap.1.1]; exact ek2
    obtain ⟨L, mL, hL⟩ := xa.chn.lo r2.length (by omega) (by omega) (Or.inr k45)
    refine c_mM_tellChain (L := L) (by rw [v38.h20]; exact g01) (fun _ => by rw [v38.h20]; exact mL) (fun z => absurd (by rw [v38.ps]; exact p1) z) fun _ ν48 f48 t48 ν51 e51 ν52 e52 ν53 e53 => ?_
    rw [v38.h20] at f48 t48
    have fo : ∀ c j, c ≠ 116 → ν48 c j = ν38 c j := fun c j z => f48 c j fun y => z y.1
    rw [w45 ν48 (by rw [fo 109 38 (by decide)]; exact v38.ln)] at e51
    have vh := v38'.pop (ν' := ab_mu ν38 109 38 r2.length) (kp' := r2.length) (fun c j z => by rw [ab_mud, if_neg (by omega)]) (by rw [ab_mud, if_pos ⟨rfl, rfl⟩]) (by omega)
    have ex1 : ∀ y ∈ L, False ∨ pE ν38 g r2.length r2.length y := fun y hy => Or.inr (Or.inr (Or.inr (Or.inr (Or.inl ⟨Or.inr (Or.inl k45), L, mL, hy⟩))))
    have v51 := vh.chain (ν' := ν51) (L := L) (fun c j z => by
      rw [e51, ab_mud, ab_mud]
      split
      · rfl
      · exact f48 c j z) (fun y hy => ⟨ex1 y hy, by
          have := (hL y hy).1.2.2.1
          rw [ab_mud, if_neg (by omega), show ν38 115 (9000 * g + y) = 24 from this]
          unfold tGo; decide, (hL y hy).1.1, by have := (hL y hy).1.2.1; omega⟩) (fun i L' i0 i1 ca y hy hyL => by
          have ca : cA ν38 g r2.length i L' := by
            unfold cA at ca ⊢
            rw [ab_mud, if_neg (by omega), ab_mud, if_neg (by omega), ab_mud, if_neg (by omega)] at ca
            have mc : ∀ {L x}, mCh (ab_mu ν38 109 38 r2.length) g L x → mCh ν38 g L x := fun m => m.same fun y _ => by rw [ab_mud, if_neg (by omega)]
            rcases ca with ca | ca
            · exact Or.inl ⟨ca.1, mc ca.2⟩
            · exact Or.inr ⟨ca.1, ca.2.1, mc ca.2.2⟩
          by_cases k3 : ν38 129 i = 3
          · obtain ⟨L3, m3, h3⟩ := xa.chn.df i i0 (by omega) k3
            rcases ca with ca | ca
            · rw [ca.2.uniq m3] at hy
              have a1 := (h3 y hy).2.2.1
              have a2 := (hL y hyL).1.2.2.1
              rw [a1] at a2
              exact absurd a2 (by decide)
            · have := ca.2.1; omega
          · have b1 := xa.chn.cLt ⟨by omega, by omega⟩ (Or.inr (Or.inl k45)) i i0 i1 L' ca k3 y hy
            have b2 := (hL y hyL).2.1
            omega)
    refine fin ν51 ν52 ν53 e52 e53 (v51.more fun w Γ' x' Gk j j0 j1 z => Or.inr ?_)
    have z : pE ν38 g r2.length r2.length j := z.elim (fun z => z.elim) id
    have jL : j ∈ L := by
      unfold pE at z
      rw [k45] at z
      rcases z with z | z | z | ⟨-, L2, m2, h2⟩ | ⟨z, -⟩
      · omega
      · omega
      · omega
      · rw [m2.uniq mL] at h2; exact h2
      · exact absurd rfl z
    have hy := hL j jL
    have gaa : ∀ j, 0 ≤ j → j ≤ μ 109 21 → tQe Γa Γ' j := fun j j0 j1 => by
      obtain ⟨a1, a2, a3, a4, a5⟩ := Ga j j0 j1
      obtain ⟨b1, b2, b3, b4, b5⟩ := Gk j j0 j1
      exact ⟨b1.trans a1.symm, b2.trans a2.symm, b3.trans a3.symm, b4.trans a4.symm, b5.trans a5.symm⟩
    have gn := Ga _ rm.1 (Int.le_refl _)
    have lt : j < μ 109 21 := by
      have a1 := hy.1.2.1
      have a2 : ν38 115 (9000 * g + j) = 24 := hy.1.2.2.1
      have a3 : ν38 115 (9000 * g + (μ 109 21 + 0)) = 23 := (e38 p1).2.2.1
      by_cases ej : j = μ 109 21 + 0
      · rw [ej, a3] at a2; omega
      · omega
    have pjm : pj (tEv ν38 g dd) Γa (μ 109 21) j 24 0 := ⟨hy.1.1, lt, hy.1.2.2.1, hy.1.2.2.2.1, by
      rw [hy.1.2.2.2.2, xa.cr, gn.2.2.2.1, O.x.cr]⟩
    refine tJ_mk (μ := ν38) (t := μ 109 21 + 1) gaa pjm ?_ ?_ ⟨by omega, Int.le_refl _⟩ (by rw [x'.ch]; rfl) (by rw [x'.cr, gn.2.2.2.1, O.x.cr]) (fun z => absurd (by rw [x'.cs] at z; exact z) no6)
    · rw [e51, ab_mud, if_neg (by omega), fo 115 _ (by decide)]
    · rw [e51, ab_mud, if_neg (by omega), t48 j jL, na]
set_option maxHeartbeats 1000000 in
theorem c_rd_endExpr (x : xE K W g s0 μ0 μ s Γ F dd Ln G e r) (hF : ∀ ν', rFt g μ0 ν' → P 0 ν') (hN : ∀ ν' s', J K W g s0 μ0 ν' s' ∧ aMs W s' < aMs W s → P 0 ν') : jj_mM_endExpr X (d + 4) 0 (ab_la [109]) [] μ P := by
  have at0 := x.j.at'
  obtain ⟨l1, l2, l3⟩ := x.len
  have hp := (x.j.i.w.m3 x.m).1
  rw [x.hs] at hp
  have k0 := x.k0
  have k129 : μ 129 r.length = e.1 := x.v.ap.1.1
  have b3 : (0 : Int) ≤ r.length ∧ (r.length : Int) < 3010 := by omega
  have ks : e.1 = 23 ∨ e.1 = 24 ∨ e.1 = 28 ∨ e.1 = 20 ∨ e.1 = 21 ∨ (e.1 = 22 ∧ aTop r = 7) ∨ e.1 = 25 ∨ e.1 = 26 ∨ e.1 = 27 ∨ e.1 = 29 ∨ e.1 = 30 := by
    rcases hp with ⟨z, -⟩ | ⟨z, -⟩ <;> omega
  refine bk_mM_endExpr_0 rfl ?_
  rw [l3, k129, x.v.at', x.v.Kk x.j.i]
  refine ⟨b3, b3, b3, ⟨fun z => c_xE_20 x z hF hN, fun z => c_xE_21 x z hF hN, fun z => ?_, fun z => c_xE_23 x z hF hN, fun z => c_xE_24 x z hF hN, fun z => c_xE_25 x z hF hN, fun z => c_xE_st x (by omega) hF hN, fun z => c_xE_st x (by omega) hF hN, fun z => ⟨by omega, fun n44 => ⟨by omega, fun n41 => c_V_misfit x.j.i x.v (by omega) hF, fun y41 => ⟨b3, b3, fun ν1 e1 => c_xE_28e (P := fun _ μ => P 0 μ) x z y41 hF hN e1⟩⟩, fun y44 => ⟨b3, b3, fun ν1 e1 ν2 e2 ν3 e3 => c_xE_28c x z y44 hN e1 e2 e3⟩⟩, trivial⟩, fun z => c_xE_st x (by omega) hF hN⟩
  cases r with
  | nil => exfalso; have : aTop ([] : List aE) = 7 := by omega
           exact absurd this (by decide)
  | cons e2 r2 => exact c_xE_22 x z (by have : aTop (e2 :: r2) = 7 := by omega
                                        exact this) hF hN
end M60

/-! THE REFERENCE, part 61: readBehind -/
section M61
variable {X : jm_X} {d : Nat} {P : Int → ab_m → Prop} {K : Int → Int} {W g : Int} {s0 : aS} {μ0 μ ν ν' : ab_m} {s s' : aS}
theorem aMs_3 (h : s.1 = 3) : aMs W s = (W + 1 - s.2.1) * 4000 := by
  unfold aMs
  rw [if_neg (by omega), if_neg (by omega)]; omega
set_option maxHeartbeats 1000000 in
theorem c_rd_69 {l : ab_l} (l0 : l 0 = 109) (l1 : l 1 = K s.2.1) (l2 : l 2 = stOf (K s.2.1)) (hJ : J K W g s0 μ0 μ s) (hm : s.1 = 3) (h41 : aTop s.2.2.2 ≠ 41) (h40 : ∀ e r, s.2.2.2 = e :: r → e.1 = 40 → stOf (K s.2.1) ≠ 0 ∧ stOf e.2.1 < stOf (K s.2.1)) (hF : ∀ ν', rFt g μ0 ν' → P 0 ν') (hN : ∀ ν' s', J K W g s0 μ0 ν' s' ∧ aMs W s' < aMs W s → P 0 ν') : jj_mM_readBehind X (d + 5) 69 l [] μ P := by
  obtain ⟨Γ, F, dd, Ln, G, hO, hZ⟩ := hJ.get
  have at0 := hJ.at'
  have len := hJ.len
  have g01 := hJ.i.g01
  obtain ⟨hp, hd, op0, opa⟩ := hJ.i.w.m3 hm
  have ro : μ 109 46 = s.2.2.1 := hJ.i.r.2.2.1 hm
  have r4 : μ 109 38 = s.2.2.2.length := hJ.i.r.2.2.2.1
  have r2 : μ 109 40 = s.2.1 := hJ.i.r.2.1
  have nx0 := aNext_69 (K := K) hm h41 h40
  refine bk_mM_readBehind_69 l0 ?_
  rw [l1, l2, ro]
  refine ⟨fun ns => ?_, fun zs => ?_⟩
  · rw [if_neg ns] at nx0
    have fin230 : ∀ (l : ab_l) (ν : ab_m), l 0 = 109 → ν 109 40 = s.2.1 → (∀ ν6 ν7, ν6 = ab_mu ν 109 40 (s.2.1 + 1) → ν7 = ab_mu ν6 109 39 2 → P 0 ν7) → jj_mM_readBehind X (d + 5) 230 l [] ν P := by
      intro l ν l0 q40 h
      refine bk_mM_readBehind_230 l0 fun ν6 e6 ν7 e7 => h ν6 ν7 ?_ e7
      rw [e6, q40, show ab_w (s.2.1 + 1) = s.2.1 + 1 from ab_wi (by omega) (by omega)]
    by_cases n6 : K s.2.1 = 206 ∨ K s.2.1 = 207
    · have b01 : ∀ b, (K s.2.1 = 206 → b = 0) → (K s.2.1 = 207 → b = 1) → (b = 0 ∨ b = 1) ∧ aNext K s = some ((2, s.2.1 + 1, s.2.2.1, ⟨40, K s.2.1, s.2.2.1, 0⟩ :: s.2.2.2), some (s.2.2.1, b)) := fun b h6 h7 => by
        rw [nx0]
        rcases n6 with z | z
        · rw [if_pos z, h6 z]; exact ⟨Or.inl rfl, rfl⟩
        · rw [if_neg (by omega), if_pos z, h7 z]; exact ⟨Or.inr rfl, rfl⟩
      refine c_mM_push (by rw [r4]; omega) fun ν1 m1 => ?_
      have q21 : ν1 109 21 = μ 109 21 := m1.1 109 21 (by omega) (by omega)
      have q20 : ν1 109 20 = g := by rw [m1.1 109 20 (by omega) (by omega)]; exact hJ.i.hf
      have q22 : ν1 109 22 = μ 109 22 := m1.1 109 22 (by omega) (by omega)
      have q51 : ν1 109 51 = μ 109 51 := m1.1 109 51 (by omega) (by omega)
      have q46 : ν1 109 46 = s.2.2.1 := by rw [m1.1 109 46 (by omega) (by omega)]; exact ro
      have q40 : ν1 109 40 = s.2.1 := by rw [m1.1 109 40 (by omega) (by omega)]; exact r2
      have q38 : ab_w (ν1 109 38 - 1) = s.2.2.2.length := by rw [m1.2.1, r4, ab_wi (by omega) (by omega)]; omega
      have s103 : jj_mM_readBehind X (d + 5) 103 l [] ν1 P := by
        refine bk_mM_readBehind_103 l0 ?_
        rw [q22, l1, q51, q38]
        refine ⟨fun nz => ?_, fun z0 => ?_⟩
        · have w1 : μ 109 22 = 1 := by have := hJ.i.p01; omega
          have rm := hJ.room hO w1
          refine c_mM_step (by rw [q22]; exact w1) (by rw [q20]; exact g01) (by rw [q21]; omega) fun ν2 m2 => ⟨by omega, fun ν4 e4 => ?_⟩
          rw [q21] at e4
          have m2' := m2.1
          have f4 : ∀ j, j ≠ 21 → ν4 109 j = ν1 109 j := fun j z => by rw [e4, ab_mud, if_neg (by omega)]; exact m2' 109 j (by omega) (by omega)
          rw [f4 38 (by decide), q38, f4 20 (by decide), q20, show ν4 132 s.2.2.2.length = μ 109 21 by rw [e4, ab_mud, if_pos ⟨rfl, rfl⟩], show ab_w (9000 * g) = 9000 * g from ab_wi (by omega) (by omega), show ab_w (9000 * g + μ 109 21) = 9000 * g + μ 109 21 from ab_wi (by omega) (by omega)]
          refine ⟨by omega, fun n7 => ⟨by omega, fun ν5 e5 => ?_⟩, fun y7 => ⟨by omega, fun ν5 e5 => ?_⟩⟩
          · obtain ⟨b1, b2⟩ := b01 0 (fun _ => rfl) (fun z => absurd z n7)
            exact fin230 _ _ l0 (by rw [e5, ab_mud, if_neg (by omega), f4 40 (by decide)]; exact q40) fun ν6 ν7 e6 e7 => hN _ _ (hJ.and1 w1 (hO w1) hm n6 b1 b2 m1 m2 e4 e5 e6 e7)
          · obtain ⟨b1, b2⟩ := b01 1 (fun z => absurd (z.symm.trans y7) (by decide)) (fun _ => rfl)
            exact fin230 _ _ l0 (by rw [e5, ab_mud, if_neg (by omega), f4 40 (by decide)]; exact q40) fun ν6 ν7 e6 e7 => hN _ _ (hJ.and1 w1 (hO w1) hm n6 b1 b2 m1 m2 e4 e5 e6 e7)
        · have Z := hZ z0
          have zb := Z.bm
          have zb0 := Z.b0
          rw [if_pos hm] at zb
          have s130 : ∀ b, (b = 0 ∨ b = 1) → aNext K s = some ((2, s.2.1 + 1, s.2.2.1, ⟨40, K s.2.1, s.2.2.1, 0⟩ :: s.2.2.2), some (s.2.2.1, b)) → jj_mM_readBehind X (d + 5) 130 l [(0, b), (0, μ 109 51), (2, 137)] ν1 P := by
            intro b hb hn
            refine bk_mM_readBehind_130 l0 ⟨by omega, fun ν2 e2 => ?_⟩
            rw [show b % 2 = b by omega] at e2
            have g2 : ∀ j, ν2 109 j = ν1 109 j := fun j => by rw [e2, mu_ne (by decide)]
            rw [g2, g2, q46, q51]
            refine ⟨by omega, by omega, fun ν3 e3 => ?_⟩
            rw [show ν2 135 s.2.2.1 = μ 135 s.2.2.1 by rw [e2, mu_ne (by decide)]; exact m1.1 135 _ (by omega) (by omega)] at e3
            have g3 : ∀ j, ν3 109 j = ν1 109 j := fun j => by rw [e3, mu_ne (by decide)]; exact g2 j
            rw [g3, g3, q46, q51]
            refine ⟨by omega, fun ν4 e4 ν5 e5 => ?_⟩
            have g4 : ∀ j, ν4 109 j = ν1 109 j := fun j => by rw [e4, mu_ne (by decide)]; exact g3 j
            rw [g4, q51, show ab_w (μ 109 51 + 1) = μ 109 51 + 1 from ab_wi (by omega) (by omega)] at e5
            exact fin230 _ _ l0 (by rw [e5, ab_mud, if_neg (by omega), g4]; exact q40) fun ν6 ν7 e6 e7 => hN _ _ (hJ.and0 z0 Z hm hb hn m1 e2 e3 e4 e5 e6 e7)
          refine ⟨fun n7 => ?_, fun y7 => ?_⟩
          · obtain ⟨b1, b2⟩ := b01 0 (fun _ => rfl) (fun z => absurd z n7)
            exact s130 0 b1 b2
          · obtain ⟨b1, b2⟩ := b01 1 (fun z => absurd (z.symm.trans y7) (by decide)) (fun _ => rfl)
            exact s130 1 b1 b2
      exact ⟨fun _ => s103, fun _ => ⟨fun z => by omega, fun _ => s103⟩⟩
    · have nx : aNext K s = some ((2, s.2.1 + 1, s.2.2.1, ⟨40, K s.2.1, s.2.2.1, 0⟩ :: s.2.2.2), none) := by
        rw [nx0, if_neg (by omega), if_neg (by omega)]
      have v0 := hJ.v0 hO
      rw [hm] at v0
      refine c_V_push (e := ⟨40, K s.2.1, s.2.2.1, 0⟩) (ex' := fun _ => False) hJ.i v0 (by omega) (Int.le_refl _) (fun ν' m' => aM_40 (m'.kd v0.ln)) (fun w ν' Γ' m' x G' => ⟨eF_40 rfl (fun z => absurd z n6), fun z => absurd z (by show ¬ ((40 : Int) = 6 ∨ (40 : Int) = 7 ∨ (40 : Int) = 21); decide), fun j z => z.elim⟩) fun ν1 v1 _ => ?_
      have go : jj_mM_readBehind X (d + 5) 230 l [] ν1 P := fin230 l ν1 l0 v1.at' fun ν6 ν7 e6 e7 => hN _ _ (V.to2 ((v1.fa e6).fm e7) hJ hO hZ hm (by omega) nx)
      exact ⟨fun z => absurd (Or.inl z) n6, fun _ => ⟨fun _ => go, fun z => absurd (Or.inr z) n6⟩⟩
  · cases hs : s.2.2.2 with
    | nil => rw [hs] at hp; exact hp.elim
    | cons e r =>
      rw [hs] at h41
      exact c_rd_endExpr (P := fun _ μ => P 0 μ) (xE.mk' hJ hO hZ hm hs h41 (fun z => (h40 e r hs z).1 zs) zs) hF hN
theorem c_rd_31 : ∀ (n : Nat) {l : ab_l} {μ : ab_m} {s : aS}, s.2.2.2.length = n → l 0 = 109 → l 1 = K s.2.1 → l 2 = stOf (K s.2.1) → J K W g s0 μ0 μ s → s.1 = 3 → aTop s.2.2.2 ≠ 41 → (∀ ν', rFt g μ0 ν' → P 0 ν') → (∀ ν' s', J K W g s0 μ0 ν' s' ∧ aMs W s' < (W + 1 - s.2.1) * 4000 → P 0 ν') → jj_mM_readBehind X (d + 5) 31 l [] μ P := by
  intro n
  induction n using Nat.strongRecOn with
  | ind n ih =>
    intro l μ s hn l0 l1 l2 hJ hm h41 hF hN
    have at0 := hJ.at'
    have len := hJ.len
    have hp := (hJ.i.w.m3 hm).1
    have r4 : μ 109 38 = s.2.2.2.length := hJ.i.r.2.2.2.1
    have hN' : ∀ ν' s', J K W g s0 μ0 ν' s' ∧ aMs W s' < aMs W s → P 0 ν' := by rw [aMs_3 hm]; exact hN
    cases hs : s.2.2.2 with
    | nil => rw [hs] at hp; exact hp.elim
    | cons e r =>
      rw [hs] at hp len r4 h41
      have ll : ((e :: r).length : Int) = r.length + 1 := by simp
      have e41 : e.1 ≠ 41 := h41
      have k129 : μ 129 r.length = e.1 := by have := hJ.i.r.2.2.2.2; rw [hs] at this; exact this.1.1
      have red : ∀ {l : ab_l}, l 0 = 109 → l 1 = K s.2.1 → l 2 = stOf (K s.2.1) → e.1 = 40 → (stOf (K s.2.1) = 0 ∨ stOf (K s.2.1) ≤ stOf e.2.1) → jj_mM_reduce X (d + 4) 0 (ab_la [109]) [] μ (fun _ μ4 => jj_mM_readBehind X (d + 5) 31 l [] μ4 P) := by
        intro l l0 l1 l2 k40 hst
        have ht : aTop r ≠ 41 := by
          rcases hp with ⟨-, z, -, -⟩ | ⟨z, -, -⟩
          · exact (z k40).1
          · omega
        exact c_rd_reduce hJ hm hs (Or.inl k40) (aNext_two hm hs k40 ht hst) fun ν' J' => ih r.length (by rw [← hn, hs]; simp) (s := (s.1, s.2.1, e.2.2.1, r)) rfl l0 l1 l2 J' hm ht hF hN
      refine bk_mM_readBehind_31 l0 (c_mM_top (by omega) ?_)
      rw [r4, ll, show (r.length : Int) + 1 - 1 = r.length by omega, k129]
      refine ⟨fun n40 => c_rd_69 l0 l1 l2 hJ hm (by rw [hs]; exact h41) (fun x y hx hk => by rw [hs] at hx; injection hx with hx; rw [← hx] at hk; exact absurd hk n40) hF hN', fun y40 => ?_⟩
      rw [l2]
      refine ⟨fun z => red l0 l1 l2 y40 (Or.inl z), fun nz => ?_⟩
      rw [show ab_w (r.length : Int) = r.length from ab_wi (by omega) (by omega)]
      have k130 : μ 130 r.length = e.2.1 := by have := hJ.i.r.2.2.2.2; rw [hs] at this; exact (this.1.2.1 y40).1
      rw [k130]
      refine ⟨by omega, c_mM_strength ⟨fun lt => ?_, fun ge => red l0 l1 l2 y40 (Or.inr ge)⟩⟩
      exact c_rd_69 l0 l1 l2 hJ hm (by rw [hs]; exact h41) (fun x y hx hk => by rw [hs] at hx; injection hx with hx; rw [← hx]; exact ⟨nz, lt⟩) hF hN'
theorem c_rd_0 : ∀ (n : Nat) {l : ab_l} {μ : ab_m} {s : aS}, s.2.2.2.length = n → l 0 = 109 → J K W g s0 μ0 μ s → s.1 = 3 → (∀ ν', rFt g μ0 ν' → P 0 ν') → (∀ ν' s', J K W g s0 μ0 ν' s' ∧ aMs W s' < (W + 1 - s.2.1) * 4000 → P 0 ν') → jj_mM_readBehind X (d + 5) 0 l [] μ P := by
  intro n
  induction n using Nat.strongRecOn with
  | ind n ih =>
    intro l μ s hn l0 hJ hm hF hN
    have at0 := hJ.at'
    have len := hJ.len
    have hp := (hJ.i.w.m3 hm).1
    have r4 : μ 109 38 = s.2.2.2.length := hJ.i.r.2.2.2.1
    cases hs : s.2.2.2 with
    | nil => rw [hs] at hp; exact hp.elim
    | cons e r =>
      rw [hs] at hp len r4
      have ll : ((e :: r).length : Int) = r.length + 1 := by simp
      have k129 : μ 129 r.length = e.1 := by have := hJ.i.r.2.2.2.2; rw [hs] at this; exact this.1.1
      refine bk_mM_readBehind_0 l0 (c_mM_top (by omega) ?_)
      rw [r4, ll, show (r.length : Int) + 1 - 1 = r.length by omega, k129, hJ.i.r.2.1, hJ.i.K]
      refine ⟨fun n41 => ⟨by omega, c_mM_strength ?_⟩, fun y41 => ?_⟩
      · exact c_rd_31 _ rfl l0 rfl rfl hJ hm (by rw [hs]; exact n41) hF hN
      · exact c_rd_reduce hJ hm hs (Or.inr y41) (aNext_one hm hs y41) fun ν' J' => ih r.length (by rw [← hn, hs]; simp) (s := (s.1, s.2.1, e.2.2.1, r)) rfl l0 J' hm hF hN
theorem c_rd_readBehind (hJ : J K W g s0 μ0 μ s) (hm : s.1 = 3) (hF : ∀ ν', rFt g μ0 ν' → P 0 ν') (hN : ∀ ν' s', J K W g s0 μ0 ν' s' ∧ aMs W s' < aMs W s → P 0 ν') : jj_mM_readBehind X (d + 5) 0 (ab_la [109]) [] μ P := by
  rw [aMs_3 hm] at hN
  exact c_rd_0 _ rfl rfl hJ hm hF hN
end M61

/-! THE REFERENCE, part 62: the end of a def, the end of the program -/
section M62
variable {X : jm_X} {d : Nat} {P : Int → ab_m → Prop} {K : Int → Int} {W g : Int} {s0 : aS} {μ0 μ ν μ' : ab_m} {s s' : aS} {Γ Γ' : tQ} {F F' : Int → List Int} {dd : Int} {Ln : Int → Nat} {G : Int → List Int} {n dn : Int} {pd : Int → Prop} {e : aE}
end M62
/-- well-made text of half g -/
def tW (μ : ab_m) (g : Int) (Γ : tQ) (N dn : Int) : Prop := (0 < N ∧ N ≤ 9000) ∧ (∀ k, 0 ≤ k → k < N → tK (tEv μ g dn) Γ k ∧ (tGo (μ 115 (9000 * g + k)) → tJ (tEv μ g dn) Γ (N - 1) k)) ∧ (tB Γ) ∧ (μ 115 (9000 * g + (N - 1)) = 30) ∧ (∀ k, 0 ≤ k → k < N - 1 → μ 115 (9000 * g + k) ≠ 30) ∧ (0 ≤ μ 124 g ∧ μ 124 g < N ∧ Γ.2.2.2.1 (μ 124 g) = dn ∧ Γ.1 (μ 124 g) = 0 ∧ Γ.2.1 (μ 124 g) = [] ∧ Γ.2.2.2.2 (μ 124 g) = μ 124 g) ∧ (∀ x, 0 ≤ x → x < dn → 0 ≤ μ 118 (16 * g + x) ∧ μ 118 (16 * g + x) < N ∧ Γ.2.2.2.1 (μ 118 (16 * g + x)) = x ∧ Γ.1 (μ 118 (16 * g + x)) = 0 ∧ Γ.2.1 (μ 118 (16 * g + x)) = [] ∧ Γ.2.2.2.2 (μ 118 (16 * g + x)) = μ 118 (16 * g + x) ∧ 0 ≤ μ 120 (16 * g + x) ∧ μ 120 (16 * g + x) ≤ 6 ∧ 0 ≤ μ 119 (16 * g + x) ∧ μ 119 (16 * g + x) + μ 120 (16 * g + x) ≤ 3002) ∧ (0 ≤ dn ∧ dn ≤ 15) ∧ (Γ.2.2.2.1 (N - 1) = dn) ∧ (Γ.2.2.1 (N - 1) ≤ 3000) ∧ (0 ≤ μ 123 g ∧ μ 123 g ≤ 3000) ∧ (∀ x, (tEv μ g dn).2.2.2.2.1 x → 0 ≤ x ∧ x < 3002)
theorem tW.n0 {μ : ab_m} {g : Int} {Γ : tQ} {N dn : Int} (h'' : tW μ g Γ N dn) : 0 < N ∧ N ≤ 9000 := h''.1
theorem tW.k {μ : ab_m} {g : Int} {Γ : tQ} {N dn : Int} (h'' : tW μ g Γ N dn) : ∀ k, 0 ≤ k → k < N → tK (tEv μ g dn) Γ k ∧ (tGo (μ 115 (9000 * g + k)) → tJ (tEv μ g dn) Γ (N - 1) k) := h''.2.1
theorem tW.base {μ : ab_m} {g : Int} {Γ : tQ} {N dn : Int} (h'' : tW μ g Γ N dn) : tB Γ := h''.2.2.1
theorem tW.st {μ : ab_m} {g : Int} {Γ : tQ} {N dn : Int} (h'' : tW μ g Γ N dn) : μ 115 (9000 * g + (N - 1)) = 30 := h''.2.2.2.1
theorem tW.ns {μ : ab_m} {g : Int} {Γ : tQ} {N dn : Int} (h'' : tW μ g Γ N dn) : ∀ k, 0 ≤ k → k < N - 1 → μ 115 (9000 * g + k) ≠ 30 := h''.2.2.2.2.1
theorem tW.b {μ : ab_m} {g : Int} {Γ : tQ} {N dn : Int} (h'' : tW μ g Γ N dn) : 0 ≤ μ 124 g ∧ μ 124 g < N ∧ Γ.2.2.2.1 (μ 124 g) = dn ∧ Γ.1 (μ 124 g) = 0 ∧ Γ.2.1 (μ 124 g) = [] ∧ Γ.2.2.2.2 (μ 124 g) = μ 124 g := h''.2.2.2.2.2.1
theorem tW.d {μ : ab_m} {g : Int} {Γ : tQ} {N dn : Int} (h'' : tW μ g Γ N dn) : ∀ x, 0 ≤ x → x < dn → 0 ≤ μ 118 (16 * g + x) ∧ μ 118 (16 * g + x) < N ∧ Γ.2.2.2.1 (μ 118 (16 * g + x)) = x ∧ Γ.1 (μ 118 (16 * g + x)) = 0 ∧ Γ.2.1 (μ 118 (16 * g + x)) = [] ∧ Γ.2.2.2.2 (μ 118 (16 * g + x)) = μ 118 (16 * g + x) ∧ 0 ≤ μ 120 (16 * g + x) ∧ μ 120 (16 * g + x) ≤ 6 ∧ 0 ≤ μ 119 (16 * g + x) ∧ μ 119 (16 * g + x) + μ 120 (16 * g + x) ≤ 3002 := h''.2.2.2.2.2.2.1
theorem tW.d15 {μ : ab_m} {g : Int} {Γ : tQ} {N dn : Int} (h'' : tW μ g Γ N dn) : 0 ≤ dn ∧ dn ≤ 15 := h''.2.2.2.2.2.2.2.1
theorem tW.rN {μ : ab_m} {g : Int} {Γ : tQ} {N dn : Int} (h'' : tW μ g Γ N dn) : Γ.2.2.2.1 (N - 1) = dn := h''.2.2.2.2.2.2.2.2.1
theorem tW.w {μ : ab_m} {g : Int} {Γ : tQ} {N dn : Int} (h'' : tW μ g Γ N dn) : Γ.2.2.1 (N - 1) ≤ 3000 := h''.2.2.2.2.2.2.2.2.2.1
theorem tW.dm {μ : ab_m} {g : Int} {Γ : tQ} {N dn : Int} (h'' : tW μ g Γ N dn) : 0 ≤ μ 123 g ∧ μ 123 g ≤ 3000 := h''.2.2.2.2.2.2.2.2.2.2.1
theorem tW.D {μ : ab_m} {g : Int} {Γ : tQ} {N dn : Int} (h'' : tW μ g Γ N dn) : ∀ x, (tEv μ g dn).2.2.2.2.1 x → 0 ≤ x ∧ x < 3002 := h''.2.2.2.2.2.2.2.2.2.2.2
section M62
variable {X : jm_X} {d : Nat} {P : Int → ab_m → Prop} {K : Int → Int} {W g : Int} {s0 : aS} {μ0 μ ν μ' : ab_m} {s s' : aS} {Γ Γ' : tQ} {F F' : Int → List Int} {dd : Int} {Ln : Int → Nat} {G : Int → List Int} {n dn : Int} {pd : Int → Prop} {e : aE}
end M62
/-- a pass has come to its end without a fault -/
def rEd (K : Int → Int) (W g : Int) (s0 : aS) (μ0 μ : ab_m) : Prop := (fRd g μ0 μ) ∧ (μ 109 39 = 5) ∧ (μ 109 43 = 0) ∧ (∀ j, 0 ≤ j → j < 16 → 0 ≤ μ 121 j ∧ μ 121 j ≤ 100) ∧ (μ 109 22 = 0 → ∃ G s, rZ K W s0 μ s G ∧ aRest K s0 G ∧ s.2.1 ≤ W) ∧ (μ 109 22 = 1 → ∃ Γ N dn, tW μ g Γ N dn)
theorem rEd.fr {K : Int → Int} {W g : Int} {s0 : aS} {μ0 μ : ab_m} (h'' : rEd K W g s0 μ0 μ) : fRd g μ0 μ := h''.1
theorem rEd.m5 {K : Int → Int} {W g : Int} {s0 : aS} {μ0 μ : ab_m} (h'' : rEd K W g s0 μ0 μ) : μ 109 39 = 5 := h''.2.1
theorem rEd.ft {K : Int → Int} {W g : Int} {s0 : aS} {μ0 μ : ab_m} (h'' : rEd K W g s0 μ0 μ) : μ 109 43 = 0 := h''.2.2.1
theorem rEd.rs {K : Int → Int} {W g : Int} {s0 : aS} {μ0 μ : ab_m} (h'' : rEd K W g s0 μ0 μ) : ∀ j, 0 ≤ j → j < 16 → 0 ≤ μ 121 j ∧ μ 121 j ≤ 100 := h''.2.2.2.1
theorem rEd.z {K : Int → Int} {W g : Int} {s0 : aS} {μ0 μ : ab_m} (h'' : rEd K W g s0 μ0 μ) : μ 109 22 = 0 → ∃ G s, rZ K W s0 μ s G ∧ aRest K s0 G ∧ s.2.1 ≤ W := h''.2.2.2.2.1
theorem rEd.o {K : Int → Int} {W g : Int} {s0 : aS} {μ0 μ : ab_m} (h'' : rEd K W g s0 μ0 μ) : μ 109 22 = 1 → ∃ Γ N dn, tW μ g Γ N dn := h''.2.2.2.2.2
section M62
variable {X : jm_X} {d : Nat} {P : Int → ab_m → Prop} {K : Int → Int} {W g : Int} {s0 : aS} {μ0 μ ν μ' : ab_m} {s s' : aS} {Γ Γ' : tQ} {F F' : Int → List Int} {dd : Int} {Ln : Int → Nat} {G : Int → List Int} {n dn : Int} {pd : Int → Prop} {e : aE}
theorem c_rd_stop (hJ : J K W g s0 μ0 μ s) (hm : s.1 = 1) (hk : K s.2.1 = 0) (ht : aTop s.2.2.2 = 1) (hE : ∀ ν', rEd K W g s0 μ0 ν' → P 0 ν') : jj_mM_step X d 0 (ab_la [109, 30, 0]) [] μ (fun r5 μ4 => ∀ μ7, μ7 = ab_mu μ4 109 39 5 → P 0 μ7) := by
  obtain ⟨Γ, F, dd, Ln, G, hO, hZ⟩ := hJ.get
  have hp := hJ.i.w.m1 (Or.inl hm)
  have room := hJ.room hO
  have at0 := hJ.at'
  have W3 := hJ.i.kk.2.1
  cases hs : s.2.2.2 with
  | nil => rw [hs] at hp; exact hp.elim
  | cons e r =>
    rw [hs] at hp ht
    have ek : e.1 = 1 := ht
    have hr : r = [] := by
      rcases hp with ⟨-, z⟩ | ⟨z, -⟩
      · exact z
      · omega
    subst hr
    rcases hJ.i.p01 with p0 | p1
    · refine c_mM_step0 p0 fun ν e7 => hE ν ⟨hJ.i.fr.trans fun c j z => ?_, by rw [e7, ab_mud, if_pos ⟨rfl, rfl⟩], by rw [e7, ab_mud, if_neg (by omega)]; exact hJ.i.ft, fun j a b => by rw [e7, ab_mud, if_neg (by omega)]; exact hJ.i.rs j a b, fun _ => ?_, fun z => by rw [e7, ab_mud, if_neg (by omega)] at z; omega⟩
      · rw [e7, ab_mud, if_neg (fun y => z (by unfold rdW; omega))]
      · have Z := hZ p0
        have f : ∀ c j, ¬ (c = 109 ∧ j = 39) → ν c j = μ c j := fun c j z => by rw [e7, ab_mud, if_neg z]
        have e51 := f 109 51 (by omega)
        refine ⟨G, s, ⟨Z.acc, fun w a b => ?_, fun w b hb h2 => by rw [f 134 w (by omega)]; exact Z.xc w b hb h2, Z.nw, Z.np, by rw [e51]; exact Z.b0, by rw [e51]; exact Z.bm, by rw [e51]; exact Z.sm⟩, ?_, at0.2.2⟩
        · rw [e51, f 135 w (by omega)]
          exact (Z.tb w a b).same (Int.le_refl _) fun c j hc _ => f c j (by omega)
        · have := Z.acc _ (aRest.stop hm hk (by rw [hs]; exact ht))
          refine Eq.mp (congrArg (aRest K s0) (funext fun w => ?_)) this
          simp
    · have O := hO p1
      have rm := room p1
      refine c_mM_step p1 (by rw [hJ.i.hf]; exact hJ.i.g01) (by omega) fun ν4 m4 ν e7 => ?_
      have sx : xS μ ν4 g (μ 109 21) 0 := m4.xS hJ.i.hf rfl
      obtain ⟨m1, m2, m3, m4', m5⟩ := m4
      rw [hJ.i.hf] at m1 m3 m4'
      have f : ∀ c j, ¬ (c = 109 ∧ (j = 39 ∨ j = 21)) → ¬ (115 ≤ c ∧ c ≤ 117 ∧ j = 9000 * g + μ 109 21) → ν c j = μ c j := fun c j z1 z2 => by rw [e7, ab_mud, if_neg (by omega)]; exact m1 c j z2 (by omega)
      have X0 := O.x
      rw [hs, hQ_m (by omega), sQ_m (by omega), hs, hp.h0, hp.qm] at X0
      have ss0 : sP F [e] = [] := by rw [sP_cons, if_neg (by omega)]; unfold sO; rw [if_neg (by omega), if_neg (by omega), if_neg (by omega), if_neg (by omega), if_neg (by omega), if_neg (by omega)]; rfl
      rw [ss0] at X0
      have b3 := O.b3.2 (by rw [hs]; show e.1 ≠ 3; omega)
      have b1 := O.b1 (by rw [hs]; exact ek)
      have dnb := O.nm.dn
      rw [b3] at X0
      have nS : ν 115 (9000 * g + μ 109 21) = 30 := by rw [e7, ab_mud, if_neg (by omega)]; exact m3
      have fS : ∀ j, 0 ≤ j → j < μ 109 21 → ν 115 (9000 * g + j) = μ 115 (9000 * g + j) := fun j _ _ => f 115 _ (by omega) (by omega)
      have fT : ∀ j, 0 ≤ j → j < μ 109 21 → ν 116 (9000 * g + j) = μ 116 (9000 * g + j) := fun j _ _ => f 116 _ (by omega) (by omega)
      have G0 : ∀ j, 0 ≤ j → j ≤ μ 109 21 → tQe Γ Γ j := fun _ _ _ => ⟨rfl, rfl, rfl, rfl, rfl⟩
      have tx : tX (tEv μ g (μ 109 32)) (tEv ν g (μ 109 32)) Γ Γ (μ 109 21) := ⟨fS, fun j a b _ => fT j a b, G0, Int.le_refl _, fun y _ _ => ⟨f 120 _ (by omega) (by omega), f 119 _ (by omega) (by omega)⟩, dD (f 123 g (by omega) (by omega)) fun j => f 122 j (by omega) (by omega)⟩
      have k129 : μ 129 0 = 1 := by have := hJ.i.r.2.2.2.2; rw [hs] at this; rw [← ek]; exact this.1.1
      have bw := O.bw
      rw [hs, pDo_cons, if_neg (by omega), if_neg (by omega)] at bw
      have bw0 : pDo ([] : List aE) = 0 := rfl
      have tot := O.tot
      have sl : sW Ln s.2.1.toNat ≤ sW Ln (W + 1).toNat := sW_mono (by omega)
      refine hE ν ⟨hJ.i.fr.trans fun c j z => f c j (fun y => z (by unfold rdW; omega)) (fun y => z (by unfold rdW; omega)), by rw [e7, ab_mud, if_pos ⟨rfl, rfl⟩], by rw [f 109 43 (by omega) (by omega)]; exact hJ.i.ft, fun j a b => by rw [f 121 j (by omega) (by omega)]; exact hJ.i.rs j a b, fun z => by rw [f 109 22 (by omega) (by omega)] at z; omega, fun _ => ⟨Γ, μ 109 21 + 1, μ 109 32, ⟨by omega, fun k k0 k1 => ?_, X0.base, by rw [show μ 109 21 + 1 - 1 = μ 109 21 by omega]; exact nS, fun k k0 k1 => ?_, ?_, fun x x0 x1 => ?_, dnb, by rw [show μ 109 21 + 1 - 1 = μ 109 21 by omega]; exact X0.cr, ?_, ?_, fun y hy => ?_⟩⟩⟩
      · rw [show μ 109 21 + 1 - 1 = μ 109 21 by omega]
        by_cases ek : k = μ 109 21
        · subst ek
          refine ⟨⟨Or.inr (Or.inl ⟨nS, X0.ch, X0.cs⟩), ?_⟩, fun go => ?_⟩
          · rw [show (tEv ν g (μ 109 32)).1 (μ 109 21) = 30 from nS]
            exact tVk_n (by decide)
          · rw [nS] at go; exact absurd go (by unfold tGo; decide)
        · obtain ⟨h1, h2⟩ := X0.flat k k0 (by omega)
          refine ⟨tx.k ⟨k0, by omega⟩ (X0.tr k0 (by omega)).r0 h1, fun go => ?_⟩
          rw [fS k k0 (by omega)] at go
          rcases h2 go with h3 | h3
          · exfalso
            obtain ⟨i, i0, i1, pe⟩ := h3
            have : i = 0 := by simp at i1; omega
            subst this
            unfold pE at pe
            rw [k129] at pe
            rcases pe with z | z | z | ⟨z, -⟩ | ⟨-, z, -⟩ <;> omega
          · unfold tJ
            rw [show (tEv ν g (μ 109 32)).1 k = (tEv μ g (μ 109 32)).1 k from fS k k0 (by omega), show (tEv ν g (μ 109 32)).2.1 k = (tEv μ g (μ 109 32)).2.1 k from fT k k0 (by omega)]
            exact tx.jt (Int.le_refl _) ⟨k0, by omega⟩ h3
      · rw [fS k k0 (by omega)]; exact X0.ns k k0 (by omega)
      · rw [f 124 g (by omega) (by omega)]
        exact ⟨b1.1, by omega, b1.2.2.1, b1.2.2.2⟩
      · rw [f 118 _ (by omega) (by omega), f 119 _ (by omega) (by omega), f 120 _ (by omega) (by omega)]
        obtain ⟨d1, d2, d3⟩ := X0.defs x x0 x1
        exact ⟨d1, by omega, d3⟩
      · rw [show μ 109 21 + 1 - 1 = μ 109 21 by omega]; omega
      · rw [f 123 g (by omega) (by omega)]; have := O.nm.dm; omega
      · have it := O.nm.it
        have := O.nm.dc y (dD (dd := dd) (f 123 g (by omega) (by omega)).symm (fun j => (f 122 j (by omega) (by omega)).symm) y hy)
        omega
/-- DEF_END is laid -/
theorem x1.defEnd (h : x1 μ g Γ dd [] n 0 [] dn (fun _ => False) (-1)) (m : mSp μ μ' 29 0 0) (hg : μ 109 20 = g) (hn : μ 109 21 = n) (hd : dd = dn + 1) : ∃ Γ', x1 μ' g Γ' dd [] (n + 1) 0 [] (dn + 1) (fun _ => False) (-1) ∧ Γ'.2.2.1 (n + 1) = Γ.2.2.1 n ∧ Γ'.2.2.2.2 (n + 1) = n + 1 ∧ (∀ j, 0 ≤ j → j ≤ n → tQe Γ Γ' j) := by
  have f : xS μ μ' g n 0 := m.xS hg hn
  obtain ⟨m1, m2, m3, m4, m5⟩ := m
  rw [hg, hn] at m3 m4
  have G : ∀ j, 0 ≤ j → j ≤ n → tQe Γ (tUp Γ (n + 1) 0 [] (Γ.2.2.1 n) (dn + 1) (n + 1)) j := tUp_G
  obtain ⟨u1, u2, u3, u4, u5⟩ := @tUp_e Γ (n + 1) 0 (Γ.2.2.1 n) (dn + 1) (n + 1) []
  generalize tUp Γ (n + 1) 0 [] (Γ.2.2.1 n) (dn + 1) (n + 1) = Γ' at *
  have x := f.x (dd := dd) G
  have n0 := h.n0
  have e0 := G 0 (Int.le_refl _) n0
  refine ⟨Γ', ⟨by omega, fun j a b => ?_, u1, u2, u4, ?_, fun j a b => ?_, trivial, trivial, ⟨fun i a b => by simp at b; omega, fun i a b => by simp at b; omega, fun i a b => by simp at b; omega⟩, fun y a b => ?_, Or.inl (by omega)⟩, u3, u5, G⟩
  · by_cases e : j = n
    · subst e
      obtain ⟨g1, g2, g3, g4, g5⟩ := G j n0 (Int.le_refl _)
      refine ⟨⟨Or.inl ⟨m3, by rw [g1]; exact h.ch, by rw [g2]; exact h.cs, u1, u2, by rw [u3, g3], by rw [u4, g4, h.cr], u5⟩, ?_⟩, fun go => ?_⟩
      · rw [show (tEv μ' g dd).1 j = 29 from m3]; exact tVk_n (by decide)
      · rw [show (tEv μ' g dd).1 j = 29 from m3] at go; exact absurd go (by unfold tGo; decide)
    · obtain ⟨h1, h2⟩ := h.flat j a (by omega)
      refine ⟨x.k ⟨a, by omega⟩ (h.tr a (by omega)).r0 h1, fun go => ?_⟩
      have eS : (tEv μ' g dd).1 j = (tEv μ g dd).1 j := f.S j a (by omega)
      rw [eS] at go
      rcases h2 go with h3 | h3
      · exact h3.elim
      · refine Or.inr ?_
        unfold tJ
        rw [eS, show (tEv μ' g dd).2.1 j = (tEv μ g dd).2.1 j from f.T j a (by omega)]
        exact x.jt (by omega) ⟨a, by omega⟩ h3
  · obtain ⟨b1, b2, b3, b4, b5⟩ := h.base
    obtain ⟨e1, e2, e3, e4, e5⟩ := e0
    exact ⟨by rw [e1, b1], by rw [e2, b2], by rw [e3, b3], by rw [e4, b4], by rw [e5, b5]⟩
  · by_cases e : j = n
    · subst e; rw [m3]; decide
    · rw [f.S j a (by omega)]; exact h.ns j a (by omega)
  · rw [f.d 118 _ (by omega), f.d 119 _ (by omega), f.d 120 _ (by omega)]
    obtain ⟨d1, d2, d3, d4, d5, d6, d7⟩ := h.defs y a b
    obtain ⟨g1, g2, g3, g4, g5⟩ := G _ d1 d2
    exact ⟨d1, by omega, by rw [g4]; exact d3, by rw [g1]; exact d4, by rw [g2]; exact d5, by rw [g5]; exact d6, d7⟩
end M62

