/-! THE ABSTRACT MACHINE, part 9: longs compared, arrays copied -/
theorem ab_ltL {x y : Int} (hx : ab_rg 1 x) (hy : ab_rg 1 y) : Int64.ofInt x < Int64.ofInt y ↔ x < y := by rw [Int64.lt_iff_toInt_lt, ab_toIntL hx, ab_toIntL hy]
theorem ab_eqL {x y : Int} (hx : ab_rg 1 x) (hy : ab_rg 1 y) : Int64.ofInt x = Int64.ofInt y ↔ x = y := by rw [← Int64.toInt_inj, ab_toIntL hx, ab_toIntL hy]
theorem ab_lcmp_eq {x y : Int} (hx : ab_rg 1 x) (hy : ab_rg 1 y) : ab_lcmp x y = if x < y then -1 else if x = y then 0 else 1 := by
  unfold ab_lcmp lg_cmp
  have e1 := ab_ltL hx hy
  have e2 := ab_eqL hx hy
  have e3 := ab_ltL hy hx
  by_cases h : x < y
  · rw [if_pos h, if_neg (fun h9 => by have := e3.mp h9; omega), if_neg (fun h9 => by have := e2.mp h9; omega)]
    rfl
  · by_cases h2 : x = y
    · rw [if_neg h, if_pos h2, if_neg (fun h9 => by have := e3.mp h9; omega), if_pos (e2.mpr h2)]
      rfl
    · rw [if_neg h, if_neg h2, if_pos (e3.mpr (by omega))]
      rfl
theorem ab_cz_lcmp {q : ClassFile.Cond} {x y : Int} (hx : ab_rg 1 x) (hy : ab_rg 1 y) : ab_cz q (ab_lcmp x y) ↔ ab_cc q x y := by
  rw [ab_lcmp_eq hx hy]
  cases q <;> simp only [ab_cz, ab_cc] <;> (split; omega; split <;> omega)
section OK9
variable {X : jm_X} {M N : jm_M} {d pc len : Nat} {i : Instr} {ts : ab_t} {l : ab_l} {st st0 st1 as : List (Nat × Int)} {μ : ab_m} {P : Int → ab_m → Prop}
theorem ok_lif {q : ClassFile.Cond} {off x y : Int} {pc' : Nat} (hd : decode M.2.1 pc = .ok (.lcmp, 1)) (hd2 : decode M.2.1 (pc + 1) = .ok (.ifCond q off, 3)) (ho : jm_ok (pc + 1) off = true) (hp : jm_at (pc + 1) off = pc') (k : (ab_cc q x y → ok_ X M d pc' ts l st μ P) ∧ (ab_cc (ab_nq q) x y → ok_ X M d (pc + 4) ts l st μ P)) : ok_ X M d pc ts l ((1, y) :: (1, x) :: st) μ P := by
  refine ok_sr fun hs => ?_
  have hy := ab_sr_hd hs
  have hx := ab_sr_hd (ab_sr_tl hs)
  refine ok_lcmp hd (ok_if hd2 ho hp ⟨fun h => k.1 ((ab_cz_lcmp hx hy).mp h), fun h => k.2 ((ab_cz_lcmp hx hy).mp h)⟩)
theorem jg_cp {X : jm_X} {M : jm_M} {d pc len k j : Nat} {lv : jm_L} {st r : List Value} {S S1 S' : jm_S} {v : Option Value} {i : Instr} (hd : decode M.2.1 pc = .ok (i, len)) (hr : jm_cp M i len d st S = some (r, S1)) (h : jm_goes X M d (pc + 3) lv r S1 v S' k j) : jm_goes X M d pc lv st S v S' k j := by
  intro p l e R s m args below meth c D dA base sa H locs cells slots ls Q C hH hS hl hlim hfr hlo hc hs hret
  exact jm_cp_ok C hd hr hH hS hl hlim hfr hlo (fun H1 locs1 w1 w2 w3 => h p l e R s m args below meth c D dA base sa H1 locs1 cells slots ls Q C w1 w2 hl w3 hfr hlo hc hs hret)
def ab_cp (μ : ab_m) (a sp b dp n : Int) : ab_m := fun c i => if c = b ∧ dp ≤ i ∧ i < dp + n then μ a (sp + (i - dp)) else μ c i
theorem ok_cp {idx : Nat} {a sp b dp n : Int} {n0 n1 t : Nat} (hd : decode M.2.1 pc = .ok (.invokestatic idx, 3)) (hk : jp_A (jm_q M) idx = some ()) (hc : ((ab_sv st).map fun v => v.category).sum ≤ 8) (ht : t = 0 ∨ t = 1) (ha : ab_arr t n0 a) (hb : ab_arr t n1 b) (hg : 0 ≤ sp ∧ 0 ≤ dp ∧ 0 ≤ n ∧ sp + n ≤ n0 ∧ dp + n ≤ n1)
    (k : ok_ X M (d + 1) (pc + 3) ts l st (ab_cp μ a sp b dp n) P) : ok_ X M (d + 1) pc ts l ((0, n) :: (0, dp) :: (2, b) :: (0, sp) :: (2, a) :: st) μ P := by
  obtain ⟨ca, rfl, hca, hLa⟩ := ha
  obtain ⟨cb, rfl, hcb, hLb⟩ := hb
  obtain ⟨g1, g2, g3, g4, g5⟩ := hg
  intro lv S h1 h2 h3 h4
  have r1 := ab_sr_hd h2
  have r2 := ab_sr_hd (ab_sr_tl h2)
  have r3 := ab_sr_hd (ab_sr_tl (ab_sr_tl (ab_sr_tl h2)))
  have hsr : ab_sr st := ab_sr_tl (ab_sr_tl (ab_sr_tl (ab_sr_tl (ab_sr_tl h2))))
  have n1' : ∀ x : Int, 0 ≤ x → ab_rg 0 x → ¬ Int32.ofInt x < 0 ∧ (Int32.ofInt x).toNatClampNeg = x.toNat := by
    intro x hx hr
    obtain ⟨p1, p2⟩ := ab_idx (n := x.toNat + 1) hx (by omega) hr
    refine ⟨?_, p2⟩
    rw [Int32.lt_iff_toInt_lt, ab_toInt hr]
    show ¬ x < 0
    omega
  obtain ⟨a1, a2⟩ := n1' n g3 r1
  obtain ⟨b1, b2⟩ := n1' dp g2 r2
  obtain ⟨c1, c2⟩ := n1' sp g1 r3
  have e1 : ab_sv ((0, n) :: (0, dp) :: (2, (cb : Int)) :: (0, sp) :: (2, (ca : Int)) :: st) = .int (Int32.ofInt n) :: .int (Int32.ofInt dp) :: .ref cb :: .int (Int32.ofInt sp) :: .ref ca :: ab_sv st := by
    show Value.int (Int32.ofInt n) :: Value.int (Int32.ofInt dp) :: (if (cb : Int) < 0 then Value.null else Value.ref (cb : Int).toNat) :: Value.int (Int32.ofInt sp) :: (if (ca : Int) < 0 then Value.null else Value.ref (ca : Int).toNat) :: ab_sv st = _
    rw [if_neg (by omega), if_neg (by omega), Int.toNat_natCast, Int.toNat_natCast]
  obtain ⟨s1, s2, s3⟩ := h3
  have hcp : ∃ S1 : jm_S, jm_cp M (.invokestatic idx) 3 (d + 1) (ab_sv ((0, n) :: (0, dp) :: (2, (cb : Int)) :: (0, sp) :: (2, (ca : Int)) :: st)) S = some (ab_sv st, S1) ∧ S1.1 = S.1 ∧ ab_R (ab_cp μ ca sp cb dp n) S1 := by
    rw [e1]
    rcases ht with rfl | rfl
    · refine ⟨jm_up S cb (.inl (0, n1, .inl (va_cpy (fun j => Int32.ofInt (μ ca j)) (fun j => Int32.ofInt (μ cb j)) sp.toNat dp.toNat n.toNat))), ?_, rfl, s1, fun k hk => ?_, fun k j hk => ?_⟩
      · simp only [jm_cp, hk]
        rw [if_pos ⟨Nat.lt_of_lt_of_le hca s1, Nat.lt_of_lt_of_le hcb s1, by omega, hc, c1, b1, a1⟩, s2 ca hca, s2 cb hcb, ab_cellA _ hLa (by decide), ab_cellA _ hLb (by decide)]
        simp only [a2, b2, c2]
        rw [if_pos ⟨by omega, by omega⟩]
      · show va_up S.2 cb _ k = _
        unfold va_up
        by_cases hkb : k = cb
        · subst hkb
          rw [if_pos rfl, ab_cellA _ hLb (by decide)]
          congr 3
          congr 1
          funext j
          unfold va_cpy ab_cp
          by_cases hj : dp.toNat ≤ j ∧ j < dp.toNat + n.toNat
          · have e9 : ((sp.toNat + (j - dp.toNat) : Nat) : Int) = sp + ((j : Int) - dp) := by omega
            rw [if_pos hj, if_pos (by omega)]
            dsimp only
            rw [e9]
          · rw [if_neg hj, if_neg (by omega)]
        · rw [if_neg hkb, s2 k hk]
          congr 1
          funext j
          unfold ab_cp
          rw [if_neg (by omega)]
      · unfold ab_cp
        split
        · rename_i h
          have : k = cb := by omega
          subst this
          have := s3 ca (sp + (j - dp)) hca
          rw [ab_tgA hLa] at this
          rw [ab_tgA hLb]
          exact this
        · exact s3 k j hk
    · refine ⟨jm_up S cb (.inl (1, n1, .inr (.inl (va_cpy (fun j => Int64.ofInt (μ ca j)) (fun j => Int64.ofInt (μ cb j)) sp.toNat dp.toNat n.toNat)))), ?_, rfl, s1, fun k hk => ?_, fun k j hk => ?_⟩
      · simp only [jm_cp, hk]
        rw [if_pos ⟨Nat.lt_of_lt_of_le hca s1, Nat.lt_of_lt_of_le hcb s1, by omega, hc, c1, b1, a1⟩, s2 ca hca, s2 cb hcb, ab_cellJ _ hLa, ab_cellJ _ hLb]
        simp only [a2, b2, c2]
        rw [if_pos ⟨by omega, by omega⟩]
      · show va_up S.2 cb _ k = _
        unfold va_up
        by_cases hkb : k = cb
        · subst hkb
          rw [if_pos rfl, ab_cellJ _ hLb]
          congr 3
          congr 2
          funext j
          unfold va_cpy ab_cp
          by_cases hj : dp.toNat ≤ j ∧ j < dp.toNat + n.toNat
          · have e9 : ((sp.toNat + (j - dp.toNat) : Nat) : Int) = sp + ((j : Int) - dp) := by omega
            rw [if_pos hj, if_pos (by omega)]
            dsimp only
            rw [e9]
          · rw [if_neg hj, if_neg (by omega)]
        · rw [if_neg hkb, s2 k hk]
          congr 1
          funext j
          unfold ab_cp
          rw [if_neg (by omega)]
      · unfold ab_cp
        split
        · rename_i h
          have : k = cb := by omega
          subst this
          have := s3 ca (sp + (j - dp)) hca
          rw [ab_tgA (t := 1) hLa] at this
          rw [ab_tgA (t := 1) hLb]
          exact this
        · exact s3 k j hk
  obtain ⟨S1, q1, q2, q3⟩ := hcp
  obtain ⟨v, r, μ', S', w1, w2, w3, w4, w5⟩ := k lv S1 h1 hsr q3 (by omega)
  exact ⟨v, r, μ', S', jg_cp hd q1 w1, w2, by omega, w4, w5⟩
end OK9
