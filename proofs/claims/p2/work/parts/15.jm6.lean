/-! THE PURE MACHINE, part 6: a step, over the machine itself -/
theorem jm_bne {a b : Nat} (h : a ≠ b) : Nat.beq a b = false := by
  cases hb : Nat.beq a b
  · rfl
  · exact absurd (Nat.eq_of_beq_eq_true hb) h
theorem jm_map_r (base : Nat) (sa : Nat → Nat) (a : Nat) (r : List Value) : (Value.ref a :: r).map (jm_v base sa) = .ref (jm_a base sa a) :: r.map (jm_v base sa) := rfl
theorem jm_map_ir (base : Nat) (sa : Nat → Nat) (j : Int32) (a : Nat) (r : List Value) : (Value.int j :: Value.ref a :: r).map (jm_v base sa) = .int j :: .ref (jm_a base sa a) :: r.map (jm_v base sa) := rfl
section JM6
variable {p : Program} {l : Launch} {e : Env} {R : Room} {s : State} {m : MethodId} {args : Array Value} {below : List Frame} {meth : Method} {c : Code} {H : Heap} {locs : List Loc} {cells slots : Nat} {Q : State → Prop}
variable {D : va_G} {dA : Nat → ClassId} {base pc len pc' : Nat} {sa : Nat → Nat} {X : jm_X} {M : jm_M} {i : Instr} {lv lv' : jm_L} {st st' : List Value} {S S' : jm_S} {ls : Array Slot}
theorem jm_mis_ok (C : jm_ctx p s m args meth c D dA base sa X M) (hd : decode M.2.1 pc = .ok (i, len)) (h : jm_mis M i len pc lv st = some (pc', lv', st')) (hl : lv_has ls M.2.2.1 (jm_lv base sa lv))
    (kk : ∀ ls1 : Array Slot, lv_has ls1 M.2.2.1 (jm_lv base sa lv') → W p l e R s m args below meth c H locs cells slots Q (F0 m pc' ls1 (st'.map (jm_v base sa)))) : W p l e R s m args below meth c H locs cells slots Q (F0 m pc ls (st.map (jm_v base sa))) := by
  obtain ⟨hx, hb, hml, hown, hts, hnn, hK, hst, hini, hlk⟩ := C
  unfold jm_mis at h
  split at h
  · split at h
    · rename_i hg
      split at h
      · rename_i hn; cases h; exact jm_inc_ok hx hb hd hl hg hn kk
      · cases h
    · cases h
  · split at h
    · rename_i hk; have hw := jp_K_ok _ _ _ hk; cases h; exact lv_ldc hx hb hown (hts _ hw) hd (kk ls hl)
    · cases h
  · split at h
    · rename_i hk; have hw := jp_K_ok _ _ _ hk; cases h; exact lv_ldcw hx hb hown (hts _ hw) hd (kk ls hl)
    · cases h
  · split at h
    · rename_i hk; have hw := jp_K_ok _ _ _ hk; cases h; exact lv_ldc2 hx hb hown (hts _ hw) hd (kk ls hl)
    · cases h
  · split at h
    · rename_i hk; cases h; exact jm_al_ok hx hb hd hk (kk ls hl)
    · split at h
      · rename_i hk; cases h; exact jm_sk_ok hx hb hd hk (kk ls hl)
      · cases h
  · cases h
theorem jm_cell_ok {k n : Nat} (C : jm_ctx p s m args meth c D dA base sa X M) (hd : decode M.2.1 pc = .ok (i, len)) (h : jm_cell X M i len st S = some (st', S', k, n)) (hH : jm_H D jCl dA base sa S H) (hS : va_S (fun q => base ≤ q) s.heap H locs) (hlim : S.1 ≤ jm_lim) (hc : cells + k ≤ R.cells) (hsl : slots + n ≤ R.slots)
    (kk : ∀ (H1 : Heap) (locs1 : List Loc), jm_H D jCl dA base sa S' H1 → va_S (fun q => base ≤ q) s.heap H1 locs1 → S'.1 ≤ jm_lim → W p l e R s m args below meth c H1 locs1 (cells + k) (slots + n) Q (F0 m (pc + len) ls (st'.map (jm_v base sa)))) : W p l e R s m args below meth c H locs cells slots Q (F0 m pc ls (st.map (jm_v base sa))) := by
  obtain ⟨hx, hb, hml, hown, hts, hnn, hK, hst, hini, hlk⟩ := C
  have hA : ∀ a x, jm_sa X a = some x → jm_a base sa a = sa a := by
    intro a x hq
    unfold jm_a
    rw [if_neg]
    intro hlt
    have hlt' : a < 1000000 := hlt
    unfold jm_sa at hq
    rw [show Nat.beq a 1000000 = false from jm_bne (by omega), show Nat.beq a 1000001 = false from jm_bne (by omega), show Nat.beq a 1000002 = false from jm_bne (by omega)] at hq
    cases hq
  unfold jm_cell at h
  split at h
  · -- getfield
    split at h
    · rename_i f hf
      obtain ⟨hci, hj, hlink, -, hdc⟩ := jp_F_ok _ _ _ hf
      obtain ⟨hcl, hin, hnm, hty⟩ := jp_cl _ (Nat.lt_of_lt_of_le hci (by decide))
      split at h
      · rename_i ha
        split at h
        · rename_i o ho
          split at h
          · rename_i ho1
            split at h
            · rename_i v hv
              cases h
              refine jm_getf_ok (host := "") hx hb hts hin hown hK hH hlim ha (show S.2 _ = .inr (f.1, o.2) by rw [ho, ← ho1]) hcl _ hj (Or.inl hlink) hv hd ?_
              exact kk H locs hH hS hlim
            · cases h
          · cases h
        · cases h
      · cases h
    · cases h
  · -- putfield
    split at h
    · rename_i f hf
      obtain ⟨hci, hj, hlink, hfin, hdc⟩ := jp_F_ok _ _ _ hf
      obtain ⟨hcl, hin, hnm, hty⟩ := jp_cl _ (Nat.lt_of_lt_of_le hci (by decide))
      split at h
      · rename_i ha
        split at h
        · rename_i o ho
          split at h
          · rename_i ho1
            cases h
            refine jm_putf_ok (host := "") hx hb hts hin _ hty hnm hown hK hH hS hlim ha.1 (show S.2 _ = .inr (f.1, o.2) by rw [ho, ← ho1.1]) hcl _ hj (Or.inl ⟨hlink, fun hf1 => ?_⟩) ha.2.2 ho1.2 hd ?_
            · rcases ha.2.1 with h0 | h0
              · rw [hfin h0] at hf1; cases hf1
              · refine ⟨hini h0.1, ?_⟩
                rw [hdc, h0.2]
                exact jp_OC _ hci
            · intro H1 locs1 h1 h2
              refine kk H1 locs1 ?_ h2 hlim
              rw [ho1.1]
              exact h1
          · cases h
        · cases h
      · cases h
    · cases h
  · -- getstatic
    split at h
    · rename_i a ha
      cases h
      obtain ⟨hz1, hz2, ht0, ht1, ht2, -⟩ := hst
      rcases jp_S_ok _ _ _ ha with ⟨rfl, hw⟩ | ⟨rfl, hw⟩
      · exact va_getsN hx hb hz1 hS hown (va_Nw.use rfl (hnn.1 _ hw)) (fun _ h9 => h9) hd (kk H locs hH hS hlim)
      · exact va_getsN hx hb hz2 hS hown (va_Nw.use rfl (hnn.1 _ hw)) (fun _ h9 => h9) hd (kk H locs hH hS hlim)
    · cases h
  · -- arraylength
    split at h
    · rename_i ha
      split at h
      · rename_i z hz
        cases h
        unfold jm_ln at hz
        split at hz
        · rename_i t n x hq
          split at hz
          · rename_i ht
            cases hz
            exact jm_alen_ok hx hb hK hH hlim ha ht hq hd (kk H locs hH hS hlim)
          · cases hz
        · cases hz
      · cases h
    · split at h
      · rename_i x hq
        cases h
        have e1 := hA _ _ hq
        obtain ⟨hz1, hz2, ht0, ht1, ht2, -⟩ := hst
        rw [jm_map_r, e1]
        rcases jm_sa_ok hq with ⟨rfl, rfl⟩ | ⟨rfl, rfl⟩ | ⟨rfl, rfl⟩
        · exact va_tlen hx hb ht0 hS rfl hd (kk H locs hH hS hlim)
        · exact va_tlen hx hb ht1 hS rfl hd (kk H locs hH hS hlim)
        · exact va_tlen hx hb ht2 hS rfl hd (kk H locs hH hS hlim)
      · cases h
  · -- new
    split at h
    · rename_i ci hw
      obtain ⟨hci, h1, h2, h3⟩ := jp_W_ok _ _ _ hw
      obtain ⟨hcl, hin, hnm, hty⟩ := jp_cl _ (Nat.lt_of_lt_of_le hci (by decide))
      split at h
      · rename_i hl1
        cases h
        exact jm_new_ok hx hb hts hin _ hty hown h1 h2 h3 hK hH hS hl1 hcl hc hsl hd (fun H1 q1 q2 => kk H1 locs q1 q2 hl1)
      · cases h
    · cases h
  · -- newarray
    split at h
    · rename_i t ht
      split at h
      · rename_i hq
        cases h
        refine jm_newa_ok hx hb ht hts ?_ hK hH hS hq.1 hq.2.1 hq.2.2 hc hsl hd (fun H1 q1 q2 => kk H1 locs q1 q2 hq.1)
        unfold jm_nt at ht
        split at ht
        · exact jp_arr.1
        · exact jp_arr.2.1
        · exact jp_arr.2.2.1
        · exact jp_arr.2.2.2
        · cases ht
      · cases h
    · cases h
  · -- an element is read
    split at h
    · rename_i ha
      split at h
      · rename_i v hv
        cases h
        unfold jm_rd at hv
        split at hv
        · rename_i hq
          split at hv
          · rename_i hi; cases hv; exact jm_iald_ok hx hb hK hH hlim ha hq (jm_in_ok hi) hd (kk H locs hH hS hlim)
          · cases hv
        · rename_i hq
          split at hv
          · rename_i hi; cases hv; exact jm_zald_ok hx hb hK hH hlim ha hq (jm_in_ok hi) hd (kk H locs hH hS hlim)
          · cases hv
        · rename_i hq
          split at hv
          · rename_i hi; cases hv; exact jm_bald_ok hx hb hK hH hlim ha hq (jm_in_ok hi) hd (kk H locs hH hS hlim)
          · cases hv
        · rename_i hq
          split at hv
          · rename_i hi; cases hv; exact jm_lald_ok hx hb hK hH hlim ha hq (jm_in_ok hi) hd (kk H locs hH hS hlim)
          · cases hv
        · cases hv
      · cases h
    · split at h
      · rename_i x hq
        have e1 := hA _ _ hq
        split at h
        · rename_i v hv
          cases h
          obtain ⟨hz1, hz2, ht0, ht1, ht2, -⟩ := hst
          rw [jm_map_ir, e1]
          rcases jm_sa_ok hq with ⟨rfl, rfl⟩ | ⟨rfl, rfl⟩ | ⟨rfl, rfl⟩
          · unfold jm_rs at hv
            split at hv
            · rename_i hz
              cases hz
              split at hv
              · rename_i hi; cases hv; exact va_ti hx hb ht0 hS (jm_in_ok hi) rfl hd (kk H locs hH hS hlim)
              · cases hv
            · rename_i hz; cases hz
            · cases hv
          · unfold jm_rs at hv
            split at hv
            · rename_i hz; cases hz
            · rename_i hz
              cases hz
              split at hv
              · rename_i hi; cases hv; exact va_tl hx hb ht1 hS (jm_in_ok hi) rfl hd (kk H locs hH hS hlim)
              · cases hv
            · cases hv
          · unfold jm_rs at hv
            split at hv
            · rename_i hz
              cases hz
              split at hv
              · rename_i hi; cases hv; exact va_ti hx hb ht2 hS (jm_in_ok hi) rfl hd (kk H locs hH hS hlim)
              · cases hv
            · rename_i hz; cases hz
            · cases hv
        · cases h
      · cases h
  · -- an element is written
    split at h
    · rename_i ha
      split at h
      · rename_i x hv
        cases h
        unfold jm_wr at hv
        split at hv
        · rename_i hq
          split at hv
          · rename_i hi; cases hv; exact jm_iast_ok hx hb hK hH hS hlim ha (by assumption) (jm_in_ok hi) hd (fun H1 l1 q1 q2 => kk H1 l1 q1 q2 hlim)
          · cases hv
        · rename_i hq
          split at hv
          · rename_i hi; cases hv; exact jm_zast_ok hx hb hK hH hS hlim ha (by assumption) (jm_in_ok hi) hd (fun H1 l1 q1 q2 => kk H1 l1 q1 q2 hlim)
          · cases hv
        · rename_i hq
          split at hv
          · rename_i hi; cases hv; exact jm_bast_ok hx hb hK hH hS hlim ha (by assumption) (jm_in_ok hi) hd (fun H1 l1 q1 q2 => kk H1 l1 q1 q2 hlim)
          · cases hv
        · rename_i hq
          split at hv
          · rename_i hi; cases hv; exact jm_last_ok hx hb hK hH hS hlim ha (by assumption) (jm_in_ok hi) hd (fun H1 l1 q1 q2 => kk H1 l1 q1 q2 hlim)
          · cases hv
        · cases hv
      · cases h
    · cases h
  · cases h
theorem jm_step_ok {k n : Nat} (C : jm_ctx p s m args meth c D dA base sa X M) (hd : decode M.2.1 pc = .ok (i, len)) (h : jm_step X M i len pc lv st S = some (pc', lv', st', S', k, n)) (hH : jm_H D jCl dA base sa S H) (hS : va_S (fun q => base ≤ q) s.heap H locs) (hl : lv_has ls M.2.2.1 (jm_lv base sa lv)) (hlim : S.1 ≤ jm_lim) (hc : cells + k ≤ R.cells) (hsl : slots + n ≤ R.slots)
    (kk : ∀ (H1 : Heap) (locs1 : List Loc) (ls1 : Array Slot), jm_H D jCl dA base sa S' H1 → va_S (fun q => base ≤ q) s.heap H1 locs1 → lv_has ls1 M.2.2.1 (jm_lv base sa lv') → S'.1 ≤ jm_lim → W p l e R s m args below meth c H1 locs1 (cells + k) (slots + n) Q (F0 m pc' ls1 (st'.map (jm_v base sa)))) : W p l e R s m args below meth c H locs cells slots Q (F0 m pc ls (st.map (jm_v base sa))) := by
  have hx := C.1
  have hb := C.2.1
  unfold jm_step at h
  split at h
  · rename_i v hv; cases h; exact jm_k_ok (base := base) (sa := sa) hx hb hd hv (kk H locs ls hH hS hl hlim)
  · split at h
    · rename_i q hq
      split at h
      · rename_i v hv
        split at h
        · rename_i hk; cases h; exact jm_ld_ok hx hb hd hq hl hv hk (kk H locs ls hH hS hl hlim)
        · cases h
      · cases h
    · split at h
      · rename_i q hq
        split at h
        · rename_i v r
          split at h
          · rename_i hk
            cases h
            refine jm_sr_ok hx hb hd hq hl hk.1 ?_ (fun ls' h' => kk H locs ls' hH hS h' hlim)
            rcases lv_cat v with h1 | h1
            · exact Or.inr ⟨by have := hk.2; omega, h1⟩
            · exact Or.inl (by have := hk.2; omega)
          · cases h
        · cases h
      · split at h
        · rename_i q hq; cases h; exact jm_br_ok hx hb hd hq (kk H locs ls hH hS hl hlim)
        · split at h
          · rename_i q hq
            cases h
            exact jm_cell_ok C hd hq hH hS hlim hc hsl (fun H1 l1 q1 q2 q3 => kk H1 l1 ls q1 q2 hl q3)
          · split at h
            · rename_i q hq; cases h; exact jm_mis_ok C hd hq hl (fun ls1 h1 => kk H locs ls1 hH hS h1 hlim)
            · cases h
end JM6
