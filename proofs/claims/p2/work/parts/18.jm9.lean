/-! THE PURE MACHINE, part 9: calls, and the run as a whole -/
section JM9
variable {p : Program} {l : Launch} {e : Env} {R : Room} {s : State} {m : MethodId} {args : Array Value} {below : List Frame} {meth : Method} {c : Code} {H : Heap} {locs : List Loc} {cells slots : Nat} {Q : State → Prop}
variable {D : va_G} {dA : Nat → ClassId} {base pc len : Nat} {sa : Nat → Nat} {X : jm_X} {M N : jm_M} {S S' : jm_S} {ls : Array Slot} {i : Instr} {lv : jm_L} {st : List Value}
theorem jm_inv_ok {f d k n : Nat} {as r : List Value} {v : Option Value} (C : jm_ctx p s m args meth c D dA base sa X M) (hd : decode M.2.1 pc = .ok (i, len)) (h : jm_inv M i len st S = some (N, f, as, r)) (hH : jm_H D jCl dA base sa S H) (hS : va_S (fun q => base ≤ q) s.heap H locs) (hl : lv_has ls M.2.2.1 (jm_lv base sa lv)) (hlim : S.1 ≤ jm_lim) (hfr : d + 1 ≤ R.frames) (hlo : (d + 1) * 64 ≤ R.locals) (hc : cells + k ≤ R.cells) (hsl : slots + n ≤ R.slots)
    (body : jm_goes X N d 0 (lv_args 0 as) [] S v S' k n)
    (kk : ∀ (H1 : Heap) (locs1 : List Loc), S'.1 ≤ jm_lim → jm_H D jCl dA base sa S' H1 → va_S (fun q => base ≤ q) s.heap H1 locs1 → W p l e R s m args below meth c H1 locs1 (cells + k) (slots + n) Q (F0 m (pc + 3) ls ((v.toList ++ r).map (jm_v base sa)))) : W p l e R s m args below meth c H locs cells slots Q (F0 m pc ls (st.map (jm_v base sa))) := by
  obtain ⟨hx, hb, hml, hown, hts, hnn, hK, hst, hini, hlk⟩ := C
  have kk2 : ∀ (H1 : Heap) (locs1 : List Loc), S'.1 ≤ jm_lim → jm_H D jCl dA base sa S' H1 → va_S (fun q => base ≤ q) s.heap H1 locs1 → W p l e R s m args below meth c H1 locs1 (cells + k) (slots + n) Q (F0 m (pc + 3) ls ((v.map (jm_v base sa)).toList ++ r.map (jm_v base sa))) := by
    intro H1 locs1 h1 h2 h3
    have := kk H1 locs1 h1 h2 h3
    rw [List.map_append] at this
    have e1 : (v.map (jm_v base sa)).toList = v.toList.map (jm_v base sa) := by cases v <;> rfl
    rw [e1]
    exact this
  have hblind := jm_pre_blind D dA base sa X S (as.map (jm_v base sa))
  have hpre : ∀ U : State, U.heap = H → s.WarmedH U.vm → va_Pc (as.map (jm_v base sa)) (jm_pre D dA base sa X S) (as.map (jm_v base sa)).toArray U := by
    intro U hU hW
    exact ⟨rfl, by rw [hU]; exact hH, va_K.moved hW.alike hK, hnn.go hW, hst.go hW.alike (fun a h1 h2 => by rw [hU]; exact hS.2.1 a h1 h2)⟩
  have room : ∀ hok : jm_mok N, (jm_room d k n).frames + 1 ≤ R.frames ∧ 8 + (N.2.2.1 + 11) + (jm_room d k n).locals ≤ R.locals := by
    intro hok
    have h40 := hok.2.2.2.2.2.1
    refine ⟨hfr, ?_⟩
    show 8 + (N.2.2.1 + 11) + d * 64 ≤ R.locals
    omega
  have CF : CallFix p m c M.2.1 M.2.2.1 s args jw (jp_O (jm_q M)) := ⟨hx, hb, hml, hown, hts⟩
  unfold jm_inv at h
  split at h
  · -- virtual
    rename_i idx
    split at h
    · rename_i N' hN
      obtain ⟨hok, hl1, hl2, hl3⟩ := jp_M_ok _ _ _ hN
      split at h
      · rename_i a r' hdrop
        split at h
        · rename_i hcnd
          split at h
          · rename_i o ho
            split at h
            · rename_i ho1
              cases h
              have hM := jm_met l X hok _ hcnd.2.2.2 hlim body D dA base sa
              have hst' : st.map (jm_v base sa) = (((st.take (jm_n N)).reverse).map (jm_v base sa)).reverse ++ .ref (base + a) :: r.map (jm_v base sa) := by
                rw [← List.map_reverse, List.reverse_reverse]
                have e1 : st = st.take (jm_n N) ++ (.ref a :: r) := by rw [← hdrop]; exact (List.take_append_drop _ _).symm
                have e2 : jm_v base sa (.ref a) = .ref (base + a) := congrArg Value.ref (jm_a_lo hcnd.1 hlim)
                rw [← e2, ← List.map_cons, ← List.map_append, ← e1]
              have hq := (hok.2.2.2.2.2.2.2)
              have hcls : jp_C o.1 = N.1.cls := by rw [ho1, ← jp_OC _ hcnd.2.1]; exact hq
              have hcl := (jp_cl o.1 (by rw [ho1]; exact Nat.lt_of_lt_of_le hcnd.2.1 (by decide))).1
              have hrec := va_recv hK (jm_one (hH.2 a hcnd.1)) (ci := o.1) (q0 := 0) hcl (by rw [ho]; rfl)
              rw [hcls] at hrec
              have hnn2 : ((st.take (jm_n N)).reverse.map (jm_v base sa)).length = jm_n N := by
                have : jm_n N ≤ st.length := by
                  rcases Nat.lt_or_ge (jm_n N) st.length with z | z
                  · omega
                  · rw [List.drop_eq_nil_of_le z] at hdrop; cases hdrop
                simp [Nat.min_eq_left this]
              have e2 : jm_v base sa (.ref a) = .ref (base + a) := congrArg Value.ref (jm_a_lo hcnd.1 hlim)
              have cb : CallW R s args (jp_O (jm_q M)) N.1.cls idx N.1 N.2.1 N.2.2.1 N.2.2.2.1 (jm_ws N) (jm_room d k n) k n (jm_n N) :=
                ⟨callB_of (jm_n N) hts (jm_good hok) rfl rfl rfl (hts _ hok.2.1) (hts _ hl1) ⟨hok.2.2.2.1.1, hok.2.2.2.1.2, hok.2.2.2.2.1⟩ (room hok), hts _ hl2, hts _ hl3⟩
              have hrun := va_runV (b := base + a) (As := (st.take (jm_n N)).reverse.map (jm_v base sa)) (rest := r.map (jm_v base sa)) (g := F0 m pc ls (st.map (jm_v base sa))) (H := H) (locs := locs) (cells := cells) (slots := slots) (l := l) (e := e) (below := below) (meth := meth) CF hM cb
                ⟨hblind, hrec, fun U hU hW => ⟨by rw [List.map_cons, e2], (hpre U hU hW).2⟩⟩ rfl hnn2 hl.1 hst' (by rw [jm_cats]; show 2 * 0 + _ ≤ 8; have := hcnd.2.2.1; omega) hd ⟨hc, hsl⟩
              exact jm_back hrun hS kk2
            · cases h
          · cases h
        · cases h
      · cases h
    · cases h
  · -- static
    rename_i idx
    split at h
    · rename_i N' f' hN
      obtain ⟨hok, hlk1⟩ := jp_M_ok _ _ _ hN
      split at h
      · rename_i hcnd
        cases h
        have hM := jm_met l X hok _ hcnd.2.2.2 hlim body D dA base sa
        have hst' : st.map (jm_v base sa) = (((st.take (jm_n N)).reverse).map (jm_v base sa)).reverse ++ (st.drop (jm_n N)).map (jm_v base sa) := by
          rw [← List.map_reverse, List.reverse_reverse, ← List.map_append, List.take_append_drop]
        have hnn2 : ((st.take (jm_n N)).reverse.map (jm_v base sa)).length = jm_n N := by
          simp [Nat.min_eq_left hcnd.2.1]
        rcases hcnd.1 with rfl | rfl
        · obtain ⟨hl1, hl2⟩ := hlk1
          have cb : CallB R s args (jp_O (jm_q M)) idx N.1 N.2.1 N.2.2.1 N.2.2.2.1 (jm_ws N) (jm_room d k n) k n (jm_n N) :=
            callB_of (jm_n N) hts (jm_good hok) rfl rfl rfl (hts _ hok.2.1) (hts _ hl1) ⟨hok.2.2.2.1.1, hok.2.2.2.1.2, hok.2.2.2.2.1⟩ (room hok)
          have hrun := va_runS (As := (st.take (jm_n N)).reverse.map (jm_v base sa)) (rest := (st.drop (jm_n N)).map (jm_v base sa)) (g := F0 m pc ls (st.map (jm_v base sa))) (H := H) (locs := locs) (cells := cells) (slots := slots) (l := l) (e := e) (below := below) (meth := meth) CF hM ⟨cb, hts _ hl2⟩
            ⟨hblind, hpre⟩ rfl hnn2 hl.1 hst' (by rw [jm_cats]; show 2 * 0 + _ ≤ 8; have := hcnd.2.2.1; omega) hd ⟨hc, hsl⟩
          exact jm_back hrun hS kk2
        · obtain ⟨hl1, hl2⟩ := hlk1
          have cb := va_cnB (R := R) (s := s) (args := args) (own := jp_O (jm_q M)) (index := idx) (bytes := N.2.1) (maxL := N.2.2.1) (ret := N.2.2.2.1) (ws := jm_ws N) (rm := jm_room d k n) (mc := k) (ms := n) (jm_n N) hts (jm_good hok) rfl rfl rfl (hnn.1 _ hl1) (hts _ hok.2.1) ⟨hok.2.2.2.1.1, hok.2.2.2.1.2, hok.2.2.2.2.1⟩ (room hok)
          have hrun := va_runSN (As := (st.take (jm_n N)).reverse.map (jm_v base sa)) (rest := (st.drop (jm_n N)).map (jm_v base sa)) (g := F0 m pc ls (st.map (jm_v base sa))) (H := H) (locs := locs) (cells := cells) (slots := slots) (l := l) (e := e) (below := below) (meth := meth) CF hM ⟨cb, hts _ hl2, trivial⟩
            ⟨hblind, hpre⟩ rfl hnn2 hl.1 hst' (by rw [jm_cats]; show 2 * 0 + _ ≤ 8; have := hcnd.2.2.1; omega) hd ⟨hc, hsl⟩
          exact jm_back hrun hS kk2
      · cases h
    · cases h
  · -- a constructor
    rename_i idx
    split at h
    · rename_i N' f' hN
      obtain ⟨hok, hlk1⟩ := jp_M_ok _ _ _ hN
      split at h
      · rename_i a r' hdrop
        split at h
        · rename_i hcnd
          cases h
          have hM := jm_met l X hok _ hcnd.2.2 hlim body D dA base sa
          have hst' : st.map (jm_v base sa) = (((st.take (jm_n N)).reverse).map (jm_v base sa)).reverse ++ .ref (jm_a base sa a) :: r.map (jm_v base sa) := by
            rw [← List.map_reverse, List.reverse_reverse]
            have e1 : st = st.take (jm_n N) ++ (.ref a :: r) := by rw [← hdrop]; exact (List.take_append_drop _ _).symm
            have e2 : jm_v base sa (.ref a) = .ref (jm_a base sa a) := rfl
            rw [← e2, ← List.map_cons, ← List.map_append, ← e1]
          have hnn2 : ((st.take (jm_n N)).reverse.map (jm_v base sa)).length = jm_n N := by
            have : jm_n N ≤ st.length := by
              rcases Nat.lt_or_ge (jm_n N) st.length with z | z
              · omega
              · rw [List.drop_eq_nil_of_le z] at hdrop; cases hdrop
            simp [Nat.min_eq_left this]
          rcases hcnd.1 with rfl | rfl
          · obtain ⟨hl1, hl2, hl3, hret⟩ := hlk1
            have cb : CallB R s args (jp_O (jm_q M)) idx N.1 N.2.1 N.2.2.1 N.2.2.2.1 (jm_ws N) (jm_room d k n) k n (jm_n N) :=
              callB_of (jm_n N) hts (jm_good hok) rfl rfl rfl (hts _ hok.2.1) (hts _ hl1) ⟨hok.2.2.2.1.1, hok.2.2.2.1.2, hok.2.2.2.2.1⟩ (room hok)
            rw [hret] at cb
            have hrun := va_runI (b := jm_a base sa a) (As := (st.take (jm_n N)).reverse.map (jm_v base sa)) (rest := r.map (jm_v base sa)) (g := F0 m pc ls (st.map (jm_v base sa))) (H := H) (locs := locs) (cells := cells) (slots := slots) (l := l) (e := e) (below := below) (meth := meth) CF hM ⟨cb, hl3, hts _ hl2⟩
              ⟨hblind, hpre⟩ rfl hnn2 hl.1 hst' (by rw [jm_cats]; show 2 * 0 + _ ≤ 8; have := hcnd.2.1; omega) hd ⟨hc, hsl⟩
            exact jm_back hrun hS kk2
          · obtain ⟨hl1, hl2, hl3, hret⟩ := hlk1
            have cb := va_cnB (R := R) (s := s) (args := args) (own := jp_O (jm_q M)) (index := idx) (bytes := N.2.1) (maxL := N.2.2.1) (ret := N.2.2.2.1) (ws := jm_ws N) (rm := jm_room d k n) (mc := k) (ms := n) (jm_n N) hts (jm_good hok) rfl rfl rfl (hnn.1 _ hl1) (hts _ hok.2.1) ⟨hok.2.2.2.1.1, hok.2.2.2.1.2, hok.2.2.2.2.1⟩ (room hok)
            rw [hret] at cb
            have hrun := va_runIN (b := jm_a base sa a) (As := (st.take (jm_n N)).reverse.map (jm_v base sa)) (rest := r.map (jm_v base sa)) (g := F0 m pc ls (st.map (jm_v base sa))) (H := H) (locs := locs) (cells := cells) (slots := slots) (l := l) (e := e) (below := below) (meth := meth) CF hM ⟨cb, hl3, hts _ hl2⟩
              ⟨hblind, hpre⟩ rfl hnn2 hl.1 hst' (by rw [jm_cats]; show 2 * 0 + _ ≤ 8; have := hcnd.2.1; omega) hd ⟨hc, hsl⟩
            exact jm_back hrun hS kk2
        · cases h
      · cases h
    · cases h
  · cases h
end JM9
