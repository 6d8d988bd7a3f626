/-! THE PURE MACHINE, part 11: a method that throws (new E("text") thrown before anything is written) -/
/-- cells, read -/
def jm_cellr (X : jm_X) (M : jm_M) (i : Instr) (len : Nat) (st : List Value) (S : jm_S) : Option (List Value) := match i, len, st with
  | .getfield idx, 3, .ref a :: r => (match jp_F (jm_q M) idx with
    | some f => if a < S.1 then (match S.2 a with
      | .inr o => if o.1 = f.1 then (match o.2[f.2.1]? with
        | some v => some (v :: r)
        | none => none) else none
      | .inl _ => none) else none
    | none => none)
  | i, 1, .int j :: .ref a :: r => if a < S.1 then (match jm_rd i j (S.2 a) with
    | some v => some (v :: r)
    | none => none) else none
  | _, _, _ => none
/-- a step that writes nothing -/
def jm_rst (X : jm_X) (M : jm_M) (i : Instr) (len pc : Nat) (lv : jm_L) (st : List Value) (S : jm_S) : Option (Nat × jm_L × List Value) :=
  match jm_k i len with
  | some v => some (pc + len, lv, v :: st)
  | none => match jm_ld i len with
  | some q => (match jm_get lv q.1 with
    | some v => if jm_isk q.2 v = true then some (pc + len, lv, v :: st) else none
    | none => none)
  | none => match jm_sr i len with
  | some q => (match st with
    | v :: r => if jm_isk q.2 v = true ∧ q.1 + v.category ≤ M.2.2.1 then some (pc + len, if q.2 = 1 then jm_set2 lv q.1 v else jm_set1 lv q.1 v, r) else none
    | [] => none)
  | none => match jm_br i len pc st with
  | some q => some (q.1, lv, q.2)
  | none => match jm_cellr X M i len st S with
  | some q => some (pc + len, lv, q)
  | none => jm_mis M i len pc lv st
/-- the number of the exception that a method throws -/
def jm_thw (X : jm_X) : Nat → Nat → jm_M → Nat → jm_L → List Value → jm_S → Option Nat
  | 0, _, _, _, _, _, _ => none
  | n + 1, d, M, pc, lv, st, S => match decode M.2.1 pc with
    | .error _ => none
    | .ok (i, len) => match jm_rst X M i len pc lv st S with
      | some q => jm_thw X n d M q.1 q.2.1 q.2.2 S
      | none => match jm_thr M i len pc with
        | some ex => if 6 ≤ d ∧ (st.map fun v => v.category).sum ≤ 4 ∧ S.1 < jm_lim then some ex else none
        | none => match jm_inv M i len st S with
          | some q => if q.2.1 = 0 then (match d with
            | 0 => none
            | d' + 1 => jm_thw X n d' q.1 0 (lv_args 0 q.2.2.1) [] S) else none
          | none => none
section JM11
variable {p : Program} {l : Launch} {e : Env} {R : Room} {s : State} {m : MethodId} {args : Array Value} {below : List Frame} {meth : Method} {c : Code} {H : Heap} {locs : List Loc} {cells slots : Nat} {Q : State → Prop}
variable {D : va_G} {dA : Nat → ClassId} {base pc len pc' : Nat} {sa : Nat → Nat} {X : jm_X} {M N : jm_M} {i : Instr} {lv lv' : jm_L} {st st' : List Value} {S S' : jm_S} {ls : Array Slot}
theorem jm_cellr_ok (C : jm_ctx p s m args meth c D dA base sa X M) (hd : decode M.2.1 pc = .ok (i, len)) (h : jm_cellr X M i len st S = some st') (hH : jm_H D jCl dA base sa S H) (hlim : S.1 ≤ jm_lim)
    (kk : W p l e R s m args below meth c H locs cells slots Q (F0 m (pc + len) ls (st'.map (jm_v base sa)))) : W p l e R s m args below meth c H locs cells slots Q (F0 m pc ls (st.map (jm_v base sa))) := by
  obtain ⟨hx, hb, hml, hown, hts, hnn, hK, hst, hini, hlk⟩ := C
  unfold jm_cellr at h
  split at h
  · split at h
    · rename_i f hf
      obtain ⟨hci, hj, hlink, -, hdc⟩ := jp_F_ok _ _ _ hf
      obtain ⟨hcl, hin, hnm, hty⟩ := jp_cl _ (Nat.lt_of_lt_of_le hci (by decide))
      split at h
      · rename_i ha
        split at h
        · rename_i o ho
          split at h
          · rename_i ho1
            split at h
            · rename_i v hv
              cases h
              exact jm_getf_ok (host := "") hx hb hts hin hown hK hH hlim ha (show S.2 _ = .inr (f.1, o.2) by rw [ho, ← ho1]) hcl _ hj (Or.inl hlink) hv hd kk
            · cases h
          · cases h
        · cases h
      · cases h
    · cases h
  · split at h
    · rename_i ha
      split at h
      · rename_i v hv
        cases h
        unfold jm_rd at hv
        split at hv
        · rename_i hq
          split at hv
          · rename_i hi; cases hv; exact jm_iald_ok hx hb hK hH hlim ha hq (jm_in_ok hi) hd kk
          · cases hv
        · rename_i hq
          split at hv
          · rename_i hi; cases hv; exact jm_zald_ok hx hb hK hH hlim ha hq (jm_in_ok hi) hd kk
          · cases hv
        · rename_i hq
          split at hv
          · rename_i hi; cases hv; exact jm_bald_ok hx hb hK hH hlim ha hq (jm_in_ok hi) hd kk
          · cases hv
        · rename_i hq
          split at hv
          · rename_i hi; cases hv; exact jm_lald_ok hx hb hK hH hlim ha hq (jm_in_ok hi) hd kk
          · cases hv
        · cases hv
      · cases h
    · cases h
  · cases h
theorem jm_rst_ok (C : jm_ctx p s m args meth c D dA base sa X M) (hd : decode M.2.1 pc = .ok (i, len)) (h : jm_rst X M i len pc lv st S = some (pc', lv', st')) (hH : jm_H D jCl dA base sa S H) (hl : lv_has ls M.2.2.1 (jm_lv base sa lv)) (hlim : S.1 ≤ jm_lim)
    (kk : ∀ ls1 : Array Slot, lv_has ls1 M.2.2.1 (jm_lv base sa lv') → W p l e R s m args below meth c H locs cells slots Q (F0 m pc' ls1 (st'.map (jm_v base sa)))) : W p l e R s m args below meth c H locs cells slots Q (F0 m pc ls (st.map (jm_v base sa))) := by
  have hx := C.1
  have hb := C.2.1
  unfold jm_rst at h
  split at h
  · rename_i v hv; cases h; exact jm_k_ok (base := base) (sa := sa) hx hb hd hv (kk ls hl)
  · split at h
    · rename_i q hq
      split at h
      · rename_i v hv
        split at h
        · rename_i hk; cases h; exact jm_ld_ok hx hb hd hq hl hv hk (kk ls hl)
        · cases h
      · cases h
    · split at h
      · rename_i q hq
        split at h
        · rename_i v r
          split at h
          · rename_i hk
            cases h
            refine jm_sr_ok hx hb hd hq hl hk.1 ?_ (fun ls' h' => kk ls' h')
            rcases lv_cat v with h1 | h1
            · exact Or.inr ⟨by have := hk.2; omega, h1⟩
            · exact Or.inl (by have := hk.2; omega)
          · cases h
        · cases h
      · split at h
        · rename_i q hq; cases h; exact jm_br_ok hx hb hd hq (kk ls hl)
        · split at h
          · rename_i q hq; cases h; exact jm_cellr_ok C hd hq hH hlim (kk ls hl)
          · exact jm_mis_ok C hd h hl kk
end JM11
/-- how a method has thrown: E's new object, at the end of the heap; nothing else has changed -/
def jm_QT (below : List Frame) (s : State) (ex : Nat) : State → Prop := fun t =>
  t.status = .running ∧ Ended t below (.threw s.heap.size) ∧ s.WarmedH t.vm ∧ s.sameButNew ({ t with vm := s.vm } : State) [] 1 6 ∧ ∃ ce : Cell, t.heap[s.heap.size]? = some ce ∧ s.vm.findClass (jp_C (jp_nobj + ex)) = some ce.cls ∧ ce.vm = .none
