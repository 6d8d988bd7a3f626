/-! THE PURE MACHINE, part 3: cells -/
def jm_E (base : Nat) (sa : Nat → Nat) (dA : Nat → ClassId) (x : jm_c) : va_E := match x with
  | .inl (t, n, .inr (.inr (.inr (.inr g)))) => .inl (dA t, n, .inr (.inr (.inr (.inr (fun j => (g j).map (jm_a base sa))))))
  | .inl (t, a) => .inl (dA t, a)
  | .inr (ci, fs) => .inr (ci, fs.map (jm_v base sa))
/-- the heap holds the store S, from the address base on, and ends there -/
def jm_H (D : va_G) (cl : List vw_C) (dA : Nat → ClassId) (base : Nat) (sa : Nat → Nat) (S : jm_S) (H : Heap) : Prop :=
  H.size = base + S.1 ∧ ∀ k, k < S.1 → va_at D cl (base + k, jm_E base sa dA (S.2 k)) H
def jm_up (S : jm_S) (k : Nat) (x : jm_c) : jm_S := (S.1, va_up S.2 k x)
def jm_add (S : jm_S) (x : jm_c) : jm_S := (S.1 + 1, va_up S.2 S.1 x)
theorem jm_H.up {D : va_G} {cl : List vw_C} {dA : Nat → ClassId} {base : Nat} {sa : Nat → Nat} {S : jm_S} {H H1 : Heap} {k : Nat} {x : jm_c} (h : jm_H D cl dA base sa S H) (z : H1.size = H.size) (oq : ∀ q : Nat, q ≠ base + k → H1[q]? = H[q]?) (hx : va_at D cl (base + k, jm_E base sa dA x) H1) : jm_H D cl dA base sa (jm_up S k x) H1 := by
  refine ⟨by rw [z]; exact h.1, fun j hj => ?_⟩
  by_cases hjk : j = k
  · subst hjk
    show va_at D cl (base + j, jm_E base sa dA (va_up S.2 j x j)) H1
    rw [va_up_self]
    exact hx
  · show va_at D cl (base + j, jm_E base sa dA (va_up S.2 k x j)) H1
    rw [va_up_ne _ _ hjk]
    exact (h.2 j hj).kept (oq _ (by show base + j ≠ base + k; omega))
theorem jm_H.add {D : va_G} {cl : List vw_C} {dA : Nat → ClassId} {base : Nat} {sa : Nat → Nat} {S : jm_S} {H H1 : Heap} {x : jm_c} (h : jm_H D cl dA base sa S H) (z : H1.size = base + S.1 + 1) (oq : ∀ q : Nat, q < base + S.1 → H1[q]? = H[q]?) (hx : va_at D cl (base + S.1, jm_E base sa dA x) H1) : jm_H D cl dA base sa (jm_add S x) H1 := by
  refine ⟨by rw [z]; rfl, fun j hj => ?_⟩
  have hj' : j < S.1 + 1 := hj
  by_cases hjk : j = S.1
  · subst hjk
    show va_at D cl (base + S.1, jm_E base sa dA (va_up S.2 S.1 x S.1)) H1
    rw [va_up_self]
    exact hx
  · show va_at D cl (base + j, jm_E base sa dA (va_up S.2 S.1 x j)) H1
    rw [va_up_ne _ _ hjk]
    exact (h.2 j (by omega)).kept (oq _ (by show base + j < base + S.1; omega))
theorem jm_one {D : va_G} {cl : List vw_C} {q : Nat × va_E} {H : Heap} (h : va_at D cl q H) : va_P D cl [q] H := by
  intro k x hx
  have hk : k < 1 := (List.getElem?_eq_some_iff.mp hx).1
  rw [show k = 0 by omega] at hx
  cases hx
  exact h
/-- the types of arrays, by number -/
def jm_tys (dA : Nat → ClassId) : List (ClassId × FieldType) := [(dA 0, .int), (dA 1, .long), (dA 2, .boolean), (dA 3, .byte)]
/-- may the value be laid into a field of the type -/
def jm_fit (ty : FieldType) (v : Value) : Bool := match ty, v with
  | .int, .int _ => true
  | .long, .long _ => true
  | .boolean, .int x => x == 0 || x == 1
  | .object _, .ref _ => true
  | .array _, .ref _ => true
  | .object _, .null => true
  | .array _, .null => true
  | _, _ => false
theorem jm_fit_ok {ty : FieldType} {v : Value} (base : Nat) (sa : Nat → Nat) (h : jm_fit ty v = true) : narrow ty (jm_v base sa v) = jm_v base sa v ∧ fits ty (jm_v base sa v) = true := by
  unfold jm_fit at h
  split at h
  · exact ⟨rfl, rfl⟩
  · exact ⟨rfl, rfl⟩
  · rename_i x
    rcases (by simpa using h : x = 0 ∨ x = 1) with rfl | rfl <;> exact ⟨rfl, rfl⟩
  · exact ⟨rfl, rfl⟩
  · exact ⟨rfl, rfl⟩
  · exact ⟨rfl, rfl⟩
  · exact ⟨rfl, rfl⟩
  · cases h
section JM3
variable {p : Program} {l : Launch} {e : Env} {R : Room} {s : State} {m : MethodId} {args : Array Value} {below : List Frame} {meth : Method} {c : Code} {H H0 : Heap} {locs : List Loc} {cells slots : Nat} {Q : State → Prop}
variable {cc : ByteArray} {pc base : Nat} {sa : Nat → Nat} {dA : Nat → ClassId} {D : va_G} {cl : List vw_C} {tys : List (ClassId × FieldType)} {ls : Array Slot} {rest : List Value} {S : jm_S} {k : Nat}
theorem jm_a_lo (hk : k < S.1) (hlim : S.1 ≤ jm_lim) : jm_a base sa k = base + k := if_pos (by omega)
theorem jm_getf_ok (hx : p.tables.exec = Jvm.exec) (hb : c.code = cc) {own C host : String} {T : u_T} {N ci index : Nat} {Ts : List Cond} (hts : ∀ w ∈ Ts, w.before args s = true) (hin : ∀ w ∈ u_ws C T N, w ∈ Ts) (hown : s.vm.findClass own = some m.cls) (hK : va_K D cl tys s) (hH : jm_H D cl dA base sa S H) (hlim : S.1 ≤ jm_lim) (hk : k < S.1) {fs : List Value} (he : S.2 k = .inr (ci, fs)) (hc : cl[ci]? = some (C, T, N)) (j : Nat) (hj : j < N)
    (hlink : (Cond.fieldLink own index (T j).1 (T j).2.1 (T j).2.2.1) ∈ Ts ∨ (Cond.fieldLinkNest own index (T j).1 (T j).2.1 (T j).2.2.1 host) ∈ Ts) {v : Value} (hv : fs[j]? = some v) (hdg : decode cc pc = .ok (.getfield index, 3))
    (kk : W p l e R s m args below meth c H locs cells slots Q (F0 m (pc + 3) ls (jm_v base sa v :: rest))) : W p l e R s m args below meth c H locs cells slots Q (F0 m pc ls (jm_v base sa (.ref k) :: rest)) := by
  show W p l e R s m args below meth c H locs cells slots Q (F0 m pc ls (.ref (jm_a base sa k) :: rest))
  rw [jm_a_lo hk hlim]
  have h1 := hH.2 k hk
  rw [he] at h1
  have hv' : (fs.map (jm_v base sa))[j]? = some (jm_v base sa v) := by rw [List.getElem?_map, hv]; rfl
  rcases hlink with h | h
  · exact va_get hx hb hts hin hown hK (jm_one h1) 0 rfl hc j hj (hts _ h) (fun _ h9 => h9) hv' hdg kk
  · exact va_getN hx hb hts hin hown hK (jm_one h1) 0 rfl hc j hj (hts _ h) (fun _ h9 => h9) hv' hdg kk
theorem jm_putf_ok (hx : p.tables.exec = Jvm.exec) (hb : c.code = cc) {own C host : String} {T : u_T} {N ci index : Nat} {Ts : List Cond} (hts : ∀ w ∈ Ts, w.before args s = true) (hin : ∀ w ∈ u_ws C T N, w ∈ Ts) (ty0 : Nat → FieldType) (hty : ∀ k, k < N → parseFieldDescriptor (T k).2.2.1 = some (ty0 k)) (hnm : ∀ a, a < N → ∀ b, b < N → a ≠ b → (T a).2.1 ≠ (T b).2.1)
    (hown : s.vm.findClass own = some m.cls) (hK : va_K D cl tys s) (hH : jm_H D cl dA base sa S H) (hS : va_S (fun q => base ≤ q) H0 H locs) (hlim : S.1 ≤ jm_lim) (hk : k < S.1) {fs : List Value} (he : S.2 k = .inr (ci, fs)) (hc : cl[ci]? = some (C, T, N)) (j : Nat) (hj : j < N)
    (hlink : ((Cond.fieldLink own index (T j).1 (T j).2.1 (T j).2.2.1) ∈ Ts ∧ ((T j).2.2.2 = true → meth.name = "<init>" ∧ own = (T j).1)) ∨ ((Cond.fieldLinkNest own index (T j).1 (T j).2.1 (T j).2.2.1 host) ∈ Ts ∧ (T j).2.2.2 = false)) {v : Value} (hf : jm_fit (ty0 j) v = true) (hl : j < fs.length) (hdg : decode cc pc = .ok (.putfield index, 3))
    (kk : ∀ (H1 : Heap) (locs1 : List Loc), jm_H D cl dA base sa (jm_up S k (.inr (ci, fs.set j v))) H1 → va_S (fun q => base ≤ q) H0 H1 locs1 → W p l e R s m args below meth c H1 locs1 cells slots Q (F0 m (pc + 3) ls rest)) : W p l e R s m args below meth c H locs cells slots Q (F0 m pc ls (jm_v base sa v :: jm_v base sa (.ref k) :: rest)) := by
  show W p l e R s m args below meth c H locs cells slots Q (F0 m pc ls (jm_v base sa v :: .ref (jm_a base sa k) :: rest))
  rw [jm_a_lo hk hlim]
  have h1 := hH.2 k hk
  rw [he] at h1
  obtain ⟨hn, hfit⟩ := jm_fit_ok base sa hf
  have hd := hty j hj
  have hap := va_apart (own := own) hts hin ty0 hty hnm hK hc
  obtain ⟨r, h1, cell, q1, q2, q3, q4⟩ := h1
  have hr : r = (C, T, N) := Option.some.inj (h1.symm.trans hc)
  subst hr
  obtain ⟨hSl, hfc, kC, hkC, hkind⟩ := hK.1 ci _ hc
  obtain ⟨cf, kf, fi, f, hi, hsl⟩ := hSl j hj
  have hlays := u_lays hts hin hj
  have hst := (u_facts hfc hkC hlays hi).1
  have hl' : j < (fs.map (jm_v base sa)).length := by rw [List.length_map]; exact hl
  have fin : ∀ H' : Heap, H'[base + k]? = some (cell.setSlot f.slot (jm_v base sa v)) → H'.size = H.size → (∀ q, q ≠ base + k → H'[q]? = H[q]?) → W p l e R s m args below meth c H' (locs ++ [⟨base + k, f.slot⟩]) cells slots Q (F0 m (pc + 3) ls rest) := by
    intro H' e1 e2 e3
    rw [hsl] at e1 ⊢
    refine kk H' _ (hH.up e2 e3 ?_) (hS.put e2 e3 (Nat.le_add_right _ _))
    refine ⟨_, hc, ?_⟩
    show t_OB (base + k) (D.1 ci) N (D.2 ci) H' (vp_V ((fs.set j v).map (jm_v base sa)))
    rw [List.map_set]
    exact t_OB.to (V := updV (vp_V (fs.map (jm_v base sa))) j (jm_v base sa v)) ⟨_, e1, q2, q3, t_set q4 hap hj (jm_v base sa v)⟩ (fun i _ => vp_updV_set hl' (jm_v base sa v) i)
  have hlt : f.slot < cell.slots.size := by rw [hsl]; exact k2_hasslot (q4 j hj)
  rcases hlink with ⟨h, hfin⟩ | ⟨h, hfin⟩
  · by_cases hb4 : (T j).2.2.2 = true
    · obtain ⟨hin2, hdecl⟩ := hfin hb4
      have hlay := hts _ (hin _ (u_in_lay hj))
      unfold u_lay at hlay
      rw [if_pos hb4] at hlay
      have hcf : m.cls = cf := by
        obtain ⟨_, _, c', _, _, _, -, -, hf', -, -, -, hown2, -⟩ := Cond.laysFinal_spec hlay
        have e1 : c' = cf := by have := hi.symm.trans hf'; simp at this; exact this.1.symm
        rw [← hdecl] at hown2
        rw [← e1]; exact Option.some.inj (hown.symm.trans hown2)
      have h6 := u_fits hfc hkC hkind (Or.inr hlay) hi hd hn hfit
      exact W.putFinK hx hb hown (hts _ h) hi hst hcf hin2 (by rw [q2]; exact h6) q1 q3 hlt rfl rfl hdg fin
    · have hlay := hts _ (hin _ (u_in_lay hj))
      unfold u_lay at hlay
      rw [if_neg hb4] at hlay
      have h6 := u_store hfc hkC hkind hlay hi hd hn hfit
      exact W.putK hx hb (f := f) ⟨hown, hts _ h, ⟨_, _, _, hi⟩, hst⟩ (by rw [q2]; exact h6) q1 q3 hlt rfl rfl hdg fin
  · have hlay := hts _ (hin _ (u_in_lay hj))
    unfold u_lay at hlay
    rw [if_neg (by rw [hfin]; decide)] at hlay
    have h6 := u_store hfc hkC hkind hlay hi hd hn hfit
    exact va_WputK hx hb hown (hts _ h) hi hst (by rw [q2]; exact h6) q1 q3 hlt rfl rfl hdg fin
/-- an element, read -/
theorem jm_iald_ok (hx : p.tables.exec = Jvm.exec) (hb : c.code = cc) (hK : va_K D cl (jm_tys dA) s) (hH : jm_H D cl dA base sa S H) (hlim : S.1 ≤ jm_lim) (hk : k < S.1) {n : Nat} {f : Nat → Int32} (he : S.2 k = .inl (0, n, .inl f)) {i : Int32} (hin : vp_in i n) (hdg : decode cc pc = .ok (.iaload, 1))
    (kk : W p l e R s m args below meth c H locs cells slots Q (F0 m (pc + 1) ls (.int (f i.toNatClampNeg) :: rest))) : W p l e R s m args below meth c H locs cells slots Q (F0 m pc ls (.int i :: jm_v base sa (.ref k) :: rest)) := by
  show W p l e R s m args below meth c H locs cells slots Q (F0 m pc ls (.int i :: .ref (jm_a base sa k) :: rest))
  rw [jm_a_lo hk hlim]
  have h1 := hH.2 k hk
  rw [he] at h1
  exact va_iald hx hb hK (jm_one h1) 0 0 rfl rfl hin hdg kk
theorem jm_zald_ok (hx : p.tables.exec = Jvm.exec) (hb : c.code = cc) (hK : va_K D cl (jm_tys dA) s) (hH : jm_H D cl dA base sa S H) (hlim : S.1 ≤ jm_lim) (hk : k < S.1) {n : Nat} {f : Nat → Int32} (he : S.2 k = .inl (2, n, .inl f)) {i : Int32} (hin : vp_in i n) (hdg : decode cc pc = .ok (.baload, 1))
    (kk : W p l e R s m args below meth c H locs cells slots Q (F0 m (pc + 1) ls (.int (f i.toNatClampNeg) :: rest))) : W p l e R s m args below meth c H locs cells slots Q (F0 m pc ls (.int i :: jm_v base sa (.ref k) :: rest)) := by
  show W p l e R s m args below meth c H locs cells slots Q (F0 m pc ls (.int i :: .ref (jm_a base sa k) :: rest))
  rw [jm_a_lo hk hlim]
  have h1 := hH.2 k hk
  rw [he] at h1
  exact va_zald hx hb hK (jm_one h1) 0 2 rfl rfl hin hdg kk
theorem jm_bald_ok (hx : p.tables.exec = Jvm.exec) (hb : c.code = cc) (hK : va_K D cl (jm_tys dA) s) (hH : jm_H D cl dA base sa S H) (hlim : S.1 ≤ jm_lim) (hk : k < S.1) {n : Nat} {f : Nat → Int32} (he : S.2 k = .inl (3, n, .inl f)) {i : Int32} (hin : vp_in i n) (hdg : decode cc pc = .ok (.baload, 1))
    (kk : W p l e R s m args below meth c H locs cells slots Q (F0 m (pc + 1) ls (.int (f i.toNatClampNeg) :: rest))) : W p l e R s m args below meth c H locs cells slots Q (F0 m pc ls (.int i :: jm_v base sa (.ref k) :: rest)) := by
  show W p l e R s m args below meth c H locs cells slots Q (F0 m pc ls (.int i :: .ref (jm_a base sa k) :: rest))
  rw [jm_a_lo hk hlim]
  have h1 := hH.2 k hk
  rw [he] at h1
  exact va_bald hx hb hK (jm_one h1) 0 3 rfl rfl hin hdg kk
theorem jm_lald_ok (hx : p.tables.exec = Jvm.exec) (hb : c.code = cc) (hK : va_K D cl (jm_tys dA) s) (hH : jm_H D cl dA base sa S H) (hlim : S.1 ≤ jm_lim) (hk : k < S.1) {n : Nat} {f : Nat → Int64} (he : S.2 k = .inl (1, n, .inr (.inl f))) {i : Int32} (hin : vp_in i n) (hdg : decode cc pc = .ok (.laload, 1))
    (kk : W p l e R s m args below meth c H locs cells slots Q (F0 m (pc + 1) ls (.long (f i.toNatClampNeg) :: rest))) : W p l e R s m args below meth c H locs cells slots Q (F0 m pc ls (.int i :: jm_v base sa (.ref k) :: rest)) := by
  show W p l e R s m args below meth c H locs cells slots Q (F0 m pc ls (.int i :: .ref (jm_a base sa k) :: rest))
  rw [jm_a_lo hk hlim]
  have h1 := hH.2 k hk
  rw [he] at h1
  exact va_lald hx hb hK (jm_one h1) 0 1 rfl rfl hin hdg kk
theorem jm_alen_ok (hx : p.tables.exec = Jvm.exec) (hb : c.code = cc) (hK : va_K D cl (jm_tys dA) s) (hH : jm_H D cl dA base sa S H) (hlim : S.1 ≤ jm_lim) (hk : k < S.1) {t n : Nat} (ht : t < 4) {x : (Nat → Int32) ⊕ (Nat → Int64) ⊕ (Nat → UInt32) ⊕ (Nat → UInt64) ⊕ (Nat → Option Nat)} (he : S.2 k = .inl (t, n, x)) (hdg : decode cc pc = .ok (.arraylength, 1))
    (kk : W p l e R s m args below meth c H locs cells slots Q (F0 m (pc + 1) ls (.int (Int32.ofNat n) :: rest))) : W p l e R s m args below meth c H locs cells slots Q (F0 m pc ls (jm_v base sa (.ref k) :: rest)) := by
  show W p l e R s m args below meth c H locs cells slots Q (F0 m pc ls (.ref (jm_a base sa k) :: rest))
  rw [jm_a_lo hk hlim]
  have h1 := hH.2 k hk
  rw [he] at h1
  have hty : ∃ ty, (jm_tys dA)[t]? = some (dA t, ty) := by
    match t, ht with
    | 0, _ => exact ⟨_, rfl⟩
    | 1, _ => exact ⟨_, rfl⟩
    | 2, _ => exact ⟨_, rfl⟩
    | 3, _ => exact ⟨_, rfl⟩
  obtain ⟨ty, hty⟩ := hty
  rcases x with f | f | f | f | f
  · exact va_alen (x := (n, .inl f)) hx hb hK (jm_one h1) 0 t rfl hty rfl hdg kk
  · exact va_alen (x := (n, .inr (.inl f))) hx hb hK (jm_one h1) 0 t rfl hty rfl hdg kk
  · exact va_alen (x := (n, .inr (.inr (.inl f)))) hx hb hK (jm_one h1) 0 t rfl hty rfl hdg kk
  · exact va_alen (x := (n, .inr (.inr (.inr (.inl f))))) hx hb hK (jm_one h1) 0 t rfl hty rfl hdg kk
  · exact va_alen (x := (n, .inr (.inr (.inr (.inr (fun j => (f j).map (jm_a base sa))))))) hx hb hK (jm_one h1) 0 t rfl hty rfl hdg kk
/-- an element, written -/
theorem jm_iast_ok (hx : p.tables.exec = Jvm.exec) (hb : c.code = cc) (hK : va_K D cl (jm_tys dA) s) (hH : jm_H D cl dA base sa S H) (hS : va_S (fun q => base ≤ q) H0 H locs) (hlim : S.1 ≤ jm_lim) (hk : k < S.1) {n : Nat} {f : Nat → Int32} (he : S.2 k = .inl (0, n, .inl f)) {i x : Int32} (hin : vp_in i n) (hdg : decode cc pc = .ok (.iastore, 1))
    (kk : ∀ (H1 : Heap) (locs1 : List Loc), jm_H D cl dA base sa (jm_up S k (.inl (0, n, .inl (upd f i.toNatClampNeg x)))) H1 → va_S (fun q => base ≤ q) H0 H1 locs1 → W p l e R s m args below meth c H1 locs1 cells slots Q (F0 m (pc + 1) ls rest)) : W p l e R s m args below meth c H locs cells slots Q (F0 m pc ls (.int x :: .int i :: jm_v base sa (.ref k) :: rest)) := by
  show W p l e R s m args below meth c H locs cells slots Q (F0 m pc ls (.int x :: .int i :: .ref (jm_a base sa k) :: rest))
  rw [jm_a_lo hk hlim]
  have h1 := hH.2 k hk
  rw [he] at h1
  have h1' : H[base + k]? = some (vp_cell (dA 0) (n, .inl f)) := h1
  refine W.iast hx hb h1' ((hK.2 0 (dA 0, .int) rfl).1 n (fun j => .int (f j))) (fun q => by cases q) (by show ¬ (i < 0 ∨ (arrV _ _ _).slots.size ≤ _); rw [arrV_size]; exact hin) rfl rfl hdg fun H1 e z oq => ?_
  refine kk H1 _ (hH.up z oq ?_) (hS.put z oq (Nat.le_add_right _ _))
  show H1[base + k]? = some (vp_cell (dA 0) (n, .inl (upd f i.toNatClampNeg x)))
  rw [e, vp_cell_i, vp_cell_i, arrV_store]
  congr 2
  funext q
  by_cases hq : q = i.toNatClampNeg
  · subst hq
    simp [updV, upd]
  · simp [updV, upd, hq]
theorem jm_zast_ok (hx : p.tables.exec = Jvm.exec) (hb : c.code = cc) (hK : va_K D cl (jm_tys dA) s) (hH : jm_H D cl dA base sa S H) (hS : va_S (fun q => base ≤ q) H0 H locs) (hlim : S.1 ≤ jm_lim) (hk : k < S.1) {n : Nat} {f : Nat → Int32} (he : S.2 k = .inl (2, n, .inl f)) {i x : Int32} (hin : vp_in i n) (hdg : decode cc pc = .ok (.bastore, 1))
    (kk : ∀ (H1 : Heap) (locs1 : List Loc), jm_H D cl dA base sa (jm_up S k (.inl (2, n, .inl (upd f i.toNatClampNeg (x &&& 1))))) H1 → va_S (fun q => base ≤ q) H0 H1 locs1 → W p l e R s m args below meth c H1 locs1 cells slots Q (F0 m (pc + 1) ls rest)) : W p l e R s m args below meth c H locs cells slots Q (F0 m pc ls (.int x :: .int i :: jm_v base sa (.ref k) :: rest)) := by
  show W p l e R s m args below meth c H locs cells slots Q (F0 m pc ls (.int x :: .int i :: .ref (jm_a base sa k) :: rest))
  rw [jm_a_lo hk hlim]
  have h1 := hH.2 k hk
  rw [he] at h1
  have h1' : H[base + k]? = some (vp_cell (dA 2) (n, .inl f)) := h1
  refine W.zast hx hb h1' ((hK.2 2 (dA 2, .boolean) rfl).1 n (fun j => .int (f j))) (fun q => by cases q) (by show ¬ (i < 0 ∨ (arrV _ _ _).slots.size ≤ _); rw [arrV_size]; exact hin) rfl rfl hdg fun H1 e z oq => ?_
  refine kk H1 _ (hH.up z oq ?_) (hS.put z oq (Nat.le_add_right _ _))
  show H1[base + k]? = some (vp_cell (dA 2) (n, .inl (upd f i.toNatClampNeg (x &&& 1))))
  rw [e, vp_cell_i, vp_cell_i, arrV_store]
  congr 2
  funext q
  by_cases hq : q = i.toNatClampNeg
  · subst hq
    simp [updV, upd, narrow]
  · simp [updV, upd, hq]
theorem jm_bast_ok (hx : p.tables.exec = Jvm.exec) (hb : c.code = cc) (hK : va_K D cl (jm_tys dA) s) (hH : jm_H D cl dA base sa S H) (hS : va_S (fun q => base ≤ q) H0 H locs) (hlim : S.1 ≤ jm_lim) (hk : k < S.1) {n : Nat} {f : Nat → Int32} (he : S.2 k = .inl (3, n, .inl f)) {i x : Int32} (hin : vp_in i n) (hdg : decode cc pc = .ok (.bastore, 1))
    (kk : ∀ (H1 : Heap) (locs1 : List Loc), jm_H D cl dA base sa (jm_up S k (.inl (3, n, .inl (upd f i.toNatClampNeg x.toInt8.toInt32)))) H1 → va_S (fun q => base ≤ q) H0 H1 locs1 → W p l e R s m args below meth c H1 locs1 cells slots Q (F0 m (pc + 1) ls rest)) : W p l e R s m args below meth c H locs cells slots Q (F0 m pc ls (.int x :: .int i :: jm_v base sa (.ref k) :: rest)) := by
  show W p l e R s m args below meth c H locs cells slots Q (F0 m pc ls (.int x :: .int i :: .ref (jm_a base sa k) :: rest))
  rw [jm_a_lo hk hlim]
  have h1 := hH.2 k hk
  rw [he] at h1
  have h1' : H[base + k]? = some (vp_cell (dA 3) (n, .inl f)) := h1
  refine W.bast hx hb h1' ((hK.2 3 (dA 3, .byte) rfl).1 n (fun j => .int (f j))) (fun q => by cases q) (by show ¬ (i < 0 ∨ (arrV _ _ _).slots.size ≤ _); rw [arrV_size]; exact hin) rfl rfl hdg fun H1 e z oq => ?_
  refine kk H1 _ (hH.up z oq ?_) (hS.put z oq (Nat.le_add_right _ _))
  show H1[base + k]? = some (vp_cell (dA 3) (n, .inl (upd f i.toNatClampNeg x.toInt8.toInt32)))
  rw [e, vp_cell_i, vp_cell_i, arrV_store]
  congr 2
  funext q
  by_cases hq : q = i.toNatClampNeg
  · subst hq
    simp [updV, upd, narrow]
  · simp [updV, upd, hq]
theorem jm_last_ok (hx : p.tables.exec = Jvm.exec) (hb : c.code = cc) (hK : va_K D cl (jm_tys dA) s) (hH : jm_H D cl dA base sa S H) (hS : va_S (fun q => base ≤ q) H0 H locs) (hlim : S.1 ≤ jm_lim) (hk : k < S.1) {n : Nat} {f : Nat → Int64} (he : S.2 k = .inl (1, n, .inr (.inl f))) {i : Int32} {x : Int64} (hin : vp_in i n) (hdg : decode cc pc = .ok (.lastore, 1))
    (kk : ∀ (H1 : Heap) (locs1 : List Loc), jm_H D cl dA base sa (jm_up S k (.inl (1, n, .inr (.inl (vp_updL f i.toNatClampNeg x))))) H1 → va_S (fun q => base ≤ q) H0 H1 locs1 → W p l e R s m args below meth c H1 locs1 cells slots Q (F0 m (pc + 1) ls rest)) : W p l e R s m args below meth c H locs cells slots Q (F0 m pc ls (.long x :: .int i :: jm_v base sa (.ref k) :: rest)) := by
  show W p l e R s m args below meth c H locs cells slots Q (F0 m pc ls (.long x :: .int i :: .ref (jm_a base sa k) :: rest))
  rw [jm_a_lo hk hlim]
  have h1 := hH.2 k hk
  rw [he] at h1
  have h1' : H[base + k]? = some (vp_cell (dA 1) (n, .inr (.inl f))) := h1
  refine W.last hx hb h1' ((hK.2 1 (dA 1, .long) rfl).1 n (fun j => .long (f j))) (fun q => by cases q) (by show ¬ (i < 0 ∨ (arrV _ _ _).slots.size ≤ _); rw [arrV_size]; exact hin) rfl rfl hdg fun H1 e z oq => ?_
  refine kk H1 _ (hH.up z oq ?_) (hS.put z oq (Nat.le_add_right _ _))
  show H1[base + k]? = some (vp_cell (dA 1) (n, .inr (.inl (vp_updL f i.toNatClampNeg x))))
  rw [e, vp_cell_l, vp_cell_l, arrV_store]
  congr 2
  funext q
  by_cases hq : q = i.toNatClampNeg
  · subst hq
    simp [updV, vp_updL]
  · simp [updV, vp_updL, hq]
end JM3
