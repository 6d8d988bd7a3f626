/-! THE PURE MACHINE, part 4: new cells, constants of the pool, arrays that nobody writes -/
theorem jm_v_dflt (base : Nat) (sa : Nat → Nat) (t : FieldType) : jm_v base sa (defaultValue t) = defaultValue t := by cases t <;> rfl
def jm_new (N : Nat) (ty : Nat → FieldType) : List Value := (List.range N).map fun j => defaultValue (ty j)
theorem jm_new_V (base : Nat) (sa : Nat → Nat) (N : Nat) (ty : Nat → FieldType) (j : Nat) (hj : j < N) : defaultValue (ty j) = vp_V ((jm_new N ty).map (jm_v base sa)) j := by
  simp [vp_V, jm_new, hj, jm_v_dflt]
/-- the number of an array's type -/
def jm_nt (a : ArrayType) : Option Nat := match a with
  | .int => some 0
  | .long => some 1
  | .boolean => some 2
  | .byte => some 3
  | _ => none
def jm_blank (t n : Nat) : jm_c := if t = 1 then .inl (1, n, .inr (.inl fun _ => 0)) else .inl (t, n, .inl fun _ => 0)
section JM4
variable {p : Program} {l : Launch} {e : Env} {R : Room} {s : State} {m : MethodId} {args : Array Value} {below : List Frame} {meth : Method} {c : Code} {H H0 : Heap} {locs : List Loc} {cells slots : Nat} {Q : State → Prop}
variable {cc : ByteArray} {pc base : Nat} {sa : Nat → Nat} {dA : Nat → ClassId} {D : va_G} {cl : List vw_C} {tys : List (ClassId × FieldType)} {ls : Array Slot} {rest : List Value} {S : jm_S} {k : Nat}
theorem jm_new_ok (hx : p.tables.exec = Jvm.exec) (hb : c.code = cc) {own C : String} {T : u_T} {N ci index : Nat} {Ts : List Cond} (hts : ∀ w ∈ Ts, w.before args s = true) (hin : ∀ w ∈ u_ws C T N, w ∈ Ts) (ty : Nat → FieldType) (hty : ∀ k, k < N → parseFieldDescriptor (T k).2.2.1 = some (ty k)) (hown : s.vm.findClass own = some m.cls)
    (hcl : Cond.classLink own index C ∈ Ts) (hinst : Cond.instantiable C N ∈ Ts) (hini : Cond.initialized C ∈ Ts) (hK : va_K D cl tys s) (hH : jm_H D cl dA base sa S H) (hS : va_S (fun q => base ≤ q) H0 H locs) (hlim : S.1 < jm_lim) (hc : cl[ci]? = some (C, T, N)) (hcells : cells + 1 ≤ R.cells) (hslots : slots + N ≤ R.slots) (hdg : decode cc pc = .ok (.new index, 3))
    (kk : ∀ H1 : Heap, jm_H D cl dA base sa (jm_add S (.inr (ci, jm_new N ty))) H1 → va_S (fun q => base ≤ q) H0 H1 locs → W p l e R s m args below meth c H1 locs (cells + 1) (slots + N) Q (F0 m (pc + 3) ls (jm_v base sa (.ref S.1) :: rest))) : W p l e R s m args below meth c H locs cells slots Q (F0 m pc ls rest) := by
  have hKn := hK.1 ci _ hc
  have ha : jm_v base sa (.ref S.1) = .ref (base + S.1) := congrArg Value.ref (if_pos hlim)
  refine W.newcK hx hb hown (hts _ hcl) (hts _ hinst) (hts _ hini) rfl hdg hcells hslots hKn.2.1 hH.1 fun H1 kC hkC e1 z1 o1 => ?_
  have hkk := kk H1 (hH.add z1 o1 ⟨_, hc, (u_born ty hts hin hKn hkC e1 hty).to (fun j hj => jm_new_V base sa N ty j hj)⟩)
    ⟨by rw [z1]; exact Nat.le_trans hS.1 (by rw [hH.1]; exact Nat.le_succ _), fun q h1 h2 => by
      have hq : q < base + S.1 := by have := hS.1; rw [hH.1] at this; omega
      rw [o1 q hq]; exact hS.2.1 q h1 h2, hS.2.2⟩
  rw [ha] at hkk
  exact hkk
theorem jm_newa_ok (hx : p.tables.exec = Jvm.exec) (hb : c.code = cc) {atype : ArrayType} {t : Nat} (ht : jm_nt atype = some t) {Ts : List Cond} (hts : ∀ w ∈ Ts, w.before args s = true) (harr : Cond.arrayClass (newarray.typeOf atype) ∈ Ts) (hK : va_K D cl (jm_tys dA) s) (hH : jm_H D cl dA base sa S H) (hS : va_S (fun q => base ≤ q) H0 H locs) (hlim : S.1 < jm_lim)
    {n : Int32} (hn : ¬ n < 0) (hbig : n.toNatClampNeg ≤ 1000000) (hcells : cells + 1 ≤ R.cells) (hslots : slots + n.toNatClampNeg ≤ R.slots) (hdg : decode cc pc = .ok (.newarray atype, 2))
    (kk : ∀ H1 : Heap, jm_H D cl dA base sa (jm_add S (jm_blank t n.toNatClampNeg)) H1 → va_S (fun q => base ≤ q) H0 H1 locs → W p l e R s m args below meth c H1 locs (cells + 1) (slots + n.toNatClampNeg) Q (F0 m (pc + 2) ls (jm_v base sa (.ref S.1) :: rest))) : W p l e R s m args below meth c H locs cells slots Q (F0 m pc ls (.int n :: rest)) := by
  have ha : jm_v base sa (.ref S.1) = .ref (base + S.1) := congrArg Value.ref (if_pos hlim)
  have hbytes : n.toNatClampNeg * componentBytes (newarray.typeOf atype) ≤ 536870912 := by
    have : componentBytes (newarray.typeOf atype) ≤ 8 := by cases atype <;> decide
    calc n.toNatClampNeg * componentBytes (newarray.typeOf atype) ≤ 1000000 * 8 := Nat.mul_le_mul hbig this
      _ ≤ 536870912 := by decide
  refine va_newaK hx hb (hts _ harr) rfl hdg rfl hn rfl hbytes hcells hslots hH.1 fun H1 cA e1 z1 o1 hAr hNm => ?_
  have hcell : H1[base + S.1]? = some (vp_cell (dA t) (match jm_blank t n.toNatClampNeg with
    | .inl (_, a) => a
    | .inr _ => (0, .inl fun _ => 0))) ∧ jm_E base sa dA (jm_blank t n.toNatClampNeg) = .inl (dA t, (match jm_blank t n.toNatClampNeg with
    | .inl (_, a) => a
    | .inr _ => (0, .inl fun _ => 0))) := by
    unfold jm_nt at ht
    split at ht
    · cases ht
      have hq : s.vm.findClass ("[" ++ (FieldType.int).toString) = some (dA 0) := (hK.2 0 (dA 0, .int) rfl).2
      have hc2 : cA = dA 0 := Option.some.inj (hNm.symm.trans hq)
      exact ⟨by rw [e1, hc2]; rfl, rfl⟩
    · cases ht
      have hq : s.vm.findClass ("[" ++ (FieldType.long).toString) = some (dA 1) := (hK.2 1 (dA 1, .long) rfl).2
      have hc2 : cA = dA 1 := Option.some.inj (hNm.symm.trans hq)
      exact ⟨by rw [e1, hc2]; rfl, rfl⟩
    · cases ht
      have hq : s.vm.findClass ("[" ++ (FieldType.boolean).toString) = some (dA 2) := (hK.2 2 (dA 2, .boolean) rfl).2
      have hc2 : cA = dA 2 := Option.some.inj (hNm.symm.trans hq)
      exact ⟨by rw [e1, hc2]; rfl, rfl⟩
    · cases ht
      have hq : s.vm.findClass ("[" ++ (FieldType.byte).toString) = some (dA 3) := (hK.2 3 (dA 3, .byte) rfl).2
      have hc2 : cA = dA 3 := Option.some.inj (hNm.symm.trans hq)
      exact ⟨by rw [e1, hc2]; rfl, rfl⟩
    · cases ht
  have hkk := kk H1 (hH.add z1 o1 (by rw [hcell.2]; exact hcell.1))
    ⟨by rw [z1]; exact Nat.le_trans hS.1 (by rw [hH.1]; exact Nat.le_succ _), fun q h1 h2 => by
      have hq : q < base + S.1 := by have := hS.1; rw [hH.1] at this; omega
      rw [o1 q hq]; exact hS.2.1 q h1 h2, hS.2.2⟩
  rw [ha] at hkk
  exact hkk
end JM4
