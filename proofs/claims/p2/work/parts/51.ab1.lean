/-! THE ABSTRACT MACHINE, part 1: numbers are integers, the store is a picture of integers -/
abbrev ab_m : Type := Int → Int → Int
abbrev ab_l : Type := Nat → Int
/-- 32 bits, coming round; 64 bits -/
theorem ab_wE : ∃ f : Int → Int, ∀ x, f x = (x + 2147483648) % 4294967296 - 2147483648 := ⟨_, fun _ => rfl⟩
theorem ab_WE : ∃ f : Int → Int, ∀ x, f x = (x + 9223372036854775808) % 18446744073709551616 - 9223372036854775808 := ⟨_, fun _ => rfl⟩
noncomputable def ab_w : Int → Int := Classical.choose ab_wE
noncomputable def ab_W : Int → Int := Classical.choose ab_WE
theorem ab_w_def (x : Int) : ab_w x = (x + 2147483648) % 4294967296 - 2147483648 := Classical.choose_spec ab_wE x
theorem ab_W_def (x : Int) : ab_W x = (x + 9223372036854775808) % 18446744073709551616 - 9223372036854775808 := Classical.choose_spec ab_WE x
def ab_v (t : Nat) (x : Int) : Value := match t with
  | 0 => .int (Int32.ofInt x)
  | 1 => .long (Int64.ofInt x)
  | 4 => .int (Int32.ofInt x)
  | _ => if x < 0 then .null else .ref x.toNat
def ab_rg (t : Nat) (x : Int) : Prop := match t with
  | 0 => -2147483648 ≤ x ∧ x ≤ 2147483647
  | 1 => -9223372036854775808 ≤ x ∧ x ≤ 9223372036854775807
  | 4 => 0 ≤ x ∧ x ≤ 1
  | 5 => -128 ≤ x ∧ x ≤ 127
  | _ => True
/-- the type of the place j of the cell k -/
def ab_at (t : Nat) : Nat := match t with
  | 1 => 1
  | 2 => 4
  | 3 => 5
  | _ => 0
def ab_tg (k : Nat) (j : Int) : Nat := if 100 ≤ (ab_L k).1 then ab_at ((ab_L k).1 - 100) else ((ab_F (ab_L k).1).getD j.toNat (2, 0)).1
def ab_fl (k : Nat) (f : Int → Int) (j : Nat) (q : Nat × Int) : Value := if q.1 = 3 then .ref ((k : Int) + q.2).toNat else ab_v q.1 (f j)
def ab_cell (k : Nat) (f : Int → Int) : jm_c :=
  if (ab_L k).1 = 101 then .inl (1, (ab_L k).2, .inr (.inl fun j => Int64.ofInt (f j)))
  else if 100 ≤ (ab_L k).1 then .inl ((ab_L k).1 - 100, (ab_L k).2, .inl fun j => Int32.ofInt (f j))
  else .inr ((ab_L k).1, (ab_F (ab_L k).1).mapIdx (ab_fl k f))
def ab_Rg (μ : ab_m) : Prop := ∀ (k : Nat) (j : Int), k < 180 → ab_rg (ab_tg k j) (μ k j)
/-- the store S is pictured by μ -/
def ab_R (μ : ab_m) (S : jm_S) : Prop := 180 ≤ S.1 ∧ (∀ k, k < 180 → S.2 k = ab_cell k (μ k)) ∧ ab_Rg μ
def ab_ty : List (Nat × Nat) → Nat → Option Nat
  | [], _ => none
  | q :: r, n => bif Nat.beq q.1 n then some q.2 else ab_ty r n
abbrev ab_t : Type := Nat → Option Nat
/-- the locals lv are pictured by l, those of the types ts -/
def ab_LR (ts : ab_t) (l : ab_l) (lv : jm_L) : Prop := ∀ n t, ts n = some t → jm_get lv n = some (ab_v t (l n)) ∧ ab_rg t (l n) ∧ t < 3
def ab_sv (st : List (Nat × Int)) : List Value := st.map fun q => ab_v q.1 q.2
def ab_sr (st : List (Nat × Int)) : Prop := ∀ q ∈ st, ab_rg q.1 q.2
def ab_rt (t : Option FieldType) (r : Int) (v : Option Value) : Prop := match t with
  | none => v = none
  | some .long => v = some (.long (Int64.ofInt r)) ∧ ab_rg 1 r
  | some .boolean => v = some (.int (Int32.ofInt r)) ∧ ab_rg 4 r
  | some _ => v = some (.int (Int32.ofInt r)) ∧ ab_rg 0 r
/-- from pc on the method returns, with an answer and a store as P says -/
def ok_ (X : jm_X) (M : jm_M) (d pc : Nat) (ts : ab_t) (l : ab_l) (st : List (Nat × Int)) (μ : ab_m) (P : Int → ab_m → Prop) : Prop :=
  ∀ (lv : jm_L) (S : jm_S), ab_LR ts l lv → ab_sr st → ab_R μ S → S.1 ≤ jm_lim →
    ∃ (v : Option Value) (r : Int) (μ' : ab_m) (S' : jm_S), jm_goes X M d pc lv (ab_sv st) S v S' 0 0 ∧ ab_rt M.2.2.2.1 r v ∧ S'.1 = S.1 ∧ ab_R μ' S' ∧ P r μ'
theorem ab_w_rg (x : Int) : ab_rg 0 (ab_w x) := by simp only [ab_rg, ab_w_def]; omega
theorem ab_W_rg (x : Int) : ab_rg 1 (ab_W x) := by simp only [ab_rg, ab_W_def]; omega
theorem ab_w_id {x : Int} (h : ab_rg 0 x) : ab_w x = x := by simp only [ab_rg] at h; rw [ab_w_def]; omega
theorem ab_W_id {x : Int} (h : ab_rg 1 x) : ab_W x = x := by simp only [ab_rg] at h; rw [ab_W_def]; omega
theorem ab_toInt {x : Int} (h : ab_rg 0 x) : (Int32.ofInt x).toInt = x := by
  simp only [ab_rg] at h
  exact Int32.toInt_ofInt_of_le (by omega) (by omega)
theorem ab_toIntL {x : Int} (h : ab_rg 1 x) : (Int64.ofInt x).toInt = x := by
  simp only [ab_rg] at h
  exact Int64.toInt_ofInt_of_le (by omega) (by omega)
theorem ab_ofI (x : Int32) : Int32.ofInt x.toInt = x := Int32.ofInt_toInt x
theorem ab_ofL (x : Int64) : Int64.ofInt x.toInt = x := Int64.ofInt_toInt x
theorem ab_rgI (x : Int32) : ab_rg 0 x.toInt := by
  have h1 := x.le_toInt
  have h2 := x.toInt_lt
  simp only [ab_rg]; omega
theorem ab_rgL (x : Int64) : ab_rg 1 x.toInt := by
  have h1 := x.le_toInt
  have h2 := x.toInt_lt
  simp only [ab_rg]; omega
theorem ab_ofw (x : Int) : Int32.ofInt (ab_w x) = Int32.ofInt x := by
  apply Int32.toInt_inj.mp
  rw [ab_toInt (ab_w_rg x), Int32.toInt_ofInt]
  rw [ab_w_def]
  simp only [Int32.size, Int.bmod]
  omega
theorem ab_ofW (x : Int) : Int64.ofInt (ab_W x) = Int64.ofInt x := by
  apply Int64.toInt_inj.mp
  rw [ab_toIntL (ab_W_rg x), Int64.toInt_ofInt]
  rw [ab_W_def]
  simp only [Int64.size, Int.bmod]
  omega
/-! monotony, and what may be taken as known -/
section OK1
variable {X : jm_X} {M : jm_M} {d pc : Nat} {ts : ab_t} {l : ab_l} {st : List (Nat × Int)} {μ : ab_m} {P Q : Int → ab_m → Prop}
theorem ok_mono (h : ok_ X M d pc ts l st μ P) (hq : ∀ r μ', ab_Rg μ' → P r μ' → Q r μ') : ok_ X M d pc ts l st μ Q := by
  intro lv S a b c e
  obtain ⟨v, r, μ', S', h1, h2, h3, h4, h5⟩ := h lv S a b c e
  exact ⟨v, r, μ', S', h1, h2, h3, h4, hq r μ' h4.2.2 h5⟩
theorem ok_rg (h : ab_Rg μ → ok_ X M d pc ts l st μ P) : ok_ X M d pc ts l st μ P := fun lv S a b c e => h c.2.2 lv S a b c e
theorem ok_lr {n t : Nat} (ht : ts n = some t) (h : ab_rg t (l n) → ok_ X M d pc ts l st μ P) : ok_ X M d pc ts l st μ P := fun lv S a b c e => h (a n t ht).2.1 lv S a b c e
theorem ok_sr (h : ab_sr st → ok_ X M d pc ts l st μ P) : ok_ X M d pc ts l st μ P := fun lv S a b c e => h b lv S a b c e
theorem ab_ty_mem {ts : List (Nat × Nat)} {n t : Nat} (h : ab_ty ts n = some t) : (n, t) ∈ ts := by
  induction ts with
  | nil => cases h
  | cons q r ih =>
    unfold ab_ty at h
    cases hq : Nat.beq q.1 n
    · rw [hq] at h
      exact List.mem_cons_of_mem _ (ih h)
    · rw [hq] at h
      cases h
      rw [← Nat.eq_of_beq_eq_true hq]
      exact List.mem_cons_self
/-- fewer locals -/
def ab_sub (ts' : List (Nat × Nat)) (ts : ab_t) : Bool := ts'.all fun q => match ts q.1 with
  | some t => Nat.beq t q.2
  | none => false
theorem ok_sub {ts' : List (Nat × Nat)} (hs : ab_sub ts' ts = true) (h : ok_ X M d pc (ab_ty ts') l st μ P) : ok_ X M d pc ts l st μ P := by
  intro lv S a b c e
  refine h lv S (fun n t ht => a n t ?_) b c e
  have h1 := List.all_eq_true.mp hs _ (ab_ty_mem ht)
  dsimp only at h1
  split at h1
  · rename_i t' h2
    rw [h2, Nat.eq_of_beq_eq_true h1]
  · cases h1
theorem ok_d {d' : Nat} (hd : d ≤ d') (h : ok_ X M d pc ts l st μ P) : ok_ X M d' pc ts l st μ P := by
  intro lv S a b c e
  obtain ⟨v, r, μ', S', h1, h2, h3, h4, h5⟩ := h lv S a b c e
  refine ⟨v, r, μ', S', ?_, h2, h3, h4, h5⟩
  intro p l e R s m args below meth c D dA base sa H locs cells slots ls Q hC hH hS hl hlim hfr hlo hc hs hret
  exact h1 p l e R s m args below meth c D dA base sa H locs cells slots ls Q hC hH hS hl hlim (by omega) (Nat.le_trans (Nat.mul_le_mul_right 64 hd) hlo) hc hs hret
end OK1
/-- a step of the machine -/
theorem ok_step {X : jm_X} {M : jm_M} {d pc pc' len : Nat} {i : Instr} {ts ts' : ab_t} {l l' : ab_l} {st st' : List (Nat × Int)} {μ μ' : ab_m} {P : Int → ab_m → Prop} (hd : decode M.2.1 pc = .ok (i, len))
    (hq : ∀ (lv : jm_L) (S : jm_S), ab_LR ts l lv → ab_sr st → ab_R μ S → S.1 ≤ jm_lim → ∃ (lv' : jm_L) (S' : jm_S), jm_step X M i len pc lv (ab_sv st) S = some (pc', lv', ab_sv st', S', 0, 0) ∧ ab_LR ts' l' lv' ∧ ab_sr st' ∧ ab_R μ' S' ∧ S'.1 = S.1)
    (k : ok_ X M d pc' ts' l' st' μ' P) : ok_ X M d pc ts l st μ P := by
  intro lv S a b c e
  obtain ⟨lv', S', h1, h2, h3, h4, h5⟩ := hq lv S a b c e
  obtain ⟨v, r, μ', S'', g1, g2, g3, g4, g5⟩ := k lv' S' h2 h3 h4 (by omega)
  exact ⟨v, r, μ', S'', jg_step hd h1 g1, g2, by omega, g4, g5⟩
