/-! PROMISE 1's ROW, part 4: what is known of the ints; every script of at most four ints -/
theorem jf_byte0 (x : BitVec 64) (s : Nat) (hs : s ≤ 56) : (x >>> s).setWidth 32 &&& 255#32 = ((x.sshiftRight s) &&& 255#64).setWidth 32 := by
  apply BitVec.eq_of_getLsbD_eq
  intro i hi
  have h1 : (255#32).getLsbD i = decide (i < 8) := by
    have : ∀ i, i < 32 → (255#32).getLsbD i = decide (i < 8) := by decide
    exact this i hi
  have h2 : (255#64).getLsbD i = decide (i < 8) := by
    have : ∀ i, i < 32 → (255#64).getLsbD i = decide (i < 8) := by decide
    exact this i hi
  simp only [BitVec.getLsbD_and, BitVec.getLsbD_setWidth, BitVec.getLsbD_ushiftRight, BitVec.getLsbD_sshiftRight, h1, h2]
  by_cases h8 : i < 8
  · have : s + i < 64 := by omega
    have h64 : ¬ 64 ≤ i := by omega
    simp [hi, h8, this, h64]
  · simp [h8]
theorem jf_byte (x : Int64) (k : Nat) (hk : k < 8) : ((x >>> ((Int32.ofInt (8 * k)).toInt64 &&& 63)) &&& Int64.ofInt 255).toInt32 = (x.toUInt64 >>> ((Int32.ofInt (8 * k)).toInt64.toUInt64 &&& Int64.toUInt64 63)).toInt64.toInt32 &&& Int32.ofInt 255 := by
  apply Int32.toBitVec_inj.mp
  have e := (jf_byte0 x.toBitVec (8 * k) (by omega)).symm
  match k, hk with
  | 0, _ => simpa [BitVec.signExtend_eq_setWidth_of_le] using e
  | 1, _ => simpa [BitVec.signExtend_eq_setWidth_of_le] using e
  | 2, _ => simpa [BitVec.signExtend_eq_setWidth_of_le] using e
  | 3, _ => simpa [BitVec.signExtend_eq_setWidth_of_le] using e
  | 4, _ => simpa [BitVec.signExtend_eq_setWidth_of_le] using e
  | 5, _ => simpa [BitVec.signExtend_eq_setWidth_of_le] using e
  | 6, _ => simpa [BitVec.signExtend_eq_setWidth_of_le] using e
  | 7, _ => simpa [BitVec.signExtend_eq_setWidth_of_le] using e
  | k + 8, h => exact absurd h (by omega)
theorem q1_kind (x : Int32) : ∃ i, i < 16 ∧ x &&& Int32.ofInt 15 = Int32.ofNat i := by
  refine ⟨(x.toBitVec &&& 15#32).toNat, ?_, ?_⟩
  · rw [BitVec.toNat_and]
    have : (15#32).toNat = 2 ^ 4 - 1 := rfl
    rw [this, Nat.and_two_pow_sub_one_eq_mod]
    exact Nat.mod_lt _ (by decide)
  · apply Int32.toBitVec_inj.mp
    simp
theorem q1_small (x : Int32) (h1 : ¬ x < Int32.ofInt 1) (h2 : ¬ Int32.ofInt 8 < x) : ∃ n, n < 8 ∧ x = Int32.ofNat (n + 1) := by
  have e1 : ¬ x.toInt < 1 := fun h => h1 (Int32.lt_iff_toInt_lt.mpr h)
  have e2 : ¬ 8 < x.toInt := fun h => h2 (Int32.lt_iff_toInt_lt.mpr h)
  refine ⟨(x.toInt - 1).toNat, by omega, ?_⟩
  have e3 : ((x.toInt - 1).toNat + 1 : Nat) = x.toInt.toNat := by omega
  rw [e3]
  apply Int32.toInt_inj.mp
  rw [Int32.toInt_ofNat_of_lt (by omega)]
  omega
theorem q1_upto (x : Int32) (m : Nat) (hm : m < 1000) (h1 : ¬ x < Int32.ofInt 0) (h2 : ¬ Int32.ofInt m < x) : ∃ n, n ≤ m ∧ x = Int32.ofNat n := by
  have e0 : (Int32.ofInt m).toInt = m := by
    rw [Int32.toInt_ofInt_of_le (by omega) (by omega)]
  have e1 : ¬ x.toInt < 0 := fun h => h1 (Int32.lt_iff_toInt_lt.mpr h)
  have e2 : ¬ (m : Int) < x.toInt := fun h => h2 (Int32.lt_iff_toInt_lt.mpr (by rw [e0]; exact h))
  refine ⟨x.toInt.toNat, by omega, ?_⟩
  apply Int32.toInt_inj.mp
  rw [Int32.toInt_ofNat_of_lt (by omega)]
  omega
theorem q1_first (p : Nat → Bool) : ∀ n : Nat, ∃ m, m ≤ n ∧ ∀ k, k < min (m + 1) n → p k = Nat.blt k m := by
  intro n
  induction n with
  | zero => exact ⟨0, Nat.le_refl _, fun k h => by omega⟩
  | succ n ih =>
    obtain ⟨m, hm, h⟩ := ih
    by_cases hmn : m < n
    · exact ⟨m, by omega, fun k hk => h k (by omega)⟩
    · have e : m = n := by omega
      subst e
      have hall : ∀ k, k < m → p k = true := fun k hk => by
        rw [h k (by omega)]
        simp [Nat.blt]
        omega
      cases hp : p m with
      | true =>
        refine ⟨m + 1, Nat.le_refl _, fun k hk => ?_⟩
        have : p k = true := by
          by_cases hkm : k < m
          · exact hall k hkm
          · have : k = m := by omega
            rw [this]; exact hp
        rw [this]
        simp [Nat.blt]
        omega
      | false =>
        refine ⟨m, by omega, fun k hk => ?_⟩
        by_cases hkm : k < m
        · rw [hall k hkm]
          simp [Nat.blt]
          omega
        · have : k = m := by omega
          rw [this, hp]
          have h9 : ¬ Nat.blt m m = true := by rw [Nat.blt_eq]; omega
          exact (Bool.eq_false_iff.mpr h9).symm
def q1_R (a : Nat → Int32) : Int64 := ((a 1).toInt64 <<< ((Int32.ofInt 32).toInt64 &&& 63)) ||| ((a 2).toInt64 &&& Int64.ofInt 4294967295)
def q1_u (a : Nat → Int32) (k : Nat) : Int64 := ((q1_R a).toUInt64 >>> ((Int32.ofInt (8 * k)).toInt64.toUInt64 &&& Int64.toUInt64 63)).toInt64
def q1_t (a : Nat → Int32) (k : Nat) : Int64 := q1_R a >>> ((Int32.ofInt (8 * k)).toInt64 &&& 63)
/-- the symbols -/
def q1_i (a : Nat → Int32) (k : Nat) : Int32 := if k < 10 then a k else if k < 20 then (q1_u a (k - 10)).toInt32 else if k < 30 then (q1_u a (k - 20)).toInt32 &&& Int32.ofInt 255 else if k < 40 then (q1_t a (k - 30)).toInt32 else if k < 50 then (q1_t a (k - 40)).toInt32.toInt8.toInt32 else (q1_t a (k - 50)).toInt32.toInt8.toInt32.toInt8.toInt32
def q1_l (a : Nat → Int32) (k : Nat) : Int64 := if k = 100 then (a 1).toInt64 else if k = 101 then (a 1).toInt64 <<< ((Int32.ofInt 32).toInt64 &&& 63) else if k = 102 then (a 2).toInt64 else if k = 103 then (a 2).toInt64 &&& Int64.ofInt 4294967295 else if k = 104 then q1_R a else if k < 120 then q1_u a (k - 110) else if k < 130 then q1_t a (k - 120) else q1_t a (k - 130) &&& Int64.ofInt 255
def q1_ρ (a : Nat → Int32) : js_R := (q1_i a, q1_l a)
theorem q1_row_ok (a : Nat → Int32) : ∀ r ∈ q1_row, js_fact (q1_ρ a) r :=
  List.forall_mem_cons.mpr ⟨rfl, List.forall_mem_cons.mpr ⟨rfl, List.forall_mem_cons.mpr ⟨rfl, List.forall_mem_cons.mpr ⟨rfl, List.forall_mem_cons.mpr ⟨rfl, fun _ h => by cases h⟩⟩⟩⟩⟩
theorem q1_b0 (a : Nat → Int32) : ∀ r ∈ q1_byte 0, js_fact (q1_ρ a) r :=
  List.forall_mem_cons.mpr ⟨rfl, List.forall_mem_cons.mpr ⟨rfl, List.forall_mem_cons.mpr ⟨rfl, List.forall_mem_cons.mpr ⟨rfl, List.forall_mem_cons.mpr ⟨rfl, List.forall_mem_cons.mpr ⟨congrArg (fun z => some (Value.int z)) (jf_byte (q1_R a) 0 (by decide)), List.forall_mem_cons.mpr ⟨rfl, List.forall_mem_cons.mpr ⟨rfl, List.forall_mem_cons.mpr ⟨rfl, fun _ h => by cases h⟩⟩⟩⟩⟩⟩⟩⟩⟩
theorem q1_b1 (a : Nat → Int32) : ∀ r ∈ q1_byte 1, js_fact (q1_ρ a) r :=
  List.forall_mem_cons.mpr ⟨rfl, List.forall_mem_cons.mpr ⟨rfl, List.forall_mem_cons.mpr ⟨rfl, List.forall_mem_cons.mpr ⟨rfl, List.forall_mem_cons.mpr ⟨rfl, List.forall_mem_cons.mpr ⟨congrArg (fun z => some (Value.int z)) (jf_byte (q1_R a) 1 (by decide)), List.forall_mem_cons.mpr ⟨rfl, List.forall_mem_cons.mpr ⟨rfl, List.forall_mem_cons.mpr ⟨rfl, fun _ h => by cases h⟩⟩⟩⟩⟩⟩⟩⟩⟩
theorem q1_b2 (a : Nat → Int32) : ∀ r ∈ q1_byte 2, js_fact (q1_ρ a) r :=
  List.forall_mem_cons.mpr ⟨rfl, List.forall_mem_cons.mpr ⟨rfl, List.forall_mem_cons.mpr ⟨rfl, List.forall_mem_cons.mpr ⟨rfl, List.forall_mem_cons.mpr ⟨rfl, List.forall_mem_cons.mpr ⟨congrArg (fun z => some (Value.int z)) (jf_byte (q1_R a) 2 (by decide)), List.forall_mem_cons.mpr ⟨rfl, List.forall_mem_cons.mpr ⟨rfl, List.forall_mem_cons.mpr ⟨rfl, fun _ h => by cases h⟩⟩⟩⟩⟩⟩⟩⟩⟩
theorem q1_b3 (a : Nat → Int32) : ∀ r ∈ q1_byte 3, js_fact (q1_ρ a) r :=
  List.forall_mem_cons.mpr ⟨rfl, List.forall_mem_cons.mpr ⟨rfl, List.forall_mem_cons.mpr ⟨rfl, List.forall_mem_cons.mpr ⟨rfl, List.forall_mem_cons.mpr ⟨rfl, List.forall_mem_cons.mpr ⟨congrArg (fun z => some (Value.int z)) (jf_byte (q1_R a) 3 (by decide)), List.forall_mem_cons.mpr ⟨rfl, List.forall_mem_cons.mpr ⟨rfl, List.forall_mem_cons.mpr ⟨rfl, fun _ h => by cases h⟩⟩⟩⟩⟩⟩⟩⟩⟩
theorem q1_b4 (a : Nat → Int32) : ∀ r ∈ q1_byte 4, js_fact (q1_ρ a) r :=
  List.forall_mem_cons.mpr ⟨rfl, List.forall_mem_cons.mpr ⟨rfl, List.forall_mem_cons.mpr ⟨rfl, List.forall_mem_cons.mpr ⟨rfl, List.forall_mem_cons.mpr ⟨rfl, List.forall_mem_cons.mpr ⟨congrArg (fun z => some (Value.int z)) (jf_byte (q1_R a) 4 (by decide)), List.forall_mem_cons.mpr ⟨rfl, List.forall_mem_cons.mpr ⟨rfl, List.forall_mem_cons.mpr ⟨rfl, fun _ h => by cases h⟩⟩⟩⟩⟩⟩⟩⟩⟩
theorem q1_b5 (a : Nat → Int32) : ∀ r ∈ q1_byte 5, js_fact (q1_ρ a) r :=
  List.forall_mem_cons.mpr ⟨rfl, List.forall_mem_cons.mpr ⟨rfl, List.forall_mem_cons.mpr ⟨rfl, List.forall_mem_cons.mpr ⟨rfl, List.forall_mem_cons.mpr ⟨rfl, List.forall_mem_cons.mpr ⟨congrArg (fun z => some (Value.int z)) (jf_byte (q1_R a) 5 (by decide)), List.forall_mem_cons.mpr ⟨rfl, List.forall_mem_cons.mpr ⟨rfl, List.forall_mem_cons.mpr ⟨rfl, fun _ h => by cases h⟩⟩⟩⟩⟩⟩⟩⟩⟩
theorem q1_b6 (a : Nat → Int32) : ∀ r ∈ q1_byte 6, js_fact (q1_ρ a) r :=
  List.forall_mem_cons.mpr ⟨rfl, List.forall_mem_cons.mpr ⟨rfl, List.forall_mem_cons.mpr ⟨rfl, List.forall_mem_cons.mpr ⟨rfl, List.forall_mem_cons.mpr ⟨rfl, List.forall_mem_cons.mpr ⟨congrArg (fun z => some (Value.int z)) (jf_byte (q1_R a) 6 (by decide)), List.forall_mem_cons.mpr ⟨rfl, List.forall_mem_cons.mpr ⟨rfl, List.forall_mem_cons.mpr ⟨rfl, fun _ h => by cases h⟩⟩⟩⟩⟩⟩⟩⟩⟩
theorem q1_b7 (a : Nat → Int32) : ∀ r ∈ q1_byte 7, js_fact (q1_ρ a) r :=
  List.forall_mem_cons.mpr ⟨rfl, List.forall_mem_cons.mpr ⟨rfl, List.forall_mem_cons.mpr ⟨rfl, List.forall_mem_cons.mpr ⟨rfl, List.forall_mem_cons.mpr ⟨rfl, List.forall_mem_cons.mpr ⟨congrArg (fun z => some (Value.int z)) (jf_byte (q1_R a) 7 (by decide)), List.forall_mem_cons.mpr ⟨rfl, List.forall_mem_cons.mpr ⟨rfl, List.forall_mem_cons.mpr ⟨rfl, fun _ h => by cases h⟩⟩⟩⟩⟩⟩⟩⟩⟩
theorem q1_byte_ok (a : Nat → Int32) : ∀ k, k < 8 → ∀ r ∈ q1_byte k, js_fact (q1_ρ a) r := by
  intro k hk
  match k, hk with
  | 0, _ => exact q1_b0 a
  | 1, _ => exact q1_b1 a
  | 2, _ => exact q1_b2 a
  | 3, _ => exact q1_b3 a
  | 4, _ => exact q1_b4 a
  | 5, _ => exact q1_b5 a
  | 6, _ => exact q1_b6 a
  | 7, _ => exact q1_b7 a
  | k + 8, h => exact absurd h (by omega)
