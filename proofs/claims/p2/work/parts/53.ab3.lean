/-! THE ABSTRACT MACHINE, part 3: arithmetic, the stack's own, jumps -/
theorem ab_cell1 {X : jm_X} {M : jm_M} {i : Instr} {st : List Value} {S : jm_S} (h1 : ∀ j x, jm_rd i j x = none) (h2 : ∀ j x, jm_rs i j x = none) (h3 : ∀ v j x, jm_wr i v j x = none) (h4 : i ≠ .arraylength) : jm_cell X M i 1 st S = none := by
  unfold jm_cell
  split
  all_goals first | rfl | skip
  all_goals first | (exfalso; omega) | skip
  · exact absurd rfl h4
  · rw [h1]
    split
    · rfl
    · split
      · rw [h2]
      · rfl
  · rw [h3]
    split <;> rfl
/-- an instruction of one byte that works on the stack alone -/
def ab_pl (i : Instr) : Prop := jm_k i 1 = none ∧ jm_ld i 1 = none ∧ jm_sr i 1 = none ∧ (∀ pc st, jm_br i 1 pc st = none) ∧ (∀ j x, jm_rd i j x = none) ∧ (∀ j x, jm_rs i j x = none) ∧ (∀ v j x, jm_wr i v j x = none) ∧ i ≠ .arraylength ∧ (∀ M pc lv st, jm_mis M i 1 pc lv st = (match jm_al i st with
    | some st' => some (pc + 1, lv, st')
    | none => match jm_sk i st with
      | some st' => some (pc + 1, lv, st')
      | none => none))
section OK3
variable {X : jm_X} {M : jm_M} {d pc len : Nat} {i : Instr} {ts : ab_t} {l : ab_l} {st st0 st1 : List (Nat × Int)} {μ : ab_m} {P : Int → ab_m → Prop}
theorem ok_al (hd : decode M.2.1 pc = .ok (i, 1)) (hp : ab_pl i) (ha : jm_al i (ab_sv st0) = some (ab_sv st1)) (hr : ab_sr st0 → ab_sr st1) (k : ok_ X M d (pc + 1) ts l st1 μ P) : ok_ X M d pc ts l st0 μ P := by
  obtain ⟨h1, h2, h3, h4, h5, h6, h7, h8, h9⟩ := hp
  refine ok_step hd (fun lv S a b c _ => ⟨lv, S, ?_, a, hr b, c, rfl⟩) k
  unfold jm_step
  rw [h1, h2, h3, h4, ab_cell1 h5 h6 h7 h8, h9, ha]
theorem ok_sk (hd : decode M.2.1 pc = .ok (i, 1)) (hp : ab_pl i) (hn : jm_al i (ab_sv st0) = none) (ha : jm_sk i (ab_sv st0) = some (ab_sv st1)) (hr : ab_sr st0 → ab_sr st1) (k : ok_ X M d (pc + 1) ts l st1 μ P) : ok_ X M d pc ts l st0 μ P := by
  obtain ⟨h1, h2, h3, h4, h5, h6, h7, h8, h9⟩ := hp
  refine ok_step hd (fun lv S a b c _ => ⟨lv, S, ?_, a, hr b, c, rfl⟩) k
  unfold jm_step
  rw [h1, h2, h3, h4, ab_cell1 h5 h6 h7 h8, h9, hn, ha]
def ab_and (x y : Int) : Int := (Int32.ofInt x &&& Int32.ofInt y).toInt
def ab_or (x y : Int) : Int := (Int32.ofInt x ||| Int32.ofInt y).toInt
def ab_xor (x y : Int) : Int := (Int32.ofInt x ^^^ Int32.ofInt y).toInt
def ab_shl (x y : Int) : Int := (Int32.ofInt x <<< (Int32.ofInt y &&& 31)).toInt
def ab_shr (x y : Int) : Int := (Int32.ofInt x >>> (Int32.ofInt y &&& 31)).toInt
def ab_ushr (x y : Int) : Int := ((Int32.ofInt x).toUInt32 >>> ((Int32.ofInt y).toUInt32 &&& Int32.toUInt32 31)).toInt32.toInt
def ab_div (x y : Int) : Int := (Int32.ofInt x / Int32.ofInt y).toInt
def ab_rem (x y : Int) : Int := (Int32.ofInt x - Int32.ofInt x / Int32.ofInt y * Int32.ofInt y).toInt
def ab_landL (x y : Int) : Int := (Int64.ofInt x &&& Int64.ofInt y).toInt
def ab_lorL (x y : Int) : Int := (Int64.ofInt x ||| Int64.ofInt y).toInt
def ab_lxorL (x y : Int) : Int := (Int64.ofInt x ^^^ Int64.ofInt y).toInt
def ab_shlL (x y : Int) : Int := (Int64.ofInt x <<< ((Int32.ofInt y).toInt64 &&& 63)).toInt
def ab_shrL (x y : Int) : Int := (Int64.ofInt x >>> ((Int32.ofInt y).toInt64 &&& 63)).toInt
def ab_ushrL (x y : Int) : Int := ((Int64.ofInt x).toUInt64 >>> ((Int32.ofInt y).toInt64.toUInt64 &&& Int64.toUInt64 63)).toInt64.toInt
def ab_lcmp (x y : Int) : Int := (lg_cmp (Int64.ofInt x) (Int64.ofInt y)).toInt
theorem ab_two {i : Instr} {x y : Int} {z : Int32} (h : jm_ib i (Int32.ofInt x) (Int32.ofInt y) = some z) : jm_al i (ab_sv ((0, y) :: (0, x) :: st)) = some (ab_sv ((0, z.toInt) :: st)) := by
  show jm_al i (.int (Int32.ofInt y) :: .int (Int32.ofInt x) :: ab_sv st) = some (.int (Int32.ofInt z.toInt) :: ab_sv st)
  unfold jm_al
  dsimp only
  rw [h, ab_ofI]
theorem ab_twoR {x y : Int} {z : Int32} : ab_sr ((0, y) :: (0, x) :: st) → ab_sr ((0, z.toInt) :: st) := fun h => ab_sr_cons (ab_rgI z) (ab_sr_tl (ab_sr_tl h))
theorem ok_ib {x y : Int} {z : Int32} (hd : decode M.2.1 pc = .ok (i, 1)) (hp : ab_pl i) (h : jm_ib i (Int32.ofInt x) (Int32.ofInt y) = some z) (k : ok_ X M d (pc + 1) ts l ((0, z.toInt) :: st) μ P) : ok_ X M d pc ts l ((0, y) :: (0, x) :: st) μ P :=
  ok_al hd hp (ab_two h) ab_twoR k
theorem ok_lb {x y : Int} {z : Int64} (hd : decode M.2.1 pc = .ok (i, 1)) (hp : ab_pl i) (hi : i ≠ .lcmp) (h : jm_lb i (Int64.ofInt x) (Int64.ofInt y) = some z) (k : ok_ X M d (pc + 1) ts l ((1, z.toInt) :: st) μ P) : ok_ X M d pc ts l ((1, y) :: (1, x) :: st) μ P := by
  refine ok_al hd hp ?_ (fun h => ab_sr_cons (ab_rgL z) (ab_sr_tl (ab_sr_tl h))) k
  show jm_al i (.long (Int64.ofInt y) :: .long (Int64.ofInt x) :: ab_sv st) = some (.long (Int64.ofInt z.toInt) :: ab_sv st)
  unfold jm_al
  dsimp only
  split
  · exact absurd rfl hi
  · rw [h, ab_ofL]
theorem ok_ls {x y : Int} {z : Int64} (hd : decode M.2.1 pc = .ok (i, 1)) (hp : ab_pl i) (h : jm_ls i (Int64.ofInt x) (Int32.ofInt y) = some z) (k : ok_ X M d (pc + 1) ts l ((1, z.toInt) :: st) μ P) : ok_ X M d pc ts l ((0, y) :: (1, x) :: st) μ P := by
  refine ok_al hd hp ?_ (fun h => ab_sr_cons (ab_rgL z) (ab_sr_tl (ab_sr_tl h))) k
  show jm_al i (.int (Int32.ofInt y) :: .long (Int64.ofInt x) :: ab_sv st) = some (.long (Int64.ofInt z.toInt) :: ab_sv st)
  unfold jm_al
  dsimp only
  rw [h, ab_ofL]
theorem ab_addw (x y : Int) : (Int32.ofInt x + Int32.ofInt y).toInt = ab_w (x + y) := by rw [← Int32.ofInt_add, ← ab_ofw, ab_toInt (ab_w_rg _)]
theorem ab_subw (x y : Int) : (Int32.ofInt x - Int32.ofInt y).toInt = ab_w (x - y) := by rw [← Int32.ofInt_sub, ← ab_ofw, ab_toInt (ab_w_rg _)]
theorem ab_mulw (x y : Int) : (Int32.ofInt x * Int32.ofInt y).toInt = ab_w (x * y) := by rw [← Int32.ofInt_mul, ← ab_ofw, ab_toInt (ab_w_rg _)]
theorem ab_addW (x y : Int) : (Int64.ofInt x + Int64.ofInt y).toInt = ab_W (x + y) := by rw [← Int64.ofInt_add, ← ab_ofW, ab_toIntL (ab_W_rg _)]
theorem ab_subW (x y : Int) : (Int64.ofInt x - Int64.ofInt y).toInt = ab_W (x - y) := by rw [← Int64.ofInt_sub, ← ab_ofW, ab_toIntL (ab_W_rg _)]
theorem ab_mulW (x y : Int) : (Int64.ofInt x * Int64.ofInt y).toInt = ab_W (x * y) := by rw [← Int64.ofInt_mul, ← ab_ofW, ab_toIntL (ab_W_rg _)]
theorem pl_iadd : ab_pl .iadd := ⟨rfl, rfl, rfl, fun _ _ => rfl, fun _ _ => rfl, fun _ _ => rfl, fun _ _ _ => rfl, by decide, fun _ _ _ _ => rfl⟩
theorem pl_isub : ab_pl .isub := ⟨rfl, rfl, rfl, fun _ _ => rfl, fun _ _ => rfl, fun _ _ => rfl, fun _ _ _ => rfl, by decide, fun _ _ _ _ => rfl⟩
theorem pl_imul : ab_pl .imul := ⟨rfl, rfl, rfl, fun _ _ => rfl, fun _ _ => rfl, fun _ _ => rfl, fun _ _ _ => rfl, by decide, fun _ _ _ _ => rfl⟩
theorem pl_iand : ab_pl .iand := ⟨rfl, rfl, rfl, fun _ _ => rfl, fun _ _ => rfl, fun _ _ => rfl, fun _ _ _ => rfl, by decide, fun _ _ _ _ => rfl⟩
theorem pl_ior : ab_pl .ior := ⟨rfl, rfl, rfl, fun _ _ => rfl, fun _ _ => rfl, fun _ _ => rfl, fun _ _ _ => rfl, by decide, fun _ _ _ _ => rfl⟩
theorem pl_ixor : ab_pl .ixor := ⟨rfl, rfl, rfl, fun _ _ => rfl, fun _ _ => rfl, fun _ _ => rfl, fun _ _ _ => rfl, by decide, fun _ _ _ _ => rfl⟩
theorem pl_ishl : ab_pl .ishl := ⟨rfl, rfl, rfl, fun _ _ => rfl, fun _ _ => rfl, fun _ _ => rfl, fun _ _ _ => rfl, by decide, fun _ _ _ _ => rfl⟩
theorem pl_ishr : ab_pl .ishr := ⟨rfl, rfl, rfl, fun _ _ => rfl, fun _ _ => rfl, fun _ _ => rfl, fun _ _ _ => rfl, by decide, fun _ _ _ _ => rfl⟩
theorem pl_iushr : ab_pl .iushr := ⟨rfl, rfl, rfl, fun _ _ => rfl, fun _ _ => rfl, fun _ _ => rfl, fun _ _ _ => rfl, by decide, fun _ _ _ _ => rfl⟩
theorem pl_idiv : ab_pl .idiv := ⟨rfl, rfl, rfl, fun _ _ => rfl, fun _ _ => rfl, fun _ _ => rfl, fun _ _ _ => rfl, by decide, fun _ _ _ _ => rfl⟩
theorem pl_irem : ab_pl .irem := ⟨rfl, rfl, rfl, fun _ _ => rfl, fun _ _ => rfl, fun _ _ => rfl, fun _ _ _ => rfl, by decide, fun _ _ _ _ => rfl⟩
theorem pl_ineg : ab_pl .ineg := ⟨rfl, rfl, rfl, fun _ _ => rfl, fun _ _ => rfl, fun _ _ => rfl, fun _ _ _ => rfl, by decide, fun _ _ _ _ => rfl⟩
theorem pl_ladd : ab_pl .ladd := ⟨rfl, rfl, rfl, fun _ _ => rfl, fun _ _ => rfl, fun _ _ => rfl, fun _ _ _ => rfl, by decide, fun _ _ _ _ => rfl⟩
theorem pl_lsub : ab_pl .lsub := ⟨rfl, rfl, rfl, fun _ _ => rfl, fun _ _ => rfl, fun _ _ => rfl, fun _ _ _ => rfl, by decide, fun _ _ _ _ => rfl⟩
theorem pl_lmul : ab_pl .lmul := ⟨rfl, rfl, rfl, fun _ _ => rfl, fun _ _ => rfl, fun _ _ => rfl, fun _ _ _ => rfl, by decide, fun _ _ _ _ => rfl⟩
theorem pl_land : ab_pl .land := ⟨rfl, rfl, rfl, fun _ _ => rfl, fun _ _ => rfl, fun _ _ => rfl, fun _ _ _ => rfl, by decide, fun _ _ _ _ => rfl⟩
theorem pl_lor : ab_pl .lor := ⟨rfl, rfl, rfl, fun _ _ => rfl, fun _ _ => rfl, fun _ _ => rfl, fun _ _ _ => rfl, by decide, fun _ _ _ _ => rfl⟩
theorem pl_lxor : ab_pl .lxor := ⟨rfl, rfl, rfl, fun _ _ => rfl, fun _ _ => rfl, fun _ _ => rfl, fun _ _ _ => rfl, by decide, fun _ _ _ _ => rfl⟩
theorem pl_lshl : ab_pl .lshl := ⟨rfl, rfl, rfl, fun _ _ => rfl, fun _ _ => rfl, fun _ _ => rfl, fun _ _ _ => rfl, by decide, fun _ _ _ _ => rfl⟩
theorem pl_lshr : ab_pl .lshr := ⟨rfl, rfl, rfl, fun _ _ => rfl, fun _ _ => rfl, fun _ _ => rfl, fun _ _ _ => rfl, by decide, fun _ _ _ _ => rfl⟩
theorem pl_lushr : ab_pl .lushr := ⟨rfl, rfl, rfl, fun _ _ => rfl, fun _ _ => rfl, fun _ _ => rfl, fun _ _ _ => rfl, by decide, fun _ _ _ _ => rfl⟩
theorem pl_lcmp : ab_pl .lcmp := ⟨rfl, rfl, rfl, fun _ _ => rfl, fun _ _ => rfl, fun _ _ => rfl, fun _ _ _ => rfl, by decide, fun _ _ _ _ => rfl⟩
theorem pl_i2l : ab_pl .i2l := ⟨rfl, rfl, rfl, fun _ _ => rfl, fun _ _ => rfl, fun _ _ => rfl, fun _ _ _ => rfl, by decide, fun _ _ _ _ => rfl⟩
theorem pl_l2i : ab_pl .l2i := ⟨rfl, rfl, rfl, fun _ _ => rfl, fun _ _ => rfl, fun _ _ => rfl, fun _ _ _ => rfl, by decide, fun _ _ _ _ => rfl⟩
theorem pl_i2b : ab_pl .i2b := ⟨rfl, rfl, rfl, fun _ _ => rfl, fun _ _ => rfl, fun _ _ => rfl, fun _ _ _ => rfl, by decide, fun _ _ _ _ => rfl⟩
theorem pl_dup : ab_pl .dup := ⟨rfl, rfl, rfl, fun _ _ => rfl, fun _ _ => rfl, fun _ _ => rfl, fun _ _ _ => rfl, by decide, fun _ _ _ _ => rfl⟩
theorem pl_pop : ab_pl .pop := ⟨rfl, rfl, rfl, fun _ _ => rfl, fun _ _ => rfl, fun _ _ => rfl, fun _ _ _ => rfl, by decide, fun _ _ _ _ => rfl⟩
theorem pl_dup2 : ab_pl .dup2 := ⟨rfl, rfl, rfl, fun _ _ => rfl, fun _ _ => rfl, fun _ _ => rfl, fun _ _ _ => rfl, by decide, fun _ _ _ _ => rfl⟩
theorem pl_dup_x1 : ab_pl .dup_x1 := ⟨rfl, rfl, rfl, fun _ _ => rfl, fun _ _ => rfl, fun _ _ => rfl, fun _ _ _ => rfl, by decide, fun _ _ _ _ => rfl⟩
theorem ok_iadd {x y : Int} (hd : decode M.2.1 pc = .ok (.iadd, 1)) (k : ok_ X M d (pc + 1) ts l ((0, ab_w (x + y)) :: st) μ P) : ok_ X M d pc ts l ((0, y) :: (0, x) :: st) μ P := ok_ib hd pl_iadd rfl (by rw [ab_addw]; exact k)
theorem ok_isub {x y : Int} (hd : decode M.2.1 pc = .ok (.isub, 1)) (k : ok_ X M d (pc + 1) ts l ((0, ab_w (x - y)) :: st) μ P) : ok_ X M d pc ts l ((0, y) :: (0, x) :: st) μ P := ok_ib hd pl_isub rfl (by rw [ab_subw]; exact k)
theorem ok_imul {x y : Int} (hd : decode M.2.1 pc = .ok (.imul, 1)) (k : ok_ X M d (pc + 1) ts l ((0, ab_w (x * y)) :: st) μ P) : ok_ X M d pc ts l ((0, y) :: (0, x) :: st) μ P := ok_ib hd pl_imul rfl (by rw [ab_mulw]; exact k)
theorem ok_iand {x y : Int} (hd : decode M.2.1 pc = .ok (.iand, 1)) (k : ok_ X M d (pc + 1) ts l ((0, ab_and x y) :: st) μ P) : ok_ X M d pc ts l ((0, y) :: (0, x) :: st) μ P := ok_ib hd pl_iand rfl k
theorem ok_ior {x y : Int} (hd : decode M.2.1 pc = .ok (.ior, 1)) (k : ok_ X M d (pc + 1) ts l ((0, ab_or x y) :: st) μ P) : ok_ X M d pc ts l ((0, y) :: (0, x) :: st) μ P := ok_ib hd pl_ior rfl k
theorem ok_ixor {x y : Int} (hd : decode M.2.1 pc = .ok (.ixor, 1)) (k : ok_ X M d (pc + 1) ts l ((0, ab_xor x y) :: st) μ P) : ok_ X M d pc ts l ((0, y) :: (0, x) :: st) μ P := ok_ib hd pl_ixor rfl k
theorem ok_ishl {x y : Int} (hd : decode M.2.1 pc = .ok (.ishl, 1)) (k : ok_ X M d (pc + 1) ts l ((0, ab_shl x y) :: st) μ P) : ok_ X M d pc ts l ((0, y) :: (0, x) :: st) μ P := ok_ib hd pl_ishl rfl k
theorem ok_ishr {x y : Int} (hd : decode M.2.1 pc = .ok (.ishr, 1)) (k : ok_ X M d (pc + 1) ts l ((0, ab_shr x y) :: st) μ P) : ok_ X M d pc ts l ((0, y) :: (0, x) :: st) μ P := ok_ib hd pl_ishr rfl k
theorem ok_iushr {x y : Int} (hd : decode M.2.1 pc = .ok (.iushr, 1)) (k : ok_ X M d (pc + 1) ts l ((0, ab_ushr x y) :: st) μ P) : ok_ X M d pc ts l ((0, y) :: (0, x) :: st) μ P := ok_ib hd pl_iushr rfl k
theorem ab_ne0 {y : Int} (hr : ab_rg 0 y) (h : y ≠ 0) : ¬ Int32.ofInt y = 0 := by
  intro h1
  have h2 := congrArg Int32.toInt h1
  rw [ab_toInt hr] at h2
  exact h h2
theorem ok_idiv {x y : Int} (hd : decode M.2.1 pc = .ok (.idiv, 1)) (hy : y ≠ 0) (k : ok_ X M d (pc + 1) ts l ((0, ab_div x y) :: st) μ P) : ok_ X M d pc ts l ((0, y) :: (0, x) :: st) μ P :=
  ok_sr fun hs => ok_ib (z := Int32.ofInt x / Int32.ofInt y) hd pl_idiv (if_neg (ab_ne0 (ab_sr_hd hs) hy)) k
theorem ok_irem {x y : Int} (hd : decode M.2.1 pc = .ok (.irem, 1)) (hy : y ≠ 0) (k : ok_ X M d (pc + 1) ts l ((0, ab_rem x y) :: st) μ P) : ok_ X M d pc ts l ((0, y) :: (0, x) :: st) μ P :=
  ok_sr fun hs => ok_ib (z := Int32.ofInt x - Int32.ofInt x / Int32.ofInt y * Int32.ofInt y) hd pl_irem (if_neg (ab_ne0 (ab_sr_hd hs) hy)) k
theorem ok_ladd {x y : Int} (hd : decode M.2.1 pc = .ok (.ladd, 1)) (k : ok_ X M d (pc + 1) ts l ((1, ab_W (x + y)) :: st) μ P) : ok_ X M d pc ts l ((1, y) :: (1, x) :: st) μ P := ok_lb hd pl_ladd (by decide) rfl (by rw [ab_addW]; exact k)
theorem ok_lsub {x y : Int} (hd : decode M.2.1 pc = .ok (.lsub, 1)) (k : ok_ X M d (pc + 1) ts l ((1, ab_W (x - y)) :: st) μ P) : ok_ X M d pc ts l ((1, y) :: (1, x) :: st) μ P := ok_lb hd pl_lsub (by decide) rfl (by rw [ab_subW]; exact k)
theorem ok_lmul {x y : Int} (hd : decode M.2.1 pc = .ok (.lmul, 1)) (k : ok_ X M d (pc + 1) ts l ((1, ab_W (x * y)) :: st) μ P) : ok_ X M d pc ts l ((1, y) :: (1, x) :: st) μ P := ok_lb hd pl_lmul (by decide) rfl (by rw [ab_mulW]; exact k)
theorem ok_land {x y : Int} (hd : decode M.2.1 pc = .ok (.land, 1)) (k : ok_ X M d (pc + 1) ts l ((1, ab_landL x y) :: st) μ P) : ok_ X M d pc ts l ((1, y) :: (1, x) :: st) μ P := ok_lb hd pl_land (by decide) rfl k
theorem ok_lor {x y : Int} (hd : decode M.2.1 pc = .ok (.lor, 1)) (k : ok_ X M d (pc + 1) ts l ((1, ab_lorL x y) :: st) μ P) : ok_ X M d pc ts l ((1, y) :: (1, x) :: st) μ P := ok_lb hd pl_lor (by decide) rfl k
theorem ok_lxor {x y : Int} (hd : decode M.2.1 pc = .ok (.lxor, 1)) (k : ok_ X M d (pc + 1) ts l ((1, ab_lxorL x y) :: st) μ P) : ok_ X M d pc ts l ((1, y) :: (1, x) :: st) μ P := ok_lb hd pl_lxor (by decide) rfl k
theorem ok_lshl {x y : Int} (hd : decode M.2.1 pc = .ok (.lshl, 1)) (k : ok_ X M d (pc + 1) ts l ((1, ab_shlL x y) :: st) μ P) : ok_ X M d pc ts l ((0, y) :: (1, x) :: st) μ P := ok_ls hd pl_lshl rfl k
theorem ok_lshr {x y : Int} (hd : decode M.2.1 pc = .ok (.lshr, 1)) (k : ok_ X M d (pc + 1) ts l ((1, ab_shrL x y) :: st) μ P) : ok_ X M d pc ts l ((0, y) :: (1, x) :: st) μ P := ok_ls hd pl_lshr rfl k
theorem ok_lushr {x y : Int} (hd : decode M.2.1 pc = .ok (.lushr, 1)) (k : ok_ X M d (pc + 1) ts l ((1, ab_ushrL x y) :: st) μ P) : ok_ X M d pc ts l ((0, y) :: (1, x) :: st) μ P := ok_ls hd pl_lushr rfl k
end OK3
