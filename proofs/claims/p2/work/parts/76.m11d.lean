/-! THE REFERENCE, part 74: what a step does to the height -/
section M74
/-- the height behind a step, by its kind -/
def tHu (k m h h' : Int) : Prop := (1 ≤ k ∧ k ≤ 28) ∧ (k = 1 ∨ k = 2 → h' = h + 1) ∧ (k = 3 ∨ k = 4 ∨ k = 8 → 1 ≤ h ∧ h' = h) ∧ (k = 5 ∨ k = 7 ∨ k = 10 ∨ k = 12 ∨ k = 15 ∨ k = 19 ∨ k = 23 ∨ k = 26 ∨ k = 27 → 1 ≤ h ∧ h' = h - 1) ∧ (k = 5 ∨ k = 13 → 2 ≤ h) ∧ (k = 6 ∨ k = 11 ∨ k = 14 ∨ k = 16 ∨ k = 17 ∨ k = 18 ∨ k = 20 ∨ k = 21 ∨ k = 22 ∨ k = 24 ∨ k = 25 ∨ k = 28 → h' = h) ∧ (k = 9 → 0 ≤ m ∧ m ≤ h ∧ h' = h - m + 1) ∧ (k = 13 → h' = h - 2)
theorem tMv_u {k m h : Int} {s : List Int} : oAl (fun x : Int × List Int => tHu k m h x.1) (tMv k m h s) := by
  unfold tMv
  have S : ∀ (a : Int) (l : List Int), tHu k m h a → oAl (fun x : Int × List Int => tHu k m h x.1) (some (a, l)) := fun a l p => oAl_s p
  refine oAl_i (fun _ => S _ _ ?_) fun _ => oAl_i (fun _ => oAl_i (fun _ => S _ _ ?_) fun _ => oAl_n) fun _ => oAl_i (fun _ => oAl_i (fun _ => S _ _ ?_) fun _ => oAl_n) fun _ => oAl_i (fun _ => S _ _ ?_) fun _ => oAl_i (fun _ => oAl_i (fun z => S _ _ ?_) fun _ => oAl_n) fun _ => oAl_i (fun _ => oAl_i (fun z => S _ _ ?_) fun _ => oAl_n) fun _ => oAl_i (fun _ => oAl_i (fun _ => S _ _ ?_) fun _ => oAl_n) fun _ => oAl_i (fun _ => oAl_i (fun _ => S _ _ ?_) fun _ => oAl_n) fun _ => oAl_i (fun _ => oAl_i (fun _ => S _ _ ?_) fun _ => oAl_n) fun _ => oAl_i (fun _ => S _ _ ?_) fun _ => oAl_i (fun _ => oAl_i (fun _ => S _ _ ?_) fun _ => oAl_n) fun _ => oAl_i (fun _ => oAl_i (fun _ => S _ _ ?_) fun _ => oAl_n) fun _ => oAl_i (fun _ => oAl_i (fun _ => S _ _ ?_) fun _ => oAl_n) fun _ => oAl_i (fun _ => S _ _ ?_) fun _ => oAl_i (fun _ => oAl_i (fun z => S _ _ ?_) fun _ => oAl_n) fun _ => oAl_i (fun _ => oAl_i (fun _ => S _ _ ?_) fun _ => oAl_n) fun _ => oAl_i (fun _ => S _ _ ?_) fun _ => oAl_i (fun _ => oAl_i (fun _ => S _ _ ?_) fun _ => oAl_n) fun _ => oAl_i (fun _ => oAl_i (fun z => S _ _ ?_) fun _ => oAl_n) fun _ => oAl_i (fun _ => oAl_i (fun _ => S _ _ ?_) fun _ => oAl_n) fun _ => oAl_n
  all_goals (unfold tHu; refine ⟨by omega, fun _ => by omega, fun _ => by omega, fun _ => by omega, fun _ => by omega, fun _ => by omega, fun _ => by omega, fun _ => by omega⟩)
/-- the return places of the frames -/
def rtB (μ : ab_m) : List Int → Prop
  | [] => True
  | b :: bs => μ 143 bs.length = b ∧ rtB μ bs
theorem rtB.same {μ μ' : ab_m} : ∀ {L : List Int}, rtB μ L → (∀ j, 0 ≤ j → j < (L.length : Int) → μ' 143 j = μ 143 j) → rtB μ' L
  | [], _, _ => trivial
  | b :: bs, h, f => ⟨by rw [f _ (by omega) (by simp; omega)]; exact h.1, h.2.same fun j a c => f j a (by simp; omega)⟩
/-- what runText may write -/
def fRt (μ μ' : ab_m) : Prop := ∀ c j, ¬ (139 ≤ c ∧ c ≤ 144) → ¬ (c = 109 ∧ (j = 54 ∨ j = 56 ∨ j = 57)) → μ' c j = μ c j
end M74

