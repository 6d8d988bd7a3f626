/-! THE PROGRAM'S TABLES, part a: classes (written by wip/tools/gen_tables.py) -/
/-- the words that stay under warmer tables -/
def jw : List Cond := lw_tbl.filter goodWord
theorem jw_at {w : Cond} (i : Nat) (h : lw_tbl[i]? = some w) (g : goodWord w = true) : w ∈ jw := List.mem_filter.mpr ⟨List.mem_of_getElem? h, g⟩
theorem jw_all {ws : List Cond} (ps : List Nat) (hp : ws = ps.filterMap (fun i => lw_tbl[i]?)) (h : ws.all goodWord = true) : ∀ w ∈ ws, w ∈ jw := by
  intro w hw
  have h1 := List.all_eq_true.mp h w hw
  rw [hp] at hw
  obtain ⟨i, -, hi⟩ := List.mem_filterMap.mp hw
  exact jw_at i hi h1
theorem jw_good : ∀ w ∈ jw, (w.onTables && w.keeps) = true ∨ ∃ ty, w = .arrayClass ty := fun w h => good_of_word (List.mem_filter.mp h).2
theorem jw_tbl : ∀ w ∈ jw, w ∈ lw_tbl := fun w h => (List.mem_filter.mp h).1
theorem jw_s1 {w : Cond} (i : Nat) (h : tables_1_1[i]? = some w) (g : goodWord w = true) : w ∈ jw := by
  have h : w ∈ tables_1_1 := List.mem_of_getElem? h
  exact List.mem_filter.mpr ⟨List.mem_append_right _ (List.mem_append_left _ h), g⟩
theorem jw_s2 {w : Cond} (i : Nat) (h : tables_1_2[i]? = some w) (g : goodWord w = true) : w ∈ jw := by
  have h : w ∈ tables_1_2 := List.mem_of_getElem? h
  exact List.mem_filter.mpr ⟨List.mem_append_right _ (List.mem_append_right _ (List.mem_append_left _ h)), g⟩
theorem jw_s3 {w : Cond} (i : Nat) (h : tables_1_3[i]? = some w) (g : goodWord w = true) : w ∈ jw := by
  have h : w ∈ tables_1_3 := List.mem_of_getElem? h
  exact List.mem_filter.mpr ⟨List.mem_append_right _ (List.mem_append_right _ (List.mem_append_right _ (List.mem_append_left _ h))), g⟩
theorem jw_s4 {w : Cond} (i : Nat) (h : tables_1_4[i]? = some w) (g : goodWord w = true) : w ∈ jw := by
  have h : w ∈ tables_1_4 := List.mem_of_getElem? h
  exact List.mem_filter.mpr ⟨List.mem_append_right _ (List.mem_append_right _ (List.mem_append_right _ (List.mem_append_right _ (List.mem_append_left _ h)))), g⟩
theorem jw_s5 {w : Cond} (i : Nat) (h : tables_1_5[i]? = some w) (g : goodWord w = true) : w ∈ jw := by
  have h : w ∈ tables_1_5 := List.mem_of_getElem? h
  exact List.mem_filter.mpr ⟨List.mem_append_right _ (List.mem_append_right _ (List.mem_append_right _ (List.mem_append_right _ (List.mem_append_right _ (List.mem_append_left _ h))))), g⟩
theorem jw_s6 {w : Cond} (i : Nat) (h : tables_1_6[i]? = some w) (g : goodWord w = true) : w ∈ jw := by
  have h : w ∈ tables_1_6 := List.mem_of_getElem? h
  exact List.mem_filter.mpr ⟨List.mem_append_right _ (List.mem_append_right _ (List.mem_append_right _ (List.mem_append_right _ (List.mem_append_right _ (List.mem_append_right _ (List.mem_append_left _ h)))))), g⟩
theorem jw_s7 {w : Cond} (i : Nat) (h : tables_1_7[i]? = some w) (g : goodWord w = true) : w ∈ jw := by
  have h : w ∈ tables_1_7 := List.mem_of_getElem? h
  exact List.mem_filter.mpr ⟨List.mem_append_right _ (List.mem_append_right _ (List.mem_append_right _ (List.mem_append_right _ (List.mem_append_right _ (List.mem_append_right _ (List.mem_append_right _ (List.mem_append_left _ h))))))), g⟩
theorem jw_s8 {w : Cond} (i : Nat) (h : tables_1_8[i]? = some w) (g : goodWord w = true) : w ∈ jw := by
  have h : w ∈ tables_1_8 := List.mem_of_getElem? h
  exact List.mem_filter.mpr ⟨List.mem_append_right _ (List.mem_append_right _ (List.mem_append_right _ (List.mem_append_right _ (List.mem_append_right _ (List.mem_append_right _ (List.mem_append_right _ (List.mem_append_right _ (List.mem_append_left _ h)))))))), g⟩
theorem jw_s9 {w : Cond} (i : Nat) (h : tables_1_9[i]? = some w) (g : goodWord w = true) : w ∈ jw := by
  have h : w ∈ tables_1_9 := List.mem_of_getElem? h
  exact List.mem_filter.mpr ⟨List.mem_append_right _ (List.mem_append_right _ (List.mem_append_right _ (List.mem_append_right _ (List.mem_append_right _ (List.mem_append_right _ (List.mem_append_right _ (List.mem_append_right _ (List.mem_append_right _ (List.mem_append_left _ h))))))))), g⟩
theorem jw_s10 {w : Cond} (i : Nat) (h : tables_1_10[i]? = some w) (g : goodWord w = true) : w ∈ jw := by
  have h : w ∈ tables_1_10 := List.mem_of_getElem? h
  exact List.mem_filter.mpr ⟨List.mem_append_right _ (List.mem_append_right _ (List.mem_append_right _ (List.mem_append_right _ (List.mem_append_right _ (List.mem_append_right _ (List.mem_append_right _ (List.mem_append_right _ (List.mem_append_right _ (List.mem_append_right _ (List.mem_append_left _ h)))))))))), g⟩
theorem jw_s11 {w : Cond} (i : Nat) (h : tables_1_11[i]? = some w) (g : goodWord w = true) : w ∈ jw := by
  have h : w ∈ tables_1_11 := List.mem_of_getElem? h
  exact List.mem_filter.mpr ⟨List.mem_append_right _ (List.mem_append_right _ (List.mem_append_right _ (List.mem_append_right _ (List.mem_append_right _ (List.mem_append_right _ (List.mem_append_right _ (List.mem_append_right _ (List.mem_append_right _ (List.mem_append_right _ (List.mem_append_right _ h)))))))))), g⟩
/-- a choice by a number, read off a tree -/
theorem jt_c {α : Type} {b : Bool} {x y : Option α} {P : α → Prop} (hx : ∀ r, x = some r → P r) (hy : ∀ r, y = some r → P r) : ∀ r, (bif b then x else y) = some r → P r := by
  cases b
  · exact hy
  · exact hx
theorem jt_l {α : Type} {i k : Nat} {x : α} {P : Nat → α → Prop} (h : P k x) : ∀ r, (bif Nat.beq i k then some x else none) = some r → P i r := by
  intro r hr
  cases hb : Nat.beq i k
  · rw [hb] at hr; cases hr
  · rw [hb] at hr
    cases hr
    rw [Nat.eq_of_beq_eq_true hb]
    exact h
theorem jt_n {α : Type} {P : α → Prop} : ∀ r, (none : Option α) = some r → P r := fun _ h => by cases h

def jC0 : String := "WhilePress"
def jT0 : u_T := fun k => match k with
  | 0 => ("WhilePress", "tape", "[I", true)
  | 1 => ("WhilePress", "tapeSize", "I", false)
  | 2 => ("WhilePress", "reader", "LWhilePress$Reader;", true)
  | 3 => ("WhilePress", "script", "LWhilePress$Script;", false)
  | 4 => ("WhilePress", "spare", "LWhilePress$Script;", false)
  | 5 => ("WhilePress", "wasRead", "Z", false)
  | 6 => ("WhilePress", "faultPlace", "I", false)
  | 7 => ("WhilePress", "maker", "LWhilePress$Maker;", true)
  | 8 => ("WhilePress", "plain", "LWhilePress$Code;", true)
  | 9 => ("WhilePress", "wasLowered", "Z", false)
  | 10 => ("WhilePress", "plainLives", "LWhilePress$Lives;", true)
  | 11 => ("WhilePress", "knowledge", "LWhilePress$Knowledge;", true)
  | 12 => ("WhilePress", "knowsPlain", "Z", false)
  | 13 => ("WhilePress", "improver", "LWhilePress$Improver;", true)
  | 14 => ("WhilePress", "better", "LWhilePress$Code;", true)
  | 15 => ("WhilePress", "wasImproved", "Z", false)
  | _ => ("WhilePress", "runner", "LWhilePress$Runner;", true)
def jY0 : Nat → FieldType := fun k => match k with
  | 0 => (.array .int)
  | 1 => .int
  | 2 => (.object "WhilePress$Reader")
  | 3 => (.object "WhilePress$Script")
  | 4 => (.object "WhilePress$Script")
  | 5 => .boolean
  | 6 => .int
  | 7 => (.object "WhilePress$Maker")
  | 8 => (.object "WhilePress$Code")
  | 9 => .boolean
  | 10 => (.object "WhilePress$Lives")
  | 11 => (.object "WhilePress$Knowledge")
  | 12 => .boolean
  | 13 => (.object "WhilePress$Improver")
  | 14 => (.object "WhilePress$Code")
  | 15 => .boolean
  | _ => (.object "WhilePress$Runner")
theorem jC0_in : ∀ w ∈ u_ws jC0 jT0 17, w ∈ jw := jw_all [756, 758, 760, 762, 764, 766, 768, 770, 772, 774, 776, 778, 780, 782, 784, 786, 788] (by decide +kernel) (by decide +kernel)
theorem jC0_nm : ∀ a, a < 17 → ∀ b, b < 17 → a ≠ b → (jT0 a).2.1 ≠ (jT0 b).2.1 := by decide +kernel
theorem jC0_ty : ∀ k, k < 17 → parseFieldDescriptor (jT0 k).2.2.1 = some (jY0 k) := by decide +kernel
theorem jC0_new : Cond.instantiable jC0 17 ∈ jw ∧ Cond.initialized jC0 ∈ jw := ⟨jw_s1 34 (by decide +kernel) rfl, jw_s1 1 (by decide +kernel) rfl⟩
def jC1 : String := "WhilePress$Code"
def jT1 : u_T := fun k => match k with
  | 0 => ("WhilePress$Code", "ops", "[I", true)
  | 1 => ("WhilePress$Code", "ds", "[I", true)
  | 2 => ("WhilePress$Code", "as", "[I", true)
  | 3 => ("WhilePress$Code", "bs", "[I", true)
  | 4 => ("WhilePress$Code", "forms", "[I", true)
  | 5 => ("WhilePress$Code", "count", "I", false)
  | 6 => ("WhilePress$Code", "registers", "I", false)
  | 7 => ("WhilePress$Code", "isTooLong", "Z", false)
  | 8 => ("WhilePress$Code", "cells", "[I", true)
  | 9 => ("WhilePress$Code", "isLeader", "[Z", true)
  | 10 => ("WhilePress$Code", "isReached", "[Z", true)
  | 11 => ("WhilePress$Code", "isGone", "[Z", true)
  | 12 => ("WhilePress$Code", "moved", "[I", true)
  | _ => ("WhilePress$Code", "open", "[I", true)
def jY1 : Nat → FieldType := fun k => match k with
  | 0 => (.array .int)
  | 1 => (.array .int)
  | 2 => (.array .int)
  | 3 => (.array .int)
  | 4 => (.array .int)
  | 5 => .int
  | 6 => .int
  | 7 => .boolean
  | 8 => (.array .int)
  | 9 => (.array .boolean)
  | 10 => (.array .boolean)
  | 11 => (.array .boolean)
  | 12 => (.array .int)
  | _ => (.array .int)
theorem jC1_in : ∀ w ∈ u_ws jC1 jT1 14, w ∈ jw := jw_all [527, 529, 531, 533, 535, 537, 539, 541, 543, 545, 547, 549, 551, 553] (by decide +kernel) (by decide +kernel)
theorem jC1_nm : ∀ a, a < 14 → ∀ b, b < 14 → a ≠ b → (jT1 a).2.1 ≠ (jT1 b).2.1 := by decide +kernel
theorem jC1_ty : ∀ k, k < 14 → parseFieldDescriptor (jT1 k).2.2.1 = some (jY1 k) := by decide +kernel
theorem jC1_new : Cond.instantiable jC1 14 ∈ jw ∧ Cond.initialized jC1 ∈ jw := ⟨jw_s2 55 (by decide +kernel) rfl, jw_s1 7 (by decide +kernel) rfl⟩
def jC2 : String := "WhilePress$Holdings"
def jT2 : u_T := fun k => match k with
  | 0 => ("WhilePress$Holdings", "factOf", "[I", true)
  | 1 => ("WhilePress$Holdings", "holders", "[I", true)
  | 2 => ("WhilePress$Holdings", "ops", "[I", true)
  | 3 => ("WhilePress$Holdings", "as", "[I", true)
  | 4 => ("WhilePress$Holdings", "bs", "[I", true)
  | 5 => ("WhilePress$Holdings", "forms", "[I", true)
  | 6 => ("WhilePress$Holdings", "count", "I", false)
  | 7 => ("WhilePress$Holdings", "ends", "[J", true)
  | 8 => ("WhilePress$Holdings", "table", "[J", true)
  | _ => ("WhilePress$Holdings", "now", "[J", true)
def jY2 : Nat → FieldType := fun k => match k with
  | 0 => (.array .int)
  | 1 => (.array .int)
  | 2 => (.array .int)
  | 3 => (.array .int)
  | 4 => (.array .int)
  | 5 => (.array .int)
  | 6 => .int
  | 7 => (.array .long)
  | 8 => (.array .long)
  | _ => (.array .long)
theorem jC2_in : ∀ w ∈ u_ws jC2 jT2 10, w ∈ jw := jw_all [636, 638, 640, 642, 644, 646, 648, 650, 652, 654] (by decide +kernel) (by decide +kernel)
theorem jC2_nm : ∀ a, a < 10 → ∀ b, b < 10 → a ≠ b → (jT2 a).2.1 ≠ (jT2 b).2.1 := by decide +kernel
theorem jC2_ty : ∀ k, k < 10 → parseFieldDescriptor (jT2 k).2.2.1 = some (jY2 k) := by decide +kernel
theorem jC2_new : Cond.instantiable jC2 10 ∈ jw ∧ Cond.initialized jC2 ∈ jw := ⟨jw_s2 214 (by decide +kernel) rfl, jw_s1 11 (by decide +kernel) rfl⟩
def jC3 : String := "WhilePress$Improver"
def jT3 : u_T := fun k => match k with
  | 0 => ("WhilePress$Improver", "knowledge", "LWhilePress$Knowledge;", true)
  | 1 => ("WhilePress$Improver", "holdings", "LWhilePress$Holdings;", true)
  | 2 => ("WhilePress$Improver", "lives", "LWhilePress$Lives;", true)
  | _ => ("WhilePress$Improver", "rounds", "I", false)
def jY3 : Nat → FieldType := fun k => match k with
  | 0 => (.object "WhilePress$Knowledge")
  | 1 => (.object "WhilePress$Holdings")
  | 2 => (.object "WhilePress$Lives")
  | _ => .int
theorem jC3_in : ∀ w ∈ u_ws jC3 jT3 4, w ∈ jw := jw_all [665, 667, 669, 671] (by decide +kernel) (by decide +kernel)
theorem jC3_nm : ∀ a, a < 4 → ∀ b, b < 4 → a ≠ b → (jT3 a).2.1 ≠ (jT3 b).2.1 := by decide +kernel
theorem jC3_ty : ∀ k, k < 4 → parseFieldDescriptor (jT3 k).2.2.1 = some (jY3 k) := by decide +kernel
theorem jC3_new : Cond.instantiable jC3 4 ∈ jw ∧ Cond.initialized jC3 ∈ jw := ⟨jw_s2 208 (by decide +kernel) rfl, jw_s1 10 (by decide +kernel) rfl⟩
def jC4 : String := "WhilePress$Knowledge"
def jT4 : u_T := fun k => match k with
  | 0 => ("WhilePress$Knowledge", "table", "[J", true)
  | 1 => ("WhilePress$Knowledge", "isCome", "[Z", true)
  | 2 => ("WhilePress$Knowledge", "isWaiting", "[Z", true)
  | 3 => ("WhilePress$Knowledge", "waiting", "[I", true)
  | 4 => ("WhilePress$Knowledge", "waitingCount", "I", false)
  | _ => ("WhilePress$Knowledge", "now", "[J", true)
def jY4 : Nat → FieldType := fun k => match k with
  | 0 => (.array .long)
  | 1 => (.array .boolean)
  | 2 => (.array .boolean)
  | 3 => (.array .int)
  | 4 => .int
  | _ => (.array .long)
theorem jC4_in : ∀ w ∈ u_ws jC4 jT4 6, w ∈ jw := jw_all [601, 603, 605, 607, 609, 611] (by decide +kernel) (by decide +kernel)
theorem jC4_nm : ∀ a, a < 6 → ∀ b, b < 6 → a ≠ b → (jT4 a).2.1 ≠ (jT4 b).2.1 := by decide +kernel
theorem jC4_ty : ∀ k, k < 6 → parseFieldDescriptor (jT4 k).2.2.1 = some (jY4 k) := by decide +kernel
theorem jC4_new : Cond.instantiable jC4 6 ∈ jw ∧ Cond.initialized jC4 ∈ jw := ⟨jw_s2 181 (by decide +kernel) rfl, jw_s1 9 (by decide +kernel) rfl⟩
def jC5 : String := "WhilePress$Lives"
def jT5 : u_T := fun k => match k with
  | 0 => ("WhilePress$Lives", "before", "[J", true)
  | 1 => ("WhilePress$Lives", "behind", "[J", true)
  | 2 => ("WhilePress$Lives", "apart", "[J", true)
  | 3 => ("WhilePress$Lives", "isThere", "[Z", true)
  | 4 => ("WhilePress$Lives", "isTaken", "[Z", true)
  | 5 => ("WhilePress$Lives", "colours", "[I", true)
  | _ => ("WhilePress$Lives", "colourCount", "I", false)
def jY5 : Nat → FieldType := fun k => match k with
  | 0 => (.array .long)
  | 1 => (.array .long)
  | 2 => (.array .long)
  | 3 => (.array .boolean)
  | 4 => (.array .boolean)
  | 5 => (.array .int)
  | _ => .int
theorem jC5_in : ∀ w ∈ u_ws jC5 jT5 7, w ∈ jw := jw_all [572, 574, 576, 578, 580, 582, 584] (by decide +kernel) (by decide +kernel)
theorem jC5_nm : ∀ a, a < 7 → ∀ b, b < 7 → a ≠ b → (jT5 a).2.1 ≠ (jT5 b).2.1 := by decide +kernel
theorem jC5_ty : ∀ k, k < 7 → parseFieldDescriptor (jT5 k).2.2.1 = some (jY5 k) := by decide +kernel
theorem jC5_new : Cond.instantiable jC5 7 ∈ jw ∧ Cond.initialized jC5 ∈ jw := ⟨jw_s2 151 (by decide +kernel) rfl, jw_s1 8 (by decide +kernel) rfl⟩
def jC6 : String := "WhilePress$Maker"
def jT6 : u_T := fun k => match k with
  | 0 => ("WhilePress$Maker", "script", "LWhilePress$Script;", false)
  | 1 => ("WhilePress$Maker", "made", "LWhilePress$Code;", false)
  | 2 => ("WhilePress$Maker", "at", "I", false)
  | 3 => ("WhilePress$Maker", "begun", "[I", true)
  | 4 => ("WhilePress$Maker", "waits", "[I", true)
  | 5 => ("WhilePress$Maker", "truths", "[I", true)
  | 6 => ("WhilePress$Maker", "registers", "[I", true)
  | 7 => ("WhilePress$Maker", "operands", "[I", true)
  | 8 => ("WhilePress$Maker", "operandForms", "[I", true)
  | 9 => ("WhilePress$Maker", "operandCount", "I", false)
  | 10 => ("WhilePress$Maker", "backs", "[I", true)
  | 11 => ("WhilePress$Maker", "results", "[I", true)
  | _ => ("WhilePress$Maker", "calls", "I", false)
def jY6 : Nat → FieldType := fun k => match k with
  | 0 => (.object "WhilePress$Script")
  | 1 => (.object "WhilePress$Code")
  | 2 => .int
  | 3 => (.array .int)
  | 4 => (.array .int)
  | 5 => (.array .int)
  | 6 => (.array .int)
  | 7 => (.array .int)
  | 8 => (.array .int)
  | 9 => .int
  | 10 => (.array .int)
  | 11 => (.array .int)
  | _ => .int
theorem jC6_in : ∀ w ∈ u_ws jC6 jT6 13, w ∈ jw := jw_all [434, 436, 438, 440, 442, 444, 446, 448, 450, 452, 454, 456, 458] (by decide +kernel) (by decide +kernel)
theorem jC6_nm : ∀ a, a < 13 → ∀ b, b < 13 → a ≠ b → (jT6 a).2.1 ≠ (jT6 b).2.1 := by decide +kernel
theorem jC6_ty : ∀ k, k < 13 → parseFieldDescriptor (jT6 k).2.2.1 = some (jY6 k) := by decide +kernel
theorem jC6_new : Cond.instantiable jC6 13 ∈ jw ∧ Cond.initialized jC6 ∈ jw := ⟨jw_s2 9 (by decide +kernel) rfl, jw_s1 6 (by decide +kernel) rfl⟩
def jC7 : String := "WhilePress$Names"
def jT7 : u_T := fun k => match k with
  | 0 => ("WhilePress$Names", "texts", "[J", true)
  | 1 => ("WhilePress$Names", "kinds", "[I", true)
  | 2 => ("WhilePress$Names", "numbers", "[I", true)
  | 3 => ("WhilePress$Names", "count", "I", false)
  | _ => ("WhilePress$Names", "base", "I", false)
def jY7 : Nat → FieldType := fun k => match k with
  | 0 => (.array .long)
  | 1 => (.array .int)
  | 2 => (.array .int)
  | 3 => .int
  | _ => .int
theorem jC7_in : ∀ w ∈ u_ws jC7 jT7 5, w ∈ jw := jw_all [258, 260, 262, 264, 266] (by decide +kernel) (by decide +kernel)
theorem jC7_nm : ∀ a, a < 5 → ∀ b, b < 5 → a ≠ b → (jT7 a).2.1 ≠ (jT7 b).2.1 := by decide +kernel
theorem jC7_ty : ∀ k, k < 5 → parseFieldDescriptor (jT7 k).2.2.1 = some (jY7 k) := by decide +kernel
theorem jC7_new : Cond.instantiable jC7 5 ∈ jw ∧ Cond.initialized jC7 ∈ jw := ⟨jw_s1 79 (by decide +kernel) rfl, jw_s1 4 (by decide +kernel) rfl⟩
def jC8 : String := "WhilePress$Reader"
def jT8 : u_T := fun k => match k with
  | 0 => ("WhilePress$Reader", "words", "LWhilePress$Words;", true)
  | 1 => ("WhilePress$Reader", "names", "LWhilePress$Names;", true)
  | 2 => ("WhilePress$Reader", "script", "LWhilePress$Script;", false)
  | 3 => ("WhilePress$Reader", "at", "I", false)
  | 4 => ("WhilePress$Reader", "stopped", "Z", false)
  | 5 => ("WhilePress$Reader", "fault", "I", false)
  | 6 => ("WhilePress$Reader", "faultPlace", "I", false)
  | 7 => ("WhilePress$Reader", "isSoft", "Z", false)
  | 8 => ("WhilePress$Reader", "open", "I", false)
  | 9 => ("WhilePress$Reader", "statements", "I", false)
  | 10 => ("WhilePress$Reader", "defNow", "I", false)
  | 11 => ("WhilePress$Reader", "inLoop", "Z", false)
  | 12 => ("WhilePress$Reader", "breaks", "I", false)
  | 13 => ("WhilePress$Reader", "nexts", "I", false)
  | 14 => ("WhilePress$Reader", "pendingKinds", "[I", true)
  | 15 => ("WhilePress$Reader", "pendingBegins", "[I", true)
  | 16 => ("WhilePress$Reader", "pendingNumbers", "[I", true)
  | 17 => ("WhilePress$Reader", "pendingExprs", "[I", true)
  | 18 => ("WhilePress$Reader", "pendingNames", "[I", true)
  | _ => ("WhilePress$Reader", "pending", "I", false)
def jY8 : Nat → FieldType := fun k => match k with
  | 0 => (.object "WhilePress$Words")
  | 1 => (.object "WhilePress$Names")
  | 2 => (.object "WhilePress$Script")
  | 3 => .int
  | 4 => .boolean
  | 5 => .int
  | 6 => .int
  | 7 => .boolean
  | 8 => .int
  | 9 => .int
  | 10 => .int
  | 11 => .boolean
  | 12 => .int
  | 13 => .int
  | 14 => (.array .int)
  | 15 => (.array .int)
  | 16 => (.array .int)
  | 17 => (.array .int)
  | 18 => (.array .int)
  | _ => .int
theorem jC8_in : ∀ w ∈ u_ws jC8 jT8 20, w ∈ jw := jw_all [291, 293, 295, 297, 299, 301, 303, 305, 307, 309, 311, 313, 315, 317, 319, 321, 323, 325, 327, 329] (by decide +kernel) (by decide +kernel)
theorem jC8_nm : ∀ a, a < 20 → ∀ b, b < 20 → a ≠ b → (jT8 a).2.1 ≠ (jT8 b).2.1 := by decide +kernel
theorem jC8_ty : ∀ k, k < 20 → parseFieldDescriptor (jT8 k).2.2.1 = some (jY8 k) := by decide +kernel
theorem jC8_new : Cond.instantiable jC8 20 ∈ jw ∧ Cond.initialized jC8 ∈ jw := ⟨jw_s1 42 (by decide +kernel) rfl, jw_s1 2 (by decide +kernel) rfl⟩
def jC9 : String := "WhilePress$Runner"
def jT9 : u_T := fun k => match k with
  | 0 => ("WhilePress$Runner", "inputs", "[I", true)
  | 1 => ("WhilePress$Runner", "inputSize", "I", false)
  | 2 => ("WhilePress$Runner", "prints", "[I", true)
  | 3 => ("WhilePress$Runner", "printSize", "I", false)
  | 4 => ("WhilePress$Runner", "taken", "I", false)
  | 5 => ("WhilePress$Runner", "used", "I", false)
  | 6 => ("WhilePress$Runner", "fuel", "I", false)
  | 7 => ("WhilePress$Runner", "end", "I", false)
  | 8 => ("WhilePress$Runner", "at", "I", false)
  | 9 => ("WhilePress$Runner", "cells", "[I", true)
  | 10 => ("WhilePress$Runner", "slots", "[I", true)
  | 11 => ("WhilePress$Runner", "stack", "[I", true)
  | 12 => ("WhilePress$Runner", "top", "I", false)
  | 13 => ("WhilePress$Runner", "backs", "[I", true)
  | 14 => ("WhilePress$Runner", "calls", "I", false)
  | 15 => ("WhilePress$Runner", "registers", "[I", true)
  | _ => ("WhilePress$Runner", "sameNumbers", "[I", true)
def jY9 : Nat → FieldType := fun k => match k with
  | 0 => (.array .int)
  | 1 => .int
  | 2 => (.array .int)
  | 3 => .int
  | 4 => .int
  | 5 => .int
  | 6 => .int
  | 7 => .int
  | 8 => .int
  | 9 => (.array .int)
  | 10 => (.array .int)
  | 11 => (.array .int)
  | 12 => .int
  | 13 => (.array .int)
  | 14 => .int
  | 15 => (.array .int)
  | _ => (.array .int)
theorem jC9_in : ∀ w ∈ u_ws jC9 jT9 17, w ∈ jw := jw_all [704, 706, 708, 710, 712, 714, 716, 718, 720, 722, 724, 726, 728, 730, 732, 734, 736] (by decide +kernel) (by decide +kernel)
theorem jC9_nm : ∀ a, a < 17 → ∀ b, b < 17 → a ≠ b → (jT9 a).2.1 ≠ (jT9 b).2.1 := by decide +kernel
theorem jC9_ty : ∀ k, k < 17 → parseFieldDescriptor (jT9 k).2.2.1 = some (jY9 k) := by decide +kernel
theorem jC9_new : Cond.instantiable jC9 17 ∈ jw ∧ Cond.initialized jC9 ∈ jw := ⟨jw_s3 28 (by decide +kernel) rfl, jw_s1 12 (by decide +kernel) rfl⟩
def jC10 : String := "WhilePress$Script"
def jT10 : u_T := fun k => match k with
  | 0 => ("WhilePress$Script", "ops", "[I", true)
  | 1 => ("WhilePress$Script", "args", "[I", true)
  | 2 => ("WhilePress$Script", "wraps", "[I", true)
  | 3 => ("WhilePress$Script", "wrapNext", "[I", true)
  | 4 => ("WhilePress$Script", "count", "I", false)
  | 5 => ("WhilePress$Script", "start", "I", false)
  | 6 => ("WhilePress$Script", "globals", "I", false)
  | 7 => ("WhilePress$Script", "locals", "I", false)
  | 8 => ("WhilePress$Script", "rows", "I", false)
  | 9 => ("WhilePress$Script", "cells", "[I", true)
  | 10 => ("WhilePress$Script", "defs", "I", false)
  | 11 => ("WhilePress$Script", "defBegins", "[I", true)
  | 12 => ("WhilePress$Script", "defEnds", "[I", true)
  | 13 => ("WhilePress$Script", "defFirsts", "[I", true)
  | _ => ("WhilePress$Script", "defNames", "[I", true)
def jY10 : Nat → FieldType := fun k => match k with
  | 0 => (.array .int)
  | 1 => (.array .int)
  | 2 => (.array .int)
  | 3 => (.array .int)
  | 4 => .int
  | 5 => .int
  | 6 => .int
  | 7 => .int
  | 8 => .int
  | 9 => (.array .int)
  | 10 => .int
  | 11 => (.array .int)
  | 12 => (.array .int)
  | 13 => (.array .int)
  | _ => (.array .int)
theorem jC10_in : ∀ w ∈ u_ws jC10 jT10 15, w ∈ jw := jw_all [384, 386, 388, 390, 392, 394, 396, 398, 400, 402, 404, 406, 408, 410, 412] (by decide +kernel) (by decide +kernel)
theorem jC10_nm : ∀ a, a < 15 → ∀ b, b < 15 → a ≠ b → (jT10 a).2.1 ≠ (jT10 b).2.1 := by decide +kernel
theorem jC10_ty : ∀ k, k < 15 → parseFieldDescriptor (jT10 k).2.2.1 = some (jY10 k) := by decide +kernel
theorem jC10_new : Cond.instantiable jC10 15 ∈ jw ∧ Cond.initialized jC10 ∈ jw := ⟨jw_s1 166 (by decide +kernel) rfl, jw_s1 5 (by decide +kernel) rfl⟩
def jC11 : String := "WhilePress$Words"
def jT11 : u_T := fun k => match k with
  | 0 => ("WhilePress$Words", "kinds", "[I", true)
  | 1 => ("WhilePress$Words", "places", "[I", true)
  | 2 => ("WhilePress$Words", "values", "[J", true)
  | 3 => ("WhilePress$Words", "count", "I", false)
  | 4 => ("WhilePress$Words", "bytes", "[I", false)
  | _ => ("WhilePress$Words", "size", "I", false)
def jY11 : Nat → FieldType := fun k => match k with
  | 0 => (.array .int)
  | 1 => (.array .int)
  | 2 => (.array .long)
  | 3 => .int
  | 4 => (.array .int)
  | _ => .int
theorem jC11_in : ∀ w ∈ u_ws jC11 jT11 6, w ∈ jw := jw_all [230, 232, 234, 236, 238, 240] (by decide +kernel) (by decide +kernel)
theorem jC11_nm : ∀ a, a < 6 → ∀ b, b < 6 → a ≠ b → (jT11 a).2.1 ≠ (jT11 b).2.1 := by decide +kernel
theorem jC11_ty : ∀ k, k < 6 → parseFieldDescriptor (jT11 k).2.2.1 = some (jY11 k) := by decide +kernel
theorem jC11_new : Cond.instantiable jC11 6 ∈ jw ∧ Cond.initialized jC11 ∈ jw := ⟨jw_s1 48 (by decide +kernel) rfl, jw_s1 3 (by decide +kernel) rfl⟩
def jC12 : String := "WhilePressModel"
def jT12 : u_T := fun k => match k with
  | 0 => ("WhilePressModel", "thrown", "I", false)
  | 1 => ("WhilePressModel", "tape", "[B", true)
  | 2 => ("WhilePressModel", "taped", "I", false)
  | 3 => ("WhilePressModel", "wordKind", "[I", true)
  | 4 => ("WhilePressModel", "wordPlace", "[I", true)
  | 5 => ("WhilePressModel", "wordNumber", "[I", true)
  | 6 => ("WhilePressModel", "wordName", "[J", true)
  | 7 => ("WhilePressModel", "words", "I", false)
  | 8 => ("WhilePressModel", "steps", "[I", true)
  | 9 => ("WhilePressModel", "tolds", "[I", true)
  | 10 => ("WhilePressModel", "ors", "[Z", true)
  | 11 => ("WhilePressModel", "defSteps", "[I", true)
  | 12 => ("WhilePressModel", "listFirst", "[I", true)
  | 13 => ("WhilePressModel", "listMany", "[I", true)
  | 14 => ("WhilePressModel", "rowSizes", "[I", true)
  | 15 => ("WhilePressModel", "declInts", "[I", true)
  | 16 => ("WhilePressModel", "declMany", "[I", true)
  | 17 => ("WhilePressModel", "begins", "[I", true)
  | 18 => ("WhilePressModel", "now", "I", false)
  | 19 => ("WhilePressModel", "isRead", "Z", false)
  | 20 => ("WhilePressModel", "half", "I", false)
  | 21 => ("WhilePressModel", "stepMany", "I", false)
  | 22 => ("WhilePressModel", "pass", "I", false)
  | 23 => ("WhilePressModel", "names", "[J", true)
  | 24 => ("WhilePressModel", "nameKinds", "[I", true)
  | 25 => ("WhilePressModel", "nameOf", "[I", true)
  | 26 => ("WhilePressModel", "nameBlocks", "[I", true)
  | 27 => ("WhilePressModel", "nameMany", "I", false)
  | 28 => ("WhilePressModel", "blocks", "I", false)
  | 29 => ("WhilePressModel", "block", "I", false)
  | 30 => ("WhilePressModel", "ints", "I", false)
  | 31 => ("WhilePressModel", "rows", "I", false)
  | 32 => ("WhilePressModel", "defs", "I", false)
  | 33 => ("WhilePressModel", "pileKind", "[I", true)
  | 34 => ("WhilePressModel", "pileA", "[I", true)
  | 35 => ("WhilePressModel", "pileB", "[I", true)
  | 36 => ("WhilePressModel", "pileC", "[I", true)
  | 37 => ("WhilePressModel", "pileD", "[I", true)
  | 38 => ("WhilePressModel", "piled", "I", false)
  | 39 => ("WhilePressModel", "mode", "I", false)
  | 40 => ("WhilePressModel", "at", "I", false)
  | 41 => ("WhilePressModel", "open", "I", false)
  | 42 => ("WhilePressModel", "counted", "I", false)
  | 43 => ("WhilePressModel", "fault", "I", false)
  | 44 => ("WhilePressModel", "faultWord", "I", false)
  | 45 => ("WhilePressModel", "place", "I", false)
  | 46 => ("WhilePressModel", "operandAt", "I", false)
  | 47 => ("WhilePressModel", "exprsOf", "[I", true)
  | 48 => ("WhilePressModel", "beginsAt", "[I", true)
  | 49 => ("WhilePressModel", "beginNext", "[I", true)
  | 50 => ("WhilePressModel", "beginOr", "[Z", true)
  | 51 => ("WhilePressModel", "beginMany", "I", false)
  | 52 => ("WhilePressModel", "input", "[I", true)
  | 53 => ("WhilePressModel", "inputs", "I", false)
  | 54 => ("WhilePressModel", "taken", "I", false)
  | 55 => ("WhilePressModel", "printed", "[I", true)
  | 56 => ("WhilePressModel", "prints", "I", false)
  | 57 => ("WhilePressModel", "used", "I", false)
  | 58 => ("WhilePressModel", "values", "[I", true)
  | 59 => ("WhilePressModel", "cells", "[I", true)
  | 60 => ("WhilePressModel", "work", "[I", true)
  | 61 => ("WhilePressModel", "backs", "[I", true)
  | 62 => ("WhilePressModel", "gives", "[I", true)
  | 63 => ("WhilePressModel", "op", "[I", true)
  | 64 => ("WhilePressModel", "d", "[I", true)
  | 65 => ("WhilePressModel", "a", "[I", true)
  | 66 => ("WhilePressModel", "b", "[I", true)
  | 67 => ("WhilePressModel", "ka", "[Z", true)
  | 68 => ("WhilePressModel", "kb", "[Z", true)
  | 69 => ("WhilePressModel", "lowered", "I", false)
  | 70 => ("WhilePressModel", "improved", "I", false)
  | 71 => ("WhilePressModel", "registers", "I", false)
  | 72 => ("WhilePressModel", "isLowered", "Z", false)
  | 73 => ("WhilePressModel", "isImproved", "Z", false)
  | 74 => ("WhilePressModel", "isMuch", "Z", false)
  | 75 => ("WhilePressModel", "regOf", "[I", true)
  | 76 => ("WhilePressModel", "isFixed", "[Z", true)
  | 77 => ("WhilePressModel", "operand", "[I", true)
  | 78 => ("WhilePressModel", "operands", "I", false)
  | 79 => ("WhilePressModel", "openKind", "[I", true)
  | 80 => ("WhilePressModel", "openA", "[I", true)
  | 81 => ("WhilePressModel", "openB", "[I", true)
  | 82 => ("WhilePressModel", "openC", "[I", true)
  | 83 => ("WhilePressModel", "openMany", "I", false)
  | 84 => ("WhilePressModel", "callTo", "[I", true)
  | 85 => ("WhilePressModel", "callBack", "[I", true)
  | 86 => ("WhilePressModel", "callChain", "[I", true)
  | 87 => ("WhilePressModel", "sure", "[Z", true)
  | 88 => ("WhilePressModel", "what", "[I", true)
  | 89 => ("WhilePressModel", "come", "[Z", true)
  | 90 => ("WhilePressModel", "dirty", "[Z", true)
  | 91 => ("WhilePressModel", "outSure", "Z", false)
  | 92 => ("WhilePressModel", "outWhat", "I", false)
  | 93 => ("WhilePressModel", "changed", "Z", false)
  | 94 => ("WhilePressModel", "hold", "[I", true)
  | 95 => ("WhilePressModel", "exprOp", "[I", true)
  | 96 => ("WhilePressModel", "exprA", "[I", true)
  | 97 => ("WhilePressModel", "exprB", "[I", true)
  | 98 => ("WhilePressModel", "exprKa", "[Z", true)
  | 99 => ("WhilePressModel", "exprKb", "[Z", true)
  | 100 => ("WhilePressModel", "exprOf", "[I", true)
  | 101 => ("WhilePressModel", "gone", "[Z", true)
  | 102 => ("WhilePressModel", "newAt", "[I", true)
  | 103 => ("WhilePressModel", "live", "[Z", true)
  | 104 => ("WhilePressModel", "rounds", "I", false)
  | 105 => ("WhilePressModel", "colours", "I", false)
  | 106 => ("WhilePressModel", "colour", "[I", true)
  | 107 => ("WhilePressModel", "apart", "[Z", true)
  | 108 => ("WhilePressModel", "isThere", "[Z", true)
  | 109 => ("WhilePressModel", "held", "[I", true)
  | _ => ("WhilePressModel", "byColours", "Z", false)
def jY12 : Nat → FieldType := fun k => match k with
  | 0 => .int
  | 1 => (.array .byte)
  | 2 => .int
  | 3 => (.array .int)
  | 4 => (.array .int)
  | 5 => (.array .int)
  | 6 => (.array .long)
  | 7 => .int
  | 8 => (.array .int)
  | 9 => (.array .int)
  | 10 => (.array .boolean)
  | 11 => (.array .int)
  | 12 => (.array .int)
  | 13 => (.array .int)
  | 14 => (.array .int)
  | 15 => (.array .int)
  | 16 => (.array .int)
  | 17 => (.array .int)
  | 18 => .int
  | 19 => .boolean
  | 20 => .int
  | 21 => .int
  | 22 => .int
  | 23 => (.array .long)
  | 24 => (.array .int)
  | 25 => (.array .int)
  | 26 => (.array .int)
  | 27 => .int
  | 28 => .int
  | 29 => .int
  | 30 => .int
  | 31 => .int
  | 32 => .int
  | 33 => (.array .int)
  | 34 => (.array .int)
  | 35 => (.array .int)
  | 36 => (.array .int)
  | 37 => (.array .int)
  | 38 => .int
  | 39 => .int
  | 40 => .int
  | 41 => .int
  | 42 => .int
  | 43 => .int
  | 44 => .int
  | 45 => .int
  | 46 => .int
  | 47 => (.array .int)
  | 48 => (.array .int)
  | 49 => (.array .int)
  | 50 => (.array .boolean)
  | 51 => .int
  | 52 => (.array .int)
  | 53 => .int
  | 54 => .int
  | 55 => (.array .int)
  | 56 => .int
  | 57 => .int
  | 58 => (.array .int)
  | 59 => (.array .int)
  | 60 => (.array .int)
  | 61 => (.array .int)
  | 62 => (.array .int)
  | 63 => (.array .int)
  | 64 => (.array .int)
  | 65 => (.array .int)
  | 66 => (.array .int)
  | 67 => (.array .boolean)
  | 68 => (.array .boolean)
  | 69 => .int
  | 70 => .int
  | 71 => .int
  | 72 => .boolean
  | 73 => .boolean
  | 74 => .boolean
  | 75 => (.array .int)
  | 76 => (.array .boolean)
  | 77 => (.array .int)
  | 78 => .int
  | 79 => (.array .int)
  | 80 => (.array .int)
  | 81 => (.array .int)
  | 82 => (.array .int)
  | 83 => .int
  | 84 => (.array .int)
  | 85 => (.array .int)
  | 86 => (.array .int)
  | 87 => (.array .boolean)
  | 88 => (.array .int)
  | 89 => (.array .boolean)
  | 90 => (.array .boolean)
  | 91 => .boolean
  | 92 => .int
  | 93 => .boolean
  | 94 => (.array .int)
  | 95 => (.array .int)
  | 96 => (.array .int)
  | 97 => (.array .int)
  | 98 => (.array .boolean)
  | 99 => (.array .boolean)
  | 100 => (.array .int)
  | 101 => (.array .boolean)
  | 102 => (.array .int)
  | 103 => (.array .boolean)
  | 104 => .int
  | 105 => .int
  | 106 => (.array .int)
  | 107 => (.array .boolean)
  | 108 => (.array .boolean)
  | 109 => (.array .int)
  | _ => .boolean
theorem jC12_in : ∀ w ∈ u_ws jC12 jT12 111, w ∈ jw := jw_all [2051, 2053, 2055, 2057, 2059, 2061, 2063, 2065, 2067, 2069, 2071, 2073, 2075, 2077, 2079, 2081, 2083, 2085, 2087, 2089, 2091, 2093, 2095, 2097, 2099, 2101, 2103, 2105, 2107, 2109, 2111, 2113, 2115, 2117, 2119, 2121, 2123, 2125, 2127, 2129, 2131, 2133, 2135, 2137, 2139, 2141, 2143, 2145, 2147, 2149, 2151, 2153, 2155, 2157, 2159, 2161, 2163, 2165, 2167, 2169, 2171, 2173, 2175, 2177, 2179, 2181, 2183, 2185, 2187, 2189, 2191, 2193, 2195, 2197, 2199, 2201, 2203, 2205, 2207, 2209, 2211, 2213, 2215, 2217, 2219, 2221, 2223, 2225, 2227, 2229, 2231, 2233, 2235, 2237, 2239, 2241, 2243, 2245, 2247, 2249, 2251, 2253, 2255, 2257, 2259, 2261, 2263, 2265, 2267, 2269, 2271] (by decide +kernel) (by decide +kernel)
theorem jC12_nm : ∀ a, a < 111 → ∀ b, b < 111 → a ≠ b → (jT12 a).2.1 ≠ (jT12 b).2.1 := by decide +kernel
theorem jC12_ty : ∀ k, k < 111 → parseFieldDescriptor (jT12 k).2.2.1 = some (jY12 k) := by decide +kernel
theorem jC12_new : Cond.instantiable jC12 111 ∈ jw ∧ Cond.initialized jC12 ∈ jw := ⟨jw_s8 86 (by decide +kernel) rfl, jw_s1 13 (by decide +kernel) rfl⟩
def jC13 : String := "java/lang/IllegalArgumentException"
def jT13 : u_T := fun _ => ("", "", "", false)
def jY13 : Nat → FieldType := fun _ => .int
theorem jC13_in : ∀ w ∈ u_ws jC13 jT13 0, w ∈ jw := fun w h => by simp [u_ws] at h
theorem jC13_nm : ∀ a, a < 0 → ∀ b, b < 0 → a ≠ b → (jT13 a).2.1 ≠ (jT13 b).2.1 := fun a h => absurd h (Nat.not_lt_zero a)
theorem jC13_ty : ∀ k, k < 0 → parseFieldDescriptor (jT13 k).2.2.1 = some (jY13 k) := fun a h => absurd h (Nat.not_lt_zero a)
def jC14 : String := "java/lang/IllegalStateException"
def jT14 : u_T := fun _ => ("", "", "", false)
def jY14 : Nat → FieldType := fun _ => .int
theorem jC14_in : ∀ w ∈ u_ws jC14 jT14 0, w ∈ jw := fun w h => by simp [u_ws] at h
theorem jC14_nm : ∀ a, a < 0 → ∀ b, b < 0 → a ≠ b → (jT14 a).2.1 ≠ (jT14 b).2.1 := fun a h => absurd h (Nat.not_lt_zero a)
theorem jC14_ty : ∀ k, k < 0 → parseFieldDescriptor (jT14 k).2.2.1 = some (jY14 k) := fun a h => absurd h (Nat.not_lt_zero a)
def jC15 : String := "java/lang/IndexOutOfBoundsException"
def jT15 : u_T := fun _ => ("", "", "", false)
def jY15 : Nat → FieldType := fun _ => .int
theorem jC15_in : ∀ w ∈ u_ws jC15 jT15 0, w ∈ jw := fun w h => by simp [u_ws] at h
theorem jC15_nm : ∀ a, a < 0 → ∀ b, b < 0 → a ≠ b → (jT15 a).2.1 ≠ (jT15 b).2.1 := fun a h => absurd h (Nat.not_lt_zero a)
theorem jC15_ty : ∀ k, k < 0 → parseFieldDescriptor (jT15 k).2.2.1 = some (jY15 k) := fun a h => absurd h (Nat.not_lt_zero a)
abbrev jCl : List vw_C := [(jC0, jT0, 17), (jC1, jT1, 14), (jC2, jT2, 10), (jC3, jT3, 4), (jC4, jT4, 6), (jC5, jT5, 7), (jC6, jT6, 13), (jC7, jT7, 5), (jC8, jT8, 20), (jC9, jT9, 17), (jC10, jT10, 15), (jC11, jT11, 6), (jC12, jT12, 111), (jC13, jT13, 0), (jC14, jT14, 0), (jC15, jT15, 0)]
def jp_N (ci : Nat) : Nat := match ci with
  | 0 => 17
  | 1 => 14
  | 2 => 10
  | 3 => 4
  | 4 => 6
  | 5 => 7
  | 6 => 13
  | 7 => 5
  | 8 => 20
  | 9 => 17
  | 10 => 15
  | 11 => 6
  | 12 => 111
  | 13 => 0
  | 14 => 0
  | 15 => 0
  | _ => 0
def jp_C (ci : Nat) : String := match ci with
  | 0 => jC0
  | 1 => jC1
  | 2 => jC2
  | 3 => jC3
  | 4 => jC4
  | 5 => jC5
  | 6 => jC6
  | 7 => jC7
  | 8 => jC8
  | 9 => jC9
  | 10 => jC10
  | 11 => jC11
  | 12 => jC12
  | 13 => jC13
  | 14 => jC14
  | 15 => jC15
  | _ => jC0
def jp_T (ci : Nat) : u_T := match ci with
  | 0 => jT0
  | 1 => jT1
  | 2 => jT2
  | 3 => jT3
  | 4 => jT4
  | 5 => jT5
  | 6 => jT6
  | 7 => jT7
  | 8 => jT8
  | 9 => jT9
  | 10 => jT10
  | 11 => jT11
  | 12 => jT12
  | 13 => jT13
  | 14 => jT14
  | 15 => jT15
  | _ => jT0
def jp_ty (ci : Nat) : Nat → FieldType := match ci with
  | 0 => jY0
  | 1 => jY1
  | 2 => jY2
  | 3 => jY3
  | 4 => jY4
  | 5 => jY5
  | 6 => jY6
  | 7 => jY7
  | 8 => jY8
  | 9 => jY9
  | 10 => jY10
  | 11 => jY11
  | 12 => jY12
  | 13 => jY13
  | 14 => jY14
  | 15 => jY15
  | _ => jY0
theorem jp_cl : ∀ ci, ci < 16 → jCl[ci]? = some (jp_C ci, jp_T ci, jp_N ci) ∧ (∀ w ∈ u_ws (jp_C ci) (jp_T ci) (jp_N ci), w ∈ jw) ∧ (∀ a, a < jp_N ci → ∀ b, b < jp_N ci → a ≠ b → (jp_T ci a).2.1 ≠ (jp_T ci b).2.1) ∧ (∀ k, k < jp_N ci → parseFieldDescriptor (jp_T ci k).2.2.1 = some (jp_ty ci k)) := by
  intro ci h
  match ci, h with
  | 0, _ => exact ⟨rfl, jC0_in, jC0_nm, jC0_ty⟩
  | 1, _ => exact ⟨rfl, jC1_in, jC1_nm, jC1_ty⟩
  | 2, _ => exact ⟨rfl, jC2_in, jC2_nm, jC2_ty⟩
  | 3, _ => exact ⟨rfl, jC3_in, jC3_nm, jC3_ty⟩
  | 4, _ => exact ⟨rfl, jC4_in, jC4_nm, jC4_ty⟩
  | 5, _ => exact ⟨rfl, jC5_in, jC5_nm, jC5_ty⟩
  | 6, _ => exact ⟨rfl, jC6_in, jC6_nm, jC6_ty⟩
  | 7, _ => exact ⟨rfl, jC7_in, jC7_nm, jC7_ty⟩
  | 8, _ => exact ⟨rfl, jC8_in, jC8_nm, jC8_ty⟩
  | 9, _ => exact ⟨rfl, jC9_in, jC9_nm, jC9_ty⟩
  | 10, _ => exact ⟨rfl, jC10_in, jC10_nm, jC10_ty⟩
  | 11, _ => exact ⟨rfl, jC11_in, jC11_nm, jC11_ty⟩
  | 12, _ => exact ⟨rfl, jC12_in, jC12_nm, jC12_ty⟩
  | 13, _ => exact ⟨rfl, jC13_in, jC13_nm, jC13_ty⟩
  | 14, _ => exact ⟨rfl, jC14_in, jC14_nm, jC14_ty⟩
  | 15, _ => exact ⟨rfl, jC15_in, jC15_nm, jC15_ty⟩
  | k + 16, h => exact absurd h (by omega)
def jp_O (q : Nat) : String := match q with
  | 0 => "WhilePress"
  | 1 => "WhilePress$Code"
  | 2 => "WhilePress$Holdings"
  | 3 => "WhilePress$Improver"
  | 4 => "WhilePress$Knowledge"
  | 5 => "WhilePress$Lives"
  | 6 => "WhilePress$Maker"
  | 7 => "WhilePress$Names"
  | 8 => "WhilePress$Reader"
  | 9 => "WhilePress$Runner"
  | 10 => "WhilePress$Script"
  | 11 => "WhilePress$Words"
  | 12 => "WhilePressModel"
  | 13 => "WhilePressLaw"
  | 14 => "java/util/Arrays"
  | 15 => "java/lang/Math"
  | 16 => "java/lang/Long"
  | 17 => "java/lang/Integer"
  | _ => ""
theorem jp_OC : ∀ q, q < 13 → jp_O q = jp_C q := by decide +kernel
def jp_KEYS : List Int64 := [422826041707, 6579558, 25711, 1701606245, 26982, 6909556, 1852143732, 482955849332, 1919246692, 125780071117422, 7499639, 512852847717]
def jp_STR : List Int32 := [0, 0, 9, 9, 10, 10, 10, 5, 3, 4, 8, 8, 6, 6, 7, 7, 7, 7, 11, 11, 11, 2, 1, 0, 0, 0, 0]
