/-! THE PROGRAM'S TABLES, part b: methods -/
/-- a method: its name, code, locals, return type; the number of its pool; how many arguments (without this); 1 if it is a constructor -/
abbrev jm_M : Type := MethodName × ByteArray × Nat × Option FieldType × Nat × Nat × Nat
def jm_q (M : jm_M) : Nat := M.2.2.2.2.1
def jm_n (M : jm_M) : Nat := M.2.2.2.2.2.1
def jm_mok (M : jm_M) : Prop := Cond.code M.1 M.2.1 M.2.2.1 M.2.2.2.1 ∈ jw ∧ Cond.initialized M.1.cls ∈ jw ∧ plainName M.1.cls = true ∧ (M.1.cls ≠ "java/lang/invoke/MethodHandle" ∧ M.1.cls ≠ "java/lang/invoke/VarHandle") ∧ (parseMethodDescriptor M.1.desc).map (fun d => d.parameters.length) = some (jm_n M) ∧ M.2.2.1 ≤ 40 ∧ (M.2.2.2.2.2.2 = 1 → M.1.name = "<init>") ∧ jp_O (jm_q M) = M.1.cls
theorem jd_0 : (parseMethodDescriptor "()I").map (fun d => d.parameters.length) = some 0 := by decide +kernel
theorem jd_1 : (parseMethodDescriptor "()V").map (fun d => d.parameters.length) = some 0 := by decide +kernel
theorem jd_2 : (parseMethodDescriptor "()Z").map (fun d => d.parameters.length) = some 0 := by decide +kernel
theorem jd_3 : (parseMethodDescriptor "(I)I").map (fun d => d.parameters.length) = some 1 := by decide +kernel
theorem jd_4 : (parseMethodDescriptor "(I)V").map (fun d => d.parameters.length) = some 1 := by decide +kernel
theorem jd_5 : (parseMethodDescriptor "(I)Z").map (fun d => d.parameters.length) = some 1 := by decide +kernel
theorem jd_6 : (parseMethodDescriptor "(II)I").map (fun d => d.parameters.length) = some 2 := by decide +kernel
theorem jd_7 : (parseMethodDescriptor "(II)J").map (fun d => d.parameters.length) = some 2 := by decide +kernel
theorem jd_8 : (parseMethodDescriptor "(II)V").map (fun d => d.parameters.length) = some 2 := by decide +kernel
theorem jd_9 : (parseMethodDescriptor "(II)Z").map (fun d => d.parameters.length) = some 2 := by decide +kernel
theorem jd_10 : (parseMethodDescriptor "(III)I").map (fun d => d.parameters.length) = some 3 := by decide +kernel
theorem jd_11 : (parseMethodDescriptor "(III)V").map (fun d => d.parameters.length) = some 3 := by decide +kernel
theorem jd_12 : (parseMethodDescriptor "(IIII)V").map (fun d => d.parameters.length) = some 4 := by decide +kernel
theorem jd_13 : (parseMethodDescriptor "(IIII)Z").map (fun d => d.parameters.length) = some 4 := by decide +kernel
theorem jd_14 : (parseMethodDescriptor "(IIIII)I").map (fun d => d.parameters.length) = some 5 := by decide +kernel
theorem jd_15 : (parseMethodDescriptor "(IIIII)V").map (fun d => d.parameters.length) = some 5 := by decide +kernel
theorem jd_16 : (parseMethodDescriptor "(IIIZIZ)I").map (fun d => d.parameters.length) = some 6 := by decide +kernel
theorem jd_17 : (parseMethodDescriptor "(IIIZIZ)Z").map (fun d => d.parameters.length) = some 6 := by decide +kernel
theorem jd_18 : (parseMethodDescriptor "(IIJ)V").map (fun d => d.parameters.length) = some 3 := by decide +kernel
theorem jd_19 : (parseMethodDescriptor "(IIZ)I").map (fun d => d.parameters.length) = some 3 := by decide +kernel
theorem jd_20 : (parseMethodDescriptor "(IIZ)V").map (fun d => d.parameters.length) = some 3 := by decide +kernel
theorem jd_21 : (parseMethodDescriptor "(IIZ)Z").map (fun d => d.parameters.length) = some 3 := by decide +kernel
theorem jd_22 : (parseMethodDescriptor "(ILWhilePress$Code;I)Z").map (fun d => d.parameters.length) = some 3 := by decide +kernel
theorem jd_23 : (parseMethodDescriptor "(IZ)V").map (fun d => d.parameters.length) = some 2 := by decide +kernel
theorem jd_24 : (parseMethodDescriptor "(J)I").map (fun d => d.parameters.length) = some 1 := by decide +kernel
theorem jd_25 : (parseMethodDescriptor "(J)Z").map (fun d => d.parameters.length) = some 1 := by decide +kernel
theorem jd_26 : (parseMethodDescriptor "(JI)I").map (fun d => d.parameters.length) = some 2 := by decide +kernel
theorem jd_27 : (parseMethodDescriptor "(JII)V").map (fun d => d.parameters.length) = some 3 := by decide +kernel
theorem jd_28 : (parseMethodDescriptor "(LWhilePress$Code;)V").map (fun d => d.parameters.length) = some 1 := by decide +kernel
theorem jd_29 : (parseMethodDescriptor "(LWhilePress$Code;)Z").map (fun d => d.parameters.length) = some 1 := by decide +kernel
theorem jd_30 : (parseMethodDescriptor "(LWhilePress$Code;I)I").map (fun d => d.parameters.length) = some 2 := by decide +kernel
theorem jd_31 : (parseMethodDescriptor "(LWhilePress$Code;I)J").map (fun d => d.parameters.length) = some 2 := by decide +kernel
theorem jd_32 : (parseMethodDescriptor "(LWhilePress$Code;I)V").map (fun d => d.parameters.length) = some 2 := by decide +kernel
theorem jd_33 : (parseMethodDescriptor "(LWhilePress$Code;I)Z").map (fun d => d.parameters.length) = some 2 := by decide +kernel
theorem jd_34 : (parseMethodDescriptor "(LWhilePress$Code;II)J").map (fun d => d.parameters.length) = some 3 := by decide +kernel
theorem jd_35 : (parseMethodDescriptor "(LWhilePress$Code;III)I").map (fun d => d.parameters.length) = some 4 := by decide +kernel
theorem jd_36 : (parseMethodDescriptor "(LWhilePress$Code;I[I)V").map (fun d => d.parameters.length) = some 3 := by decide +kernel
theorem jd_37 : (parseMethodDescriptor "(LWhilePress$Code;LWhilePress$Code;)V").map (fun d => d.parameters.length) = some 2 := by decide +kernel
theorem jd_38 : (parseMethodDescriptor "(LWhilePress$Code;[II)I").map (fun d => d.parameters.length) = some 3 := by decide +kernel
theorem jd_39 : (parseMethodDescriptor "(LWhilePress$Knowledge;)V").map (fun d => d.parameters.length) = some 1 := by decide +kernel
theorem jd_40 : (parseMethodDescriptor "(LWhilePress$Script;I)I").map (fun d => d.parameters.length) = some 2 := by decide +kernel
theorem jd_41 : (parseMethodDescriptor "(LWhilePress$Script;I)V").map (fun d => d.parameters.length) = some 2 := by decide +kernel
theorem jd_42 : (parseMethodDescriptor "(LWhilePress$Script;II)V").map (fun d => d.parameters.length) = some 3 := by decide +kernel
theorem jd_43 : (parseMethodDescriptor "(LWhilePress$Script;LWhilePress$Code;)Z").map (fun d => d.parameters.length) = some 2 := by decide +kernel
theorem jd_44 : (parseMethodDescriptor "(Z)V").map (fun d => d.parameters.length) = some 1 := by decide +kernel
theorem jd_45 : (parseMethodDescriptor "(ZII)I").map (fun d => d.parameters.length) = some 3 := by decide +kernel
theorem jd_46 : (parseMethodDescriptor "(ZII)V").map (fun d => d.parameters.length) = some 3 := by decide +kernel
theorem jd_47 : (parseMethodDescriptor "(ZII)Z").map (fun d => d.parameters.length) = some 3 := by decide +kernel
theorem jd_48 : (parseMethodDescriptor "([I)V").map (fun d => d.parameters.length) = some 1 := by decide +kernel
theorem jd_49 : (parseMethodDescriptor "([II)V").map (fun d => d.parameters.length) = some 2 := by decide +kernel
theorem jd_50 : (parseMethodDescriptor "([III)I").map (fun d => d.parameters.length) = some 3 := by decide +kernel
theorem jd_51 : (parseMethodDescriptor "([IILWhilePress$Script;)V").map (fun d => d.parameters.length) = some 3 := by decide +kernel
theorem jd_52 : (parseMethodDescriptor "([JIIJ)V").map (fun d => d.parameters.length) = some 4 := by decide +kernel
theorem jd_53 : (parseMethodDescriptor "([JJ)V").map (fun d => d.parameters.length) = some 2 := by decide +kernel
theorem jq_0 : Cond.initialized "WhilePress" ∈ jw ∧ plainName "WhilePress" = true ∧ ("WhilePress" ≠ "java/lang/invoke/MethodHandle" ∧ "WhilePress" ≠ "java/lang/invoke/VarHandle") := ⟨jw_s1 1 (by decide +kernel) rfl, by decide +kernel, by decide +kernel, by decide +kernel⟩
theorem jq_1 : Cond.initialized "WhilePress$Code" ∈ jw ∧ plainName "WhilePress$Code" = true ∧ ("WhilePress$Code" ≠ "java/lang/invoke/MethodHandle" ∧ "WhilePress$Code" ≠ "java/lang/invoke/VarHandle") := ⟨jw_s1 7 (by decide +kernel) rfl, by decide +kernel, by decide +kernel, by decide +kernel⟩
theorem jq_2 : Cond.initialized "WhilePress$Holdings" ∈ jw ∧ plainName "WhilePress$Holdings" = true ∧ ("WhilePress$Holdings" ≠ "java/lang/invoke/MethodHandle" ∧ "WhilePress$Holdings" ≠ "java/lang/invoke/VarHandle") := ⟨jw_s1 11 (by decide +kernel) rfl, by decide +kernel, by decide +kernel, by decide +kernel⟩
theorem jq_3 : Cond.initialized "WhilePress$Improver" ∈ jw ∧ plainName "WhilePress$Improver" = true ∧ ("WhilePress$Improver" ≠ "java/lang/invoke/MethodHandle" ∧ "WhilePress$Improver" ≠ "java/lang/invoke/VarHandle") := ⟨jw_s1 10 (by decide +kernel) rfl, by decide +kernel, by decide +kernel, by decide +kernel⟩
theorem jq_4 : Cond.initialized "WhilePress$Knowledge" ∈ jw ∧ plainName "WhilePress$Knowledge" = true ∧ ("WhilePress$Knowledge" ≠ "java/lang/invoke/MethodHandle" ∧ "WhilePress$Knowledge" ≠ "java/lang/invoke/VarHandle") := ⟨jw_s1 9 (by decide +kernel) rfl, by decide +kernel, by decide +kernel, by decide +kernel⟩
theorem jq_5 : Cond.initialized "WhilePress$Lives" ∈ jw ∧ plainName "WhilePress$Lives" = true ∧ ("WhilePress$Lives" ≠ "java/lang/invoke/MethodHandle" ∧ "WhilePress$Lives" ≠ "java/lang/invoke/VarHandle") := ⟨jw_s1 8 (by decide +kernel) rfl, by decide +kernel, by decide +kernel, by decide +kernel⟩
theorem jq_6 : Cond.initialized "WhilePress$Maker" ∈ jw ∧ plainName "WhilePress$Maker" = true ∧ ("WhilePress$Maker" ≠ "java/lang/invoke/MethodHandle" ∧ "WhilePress$Maker" ≠ "java/lang/invoke/VarHandle") := ⟨jw_s1 6 (by decide +kernel) rfl, by decide +kernel, by decide +kernel, by decide +kernel⟩
theorem jq_7 : Cond.initialized "WhilePress$Names" ∈ jw ∧ plainName "WhilePress$Names" = true ∧ ("WhilePress$Names" ≠ "java/lang/invoke/MethodHandle" ∧ "WhilePress$Names" ≠ "java/lang/invoke/VarHandle") := ⟨jw_s1 4 (by decide +kernel) rfl, by decide +kernel, by decide +kernel, by decide +kernel⟩
theorem jq_8 : Cond.initialized "WhilePress$Reader" ∈ jw ∧ plainName "WhilePress$Reader" = true ∧ ("WhilePress$Reader" ≠ "java/lang/invoke/MethodHandle" ∧ "WhilePress$Reader" ≠ "java/lang/invoke/VarHandle") := ⟨jw_s1 2 (by decide +kernel) rfl, by decide +kernel, by decide +kernel, by decide +kernel⟩
theorem jq_9 : Cond.initialized "WhilePress$Runner" ∈ jw ∧ plainName "WhilePress$Runner" = true ∧ ("WhilePress$Runner" ≠ "java/lang/invoke/MethodHandle" ∧ "WhilePress$Runner" ≠ "java/lang/invoke/VarHandle") := ⟨jw_s1 12 (by decide +kernel) rfl, by decide +kernel, by decide +kernel, by decide +kernel⟩
theorem jq_10 : Cond.initialized "WhilePress$Script" ∈ jw ∧ plainName "WhilePress$Script" = true ∧ ("WhilePress$Script" ≠ "java/lang/invoke/MethodHandle" ∧ "WhilePress$Script" ≠ "java/lang/invoke/VarHandle") := ⟨jw_s1 5 (by decide +kernel) rfl, by decide +kernel, by decide +kernel, by decide +kernel⟩
theorem jq_11 : Cond.initialized "WhilePress$Words" ∈ jw ∧ plainName "WhilePress$Words" = true ∧ ("WhilePress$Words" ≠ "java/lang/invoke/MethodHandle" ∧ "WhilePress$Words" ≠ "java/lang/invoke/VarHandle") := ⟨jw_s1 3 (by decide +kernel) rfl, by decide +kernel, by decide +kernel, by decide +kernel⟩
theorem jq_12 : Cond.initialized "WhilePressModel" ∈ jw ∧ plainName "WhilePressModel" = true ∧ ("WhilePressModel" ≠ "java/lang/invoke/MethodHandle" ∧ "WhilePressModel" ≠ "java/lang/invoke/VarHandle") := ⟨jw_s1 13 (by decide +kernel) rfl, by decide +kernel, by decide +kernel, by decide +kernel⟩
theorem jq_13 : Cond.initialized "WhilePressLaw" ∈ jw ∧ plainName "WhilePressLaw" = true ∧ ("WhilePressLaw" ≠ "java/lang/invoke/MethodHandle" ∧ "WhilePressLaw" ≠ "java/lang/invoke/VarHandle") := ⟨jw_s1 0 (by decide +kernel) rfl, by decide +kernel, by decide +kernel, by decide +kernel⟩
theorem jq_14 : Cond.initialized "java/util/Arrays" ∈ jw ∧ plainName "java/util/Arrays" = true ∧ ("java/util/Arrays" ≠ "java/lang/invoke/MethodHandle" ∧ "java/util/Arrays" ≠ "java/lang/invoke/VarHandle") := ⟨jw_s1 21 (by decide +kernel) rfl, by decide +kernel, by decide +kernel, by decide +kernel⟩
theorem jq_16 : Cond.initialized "java/lang/Long" ∈ jw ∧ plainName "java/lang/Long" = true ∧ ("java/lang/Long" ≠ "java/lang/invoke/MethodHandle" ∧ "java/lang/Long" ≠ "java/lang/invoke/VarHandle") := ⟨jw_s1 32 (by decide +kernel) rfl, by decide +kernel, by decide +kernel, by decide +kernel⟩
theorem jq_17 : Cond.initialized "java/lang/Integer" ∈ jw ∧ plainName "java/lang/Integer" = true ∧ ("java/lang/Integer" ≠ "java/lang/invoke/MethodHandle" ∧ "java/lang/Integer" ≠ "java/lang/invoke/VarHandle") := ⟨jw_s1 29 (by decide +kernel) rfl, by decide +kernel, by decide +kernel, by decide +kernel⟩
def mP_init : jm_M := (⟨"WhilePress", "<init>", "()V"⟩, prog_1_method_1_code, 1, none, 0, 0, 1)
theorem mP_init_ok : jm_mok mP_init := ⟨jw_s1 37 rfl rfl, jq_0.1, jq_0.2.1, jq_0.2.2, jd_1, Nat.le_of_ble_eq_true rfl, fun _ => rfl, rfl⟩
def mRe_init : jm_M := (⟨"WhilePress$Reader", "<init>", "()V"⟩, prog_9_method_1_code, 1, none, 8, 0, 1)
theorem mRe_init_ok : jm_mok mRe_init := ⟨jw_s1 45 rfl rfl, jq_8.1, jq_8.2.1, jq_8.2.2, jd_1, Nat.le_of_ble_eq_true rfl, fun _ => rfl, rfl⟩
def mWo_init : jm_M := (⟨"WhilePress$Words", "<init>", "()V"⟩, prog_12_method_1_code, 1, none, 11, 0, 1)
theorem mWo_init_ok : jm_mok mWo_init := ⟨jw_s1 51 rfl rfl, jq_11.1, jq_11.2.1, jq_11.2.2, jd_1, Nat.le_of_ble_eq_true rfl, fun _ => rfl, rfl⟩
def mNa_init : jm_M := (⟨"WhilePress$Names", "<init>", "()V"⟩, prog_8_method_1_code, 1, none, 7, 0, 1)
theorem mNa_init_ok : jm_mok mNa_init := ⟨jw_s1 82 rfl rfl, jq_7.1, jq_7.2.1, jq_7.2.2, jd_1, Nat.le_of_ble_eq_true rfl, fun _ => rfl, rfl⟩
def mSc_init : jm_M := (⟨"WhilePress$Script", "<init>", "()V"⟩, prog_11_method_1_code, 1, none, 10, 0, 1)
theorem mSc_init_ok : jm_mok mSc_init := ⟨jw_s1 169 rfl rfl, jq_10.1, jq_10.2.1, jq_10.2.2, jd_1, Nat.le_of_ble_eq_true rfl, fun _ => rfl, rfl⟩
def mMa_init : jm_M := (⟨"WhilePress$Maker", "<init>", "()V"⟩, prog_7_method_1_code, 1, none, 6, 0, 1)
theorem mMa_init_ok : jm_mok mMa_init := ⟨jw_s2 12 rfl rfl, jq_6.1, jq_6.2.1, jq_6.2.2, jd_1, Nat.le_of_ble_eq_true rfl, fun _ => rfl, rfl⟩
def mCo_init : jm_M := (⟨"WhilePress$Code", "<init>", "()V"⟩, prog_2_method_1_code, 1, none, 1, 0, 1)
theorem mCo_init_ok : jm_mok mCo_init := ⟨jw_s2 58 rfl rfl, jq_1.1, jq_1.2.1, jq_1.2.2, jd_1, Nat.le_of_ble_eq_true rfl, fun _ => rfl, rfl⟩
def mLi_init : jm_M := (⟨"WhilePress$Lives", "<init>", "()V"⟩, prog_6_method_1_code, 1, none, 5, 0, 1)
theorem mLi_init_ok : jm_mok mLi_init := ⟨jw_s2 154 rfl rfl, jq_5.1, jq_5.2.1, jq_5.2.2, jd_1, Nat.le_of_ble_eq_true rfl, fun _ => rfl, rfl⟩
def mKn_init : jm_M := (⟨"WhilePress$Knowledge", "<init>", "()V"⟩, prog_5_method_1_code, 1, none, 4, 0, 1)
theorem mKn_init_ok : jm_mok mKn_init := ⟨jw_s2 184 rfl rfl, jq_4.1, jq_4.2.1, jq_4.2.2, jd_1, Nat.le_of_ble_eq_true rfl, fun _ => rfl, rfl⟩
def mIm_init : jm_M := (⟨"WhilePress$Improver", "<init>", "(LWhilePress$Knowledge;)V"⟩, prog_4_method_1_code, 2, none, 3, 1, 1)
theorem mIm_init_ok : jm_mok mIm_init := ⟨jw_s2 211 rfl rfl, jq_3.1, jq_3.2.1, jq_3.2.2, jd_39, Nat.le_of_ble_eq_true rfl, fun _ => rfl, rfl⟩
def mHo_init : jm_M := (⟨"WhilePress$Holdings", "<init>", "()V"⟩, prog_3_method_1_code, 1, none, 2, 0, 1)
theorem mHo_init_ok : jm_mok mHo_init := ⟨jw_s2 217 rfl rfl, jq_2.1, jq_2.2.1, jq_2.2.2, jd_1, Nat.le_of_ble_eq_true rfl, fun _ => rfl, rfl⟩
def mRu_init : jm_M := (⟨"WhilePress$Runner", "<init>", "()V"⟩, prog_10_method_1_code, 2, none, 9, 0, 1)
theorem mRu_init_ok : jm_mok mRu_init := ⟨jw_s3 31 rfl rfl, jq_9.1, jq_9.2.1, jq_9.2.2, jd_1, Nat.le_of_ble_eq_true rfl, fun _ => rfl, rfl⟩
def mP_read : jm_M := (⟨"WhilePress", "read", "()I"⟩, prog_1_method_3_code, 3, (some .int), 0, 0, 0)
theorem mP_read_ok : jm_mok mP_read := ⟨jw_s3 147 rfl rfl, jq_0.1, jq_0.2.1, jq_0.2.2, jd_0, Nat.le_of_ble_eq_true rfl, (fun h => by cases h), rfl⟩
def mRe_begin : jm_M := (⟨"WhilePress$Reader", "begin", "([IILWhilePress$Script;)V"⟩, prog_9_method_2_code, 4, none, 8, 3, 0)
theorem mRe_begin_ok : jm_mok mRe_begin := ⟨jw_s3 151 rfl rfl, jq_8.1, jq_8.2.1, jq_8.2.2, jd_51, Nat.le_of_ble_eq_true rfl, (fun h => by cases h), rfl⟩
def mWo_split : jm_M := (⟨"WhilePress$Words", "split", "([II)V"⟩, prog_12_method_2_code, 6, none, 11, 2, 0)
theorem mWo_split_ok : jm_mok mWo_split := ⟨jw_s3 155 rfl rfl, jq_11.1, jq_11.2.1, jq_11.2.2, jd_49, Nat.le_of_ble_eq_true rfl, (fun h => by cases h), rfl⟩
def mWo_isLetter : jm_M := (⟨"WhilePress$Words", "isLetter", "(I)Z"⟩, prog_12_method_3_code, 1, (some .boolean), 11, 1, 0)
theorem mWo_isLetter_ok : jm_mok mWo_isLetter := ⟨jw_s3 158 rfl rfl, jq_11.1, jq_11.2.1, jq_11.2.2, jd_5, Nat.le_of_ble_eq_true rfl, (fun h => by cases h), rfl⟩
def mWo_takeName : jm_M := (⟨"WhilePress$Words", "takeName", "(I)I"⟩, prog_12_method_7_code, 7, (some .int), 11, 1, 0)
theorem mWo_takeName_ok : jm_mok mWo_takeName := ⟨jw_s3 162 rfl rfl, jq_11.1, jq_11.2.1, jq_11.2.2, jd_3, Nat.le_of_ble_eq_true rfl, (fun h => by cases h), rfl⟩
def mWo_isFigure : jm_M := (⟨"WhilePress$Words", "isFigure", "(I)Z"⟩, prog_12_method_4_code, 1, (some .boolean), 11, 1, 0)
theorem mWo_isFigure_ok : jm_mok mWo_isFigure := ⟨jw_s3 165 rfl rfl, jq_11.1, jq_11.2.1, jq_11.2.2, jd_5, Nat.le_of_ble_eq_true rfl, (fun h => by cases h), rfl⟩
def mWo_stopAt : jm_M := (⟨"WhilePress$Words", "stopAt", "(I)I"⟩, prog_12_method_6_code, 2, (some .int), 11, 1, 0)
theorem mWo_stopAt_ok : jm_mok mWo_stopAt := ⟨jw_s3 169 rfl rfl, jq_11.1, jq_11.2.1, jq_11.2.2, jd_3, Nat.le_of_ble_eq_true rfl, (fun h => by cases h), rfl⟩
def mWo_add : jm_M := (⟨"WhilePress$Words", "add", "(IIJ)V"⟩, prog_12_method_5_code, 5, none, 11, 3, 0)
theorem mWo_add_ok : jm_mok mWo_add := ⟨jw_s3 173 rfl rfl, jq_11.1, jq_11.2.1, jq_11.2.2, jd_18, Nat.le_of_ble_eq_true rfl, (fun h => by cases h), rfl⟩
def mWo_takeNumber : jm_M := (⟨"WhilePress$Words", "takeNumber", "(I)I"⟩, prog_12_method_8_code, 5, (some .int), 11, 1, 0)
theorem mWo_takeNumber_ok : jm_mok mWo_takeNumber := ⟨jw_s3 179 rfl rfl, jq_11.1, jq_11.2.1, jq_11.2.2, jd_3, Nat.le_of_ble_eq_true rfl, (fun h => by cases h), rfl⟩
def mWo_takeSign : jm_M := (⟨"WhilePress$Words", "takeSign", "(I)I"⟩, prog_12_method_9_code, 4, (some .int), 11, 1, 0)
theorem mWo_takeSign_ok : jm_mok mWo_takeSign := ⟨jw_s3 185 rfl rfl, jq_11.1, jq_11.2.1, jq_11.2.2, jd_3, Nat.le_of_ble_eq_true rfl, (fun h => by cases h), rfl⟩
def mWo_longSign : jm_M := (⟨"WhilePress$Words", "longSign", "(II)I"⟩, prog_12_method_10_code, 2, (some .int), 11, 2, 0)
theorem mWo_longSign_ok : jm_mok mWo_longSign := ⟨jw_s3 188 rfl rfl, jq_11.1, jq_11.2.1, jq_11.2.2, jd_6, Nat.le_of_ble_eq_true rfl, (fun h => by cases h), rfl⟩
def mWo_shortSign : jm_M := (⟨"WhilePress$Words", "shortSign", "(I)I"⟩, prog_12_method_11_code, 1, (some .int), 11, 1, 0)
theorem mWo_shortSign_ok : jm_mok mWo_shortSign := ⟨jw_s3 191 rfl rfl, jq_11.1, jq_11.2.1, jq_11.2.2, jd_3, Nat.le_of_ble_eq_true rfl, (fun h => by cases h), rfl⟩
def mNa_forget : jm_M := (⟨"WhilePress$Names", "forget", "()V"⟩, prog_8_method_2_code, 1, none, 7, 0, 0)
theorem mNa_forget_ok : jm_mok mNa_forget := ⟨jw_s3 195 rfl rfl, jq_7.1, jq_7.2.1, jq_7.2.2, jd_1, Nat.le_of_ble_eq_true rfl, (fun h => by cases h), rfl⟩
def mSc_forget : jm_M := (⟨"WhilePress$Script", "forget", "()V"⟩, prog_11_method_2_code, 1, none, 10, 0, 0)
theorem mSc_forget_ok : jm_mok mSc_forget := ⟨jw_s3 199 rfl rfl, jq_10.1, jq_10.2.1, jq_10.2.2, jd_1, Nat.le_of_ble_eq_true rfl, (fun h => by cases h), rfl⟩
def mRe_isAtDecl : jm_M := (⟨"WhilePress$Reader", "isAtDecl", "()Z"⟩, prog_9_method_7_code, 2, (some .boolean), 8, 0, 0)
theorem mRe_isAtDecl_ok : jm_mok mRe_isAtDecl := ⟨jw_s3 203 rfl rfl, jq_8.1, jq_8.2.1, jq_8.2.2, jd_2, Nat.le_of_ble_eq_true rfl, (fun h => by cases h), rfl⟩
def mRe_kind : jm_M := (⟨"WhilePress$Reader", "kind", "()I"⟩, prog_9_method_4_code, 1, (some .int), 8, 0, 0)
theorem mRe_kind_ok : jm_mok mRe_kind := ⟨jw_s3 207 rfl rfl, jq_8.1, jq_8.2.1, jq_8.2.2, jd_0, Nat.le_of_ble_eq_true rfl, (fun h => by cases h), rfl⟩
def mRe_define : jm_M := (⟨"WhilePress$Reader", "define", "()V"⟩, prog_9_method_16_code, 4, none, 8, 0, 0)
theorem mRe_define_ok : jm_mok mRe_define := ⟨jw_s3 212 rfl rfl, jq_8.1, jq_8.2.1, jq_8.2.2, jd_1, Nat.le_of_ble_eq_true rfl, (fun h => by cases h), rfl⟩
def mRe_go : jm_M := (⟨"WhilePress$Reader", "go", "()V"⟩, prog_9_method_6_code, 1, none, 8, 0, 0)
theorem mRe_go_ok : jm_mok mRe_go := ⟨jw_s3 216 rfl rfl, jq_8.1, jq_8.2.1, jq_8.2.2, jd_1, Nat.le_of_ble_eq_true rfl, (fun h => by cases h), rfl⟩
def mRe_misfit : jm_M := (⟨"WhilePress$Reader", "misfit", "()V"⟩, prog_9_method_9_code, 1, none, 8, 0, 0)
theorem mRe_misfit_ok : jm_mok mRe_misfit := ⟨jw_s3 220 rfl rfl, jq_8.1, jq_8.2.1, jq_8.2.2, jd_1, Nat.le_of_ble_eq_true rfl, (fun h => by cases h), rfl⟩
def mNa_isInBlock : jm_M := (⟨"WhilePress$Names", "isInBlock", "(J)Z"⟩, prog_8_method_4_code, 4, (some .boolean), 7, 1, 0)
theorem mNa_isInBlock_ok : jm_mok mNa_isInBlock := ⟨jw_s3 224 rfl rfl, jq_7.1, jq_7.2.1, jq_7.2.2, jd_25, Nat.le_of_ble_eq_true rfl, (fun h => by cases h), rfl⟩
def mRe_soften : jm_M := (⟨"WhilePress$Reader", "soften", "(II)V"⟩, prog_9_method_12_code, 4, none, 8, 2, 0)
theorem mRe_soften_ok : jm_mok mRe_soften := ⟨jw_s3 228 rfl rfl, jq_8.1, jq_8.2.1, jq_8.2.2, jd_8, Nat.le_of_ble_eq_true rfl, (fun h => by cases h), rfl⟩
def mRe_tellList : jm_M := (⟨"WhilePress$Reader", "tellList", "(I)V"⟩, prog_9_method_17_code, 4, none, 8, 1, 0)
theorem mRe_tellList_ok : jm_mok mRe_tellList := ⟨jw_s3 232 rfl rfl, jq_8.1, jq_8.2.1, jq_8.2.2, jd_4, Nat.le_of_ble_eq_true rfl, (fun h => by cases h), rfl⟩
def mRe_openRound : jm_M := (⟨"WhilePress$Reader", "openRound", "()V"⟩, prog_9_method_22_code, 1, none, 8, 0, 0)
theorem mRe_openRound_ok : jm_mok mRe_openRound := ⟨jw_s3 236 rfl rfl, jq_8.1, jq_8.2.1, jq_8.2.2, jd_1, Nat.le_of_ble_eq_true rfl, (fun h => by cases h), rfl⟩
def mRe_openOne : jm_M := (⟨"WhilePress$Reader", "openOne", "()V"⟩, prog_9_method_11_code, 1, none, 8, 0, 0)
theorem mRe_openOne_ok : jm_mok mRe_openOne := ⟨jw_s4 0 rfl rfl, jq_8.1, jq_8.2.1, jq_8.2.2, jd_1, Nat.le_of_ble_eq_true rfl, (fun h => by cases h), rfl⟩
def mRe_expect : jm_M := (⟨"WhilePress$Reader", "expect", "(I)V"⟩, prog_9_method_10_code, 2, none, 8, 1, 0)
theorem mRe_expect_ok : jm_mok mRe_expect := ⟨jw_s4 4 rfl rfl, jq_8.1, jq_8.2.1, jq_8.2.2, jd_4, Nat.le_of_ble_eq_true rfl, (fun h => by cases h), rfl⟩
def mSc_takeLocal : jm_M := (⟨"WhilePress$Script", "takeLocal", "()I"⟩, prog_11_method_7_code, 1, (some .int), 10, 0, 0)
theorem mSc_takeLocal_ok : jm_mok mSc_takeLocal := ⟨jw_s4 8 rfl rfl, jq_10.1, jq_10.2.1, jq_10.2.2, jd_0, Nat.le_of_ble_eq_true rfl, (fun h => by cases h), rfl⟩
def mRe_tellName : jm_M := (⟨"WhilePress$Reader", "tellName", "(II)V"⟩, prog_9_method_13_code, 5, none, 8, 2, 0)
theorem mRe_tellName_ok : jm_mok mRe_tellName := ⟨jw_s4 12 rfl rfl, jq_8.1, jq_8.2.1, jq_8.2.2, jd_8, Nat.le_of_ble_eq_true rfl, (fun h => by cases h), rfl⟩
def mNa_tell : jm_M := (⟨"WhilePress$Names", "tell", "(JII)V"⟩, prog_8_method_5_code, 5, none, 7, 3, 0)
theorem mNa_tell_ok : jm_mok mNa_tell := ⟨jw_s4 16 rfl rfl, jq_7.1, jq_7.2.1, jq_7.2.2, jd_27, Nat.le_of_ble_eq_true rfl, (fun h => by cases h), rfl⟩
def mRe_closeRound : jm_M := (⟨"WhilePress$Reader", "closeRound", "()V"⟩, prog_9_method_23_code, 1, none, 8, 0, 0)
theorem mRe_closeRound_ok : jm_mok mRe_closeRound := ⟨jw_s4 20 rfl rfl, jq_8.1, jq_8.2.1, jq_8.2.2, jd_1, Nat.le_of_ble_eq_true rfl, (fun h => by cases h), rfl⟩
def mRe_takeItems : jm_M := (⟨"WhilePress$Reader", "takeItems", "()V"⟩, prog_9_method_21_code, 2, none, 8, 0, 0)
theorem mRe_takeItems_ok : jm_mok mRe_takeItems := ⟨jw_s4 24 rfl rfl, jq_8.1, jq_8.2.1, jq_8.2.2, jd_1, Nat.le_of_ble_eq_true rfl, (fun h => by cases h), rfl⟩
def mRe_statement : jm_M := (⟨"WhilePress$Reader", "statement", "(Z)V"⟩, prog_9_method_19_code, 2, none, 8, 1, 0)
theorem mRe_statement_ok : jm_mok mRe_statement := ⟨jw_s4 28 rfl rfl, jq_8.1, jq_8.2.1, jq_8.2.2, jd_44, Nat.le_of_ble_eq_true rfl, (fun h => by cases h), rfl⟩
def mRe_takeBlock : jm_M := (⟨"WhilePress$Reader", "takeBlock", "()V"⟩, prog_9_method_20_code, 3, none, 8, 0, 0)
theorem mRe_takeBlock_ok : jm_mok mRe_takeBlock := ⟨jw_s4 32 rfl rfl, jq_8.1, jq_8.2.1, jq_8.2.2, jd_1, Nat.le_of_ble_eq_true rfl, (fun h => by cases h), rfl⟩
def mRe_tellInts : jm_M := (⟨"WhilePress$Reader", "tellInts", "(Z)V"⟩, prog_9_method_14_code, 5, none, 8, 1, 0)
theorem mRe_tellInts_ok : jm_mok mRe_tellInts := ⟨jw_s4 36 rfl rfl, jq_8.1, jq_8.2.1, jq_8.2.2, jd_44, Nat.le_of_ble_eq_true rfl, (fun h => by cases h), rfl⟩
def mSc_takeGlobal : jm_M := (⟨"WhilePress$Script", "takeGlobal", "()I"⟩, prog_11_method_6_code, 1, (some .int), 10, 0, 0)
theorem mSc_takeGlobal_ok : jm_mok mSc_takeGlobal := ⟨jw_s4 40 rfl rfl, jq_10.1, jq_10.2.1, jq_10.2.2, jd_0, Nat.le_of_ble_eq_true rfl, (fun h => by cases h), rfl⟩
def mSc_add : jm_M := (⟨"WhilePress$Script", "add", "(II)I"⟩, prog_11_method_3_code, 3, (some .int), 10, 2, 0)
theorem mSc_add_ok : jm_mok mSc_add := ⟨jw_s4 44 rfl rfl, jq_10.1, jq_10.2.1, jq_10.2.2, jd_6, Nat.le_of_ble_eq_true rfl, (fun h => by cases h), rfl⟩
def mRe_takeIf : jm_M := (⟨"WhilePress$Reader", "takeIf", "()V"⟩, prog_9_method_24_code, 3, none, 8, 0, 0)
theorem mRe_takeIf_ok : jm_mok mRe_takeIf := ⟨jw_s4 48 rfl rfl, jq_8.1, jq_8.2.1, jq_8.2.2, jd_1, Nat.le_of_ble_eq_true rfl, (fun h => by cases h), rfl⟩
def mRe_takeExpr : jm_M := (⟨"WhilePress$Reader", "takeExpr", "(Z)V"⟩, prog_9_method_32_code, 7, none, 8, 1, 0)
theorem mRe_takeExpr_ok : jm_mok mRe_takeExpr := ⟨jw_s4 52 rfl rfl, jq_8.1, jq_8.2.1, jq_8.2.2, jd_44, Nat.le_of_ble_eq_true rfl, (fun h => by cases h), rfl⟩
def mRe_pend : jm_M := (⟨"WhilePress$Reader", "pend", "(III)V"⟩, prog_9_method_34_code, 4, none, 8, 3, 0)
theorem mRe_pend_ok : jm_mok mRe_pend := ⟨jw_s4 56 rfl rfl, jq_8.1, jq_8.2.1, jq_8.2.2, jd_11, Nat.le_of_ble_eq_true rfl, (fun h => by cases h), rfl⟩
def mRe_takeOperand : jm_M := (⟨"WhilePress$Reader", "takeOperand", "()Z"⟩, prog_9_method_35_code, 7, (some .boolean), 8, 0, 0)
theorem mRe_takeOperand_ok : jm_mok mRe_takeOperand := ⟨jw_s4 60 rfl rfl, jq_8.1, jq_8.2.1, jq_8.2.2, jd_2, Nat.le_of_ble_eq_true rfl, (fun h => by cases h), rfl⟩
def mRe_nextKind : jm_M := (⟨"WhilePress$Reader", "nextKind", "()I"⟩, prog_9_method_5_code, 1, (some .int), 8, 0, 0)
theorem mRe_nextKind_ok : jm_mok mRe_nextKind := ⟨jw_s4 64 rfl rfl, jq_8.1, jq_8.2.1, jq_8.2.2, jd_0, Nat.le_of_ble_eq_true rfl, (fun h => by cases h), rfl⟩
def mNa_find : jm_M := (⟨"WhilePress$Names", "find", "(JI)I"⟩, prog_8_method_3_code, 5, (some .int), 7, 2, 0)
theorem mNa_find_ok : jm_mok mNa_find := ⟨jw_s4 68 rfl rfl, jq_7.1, jq_7.2.1, jq_7.2.2, jd_26, Nat.le_of_ble_eq_true rfl, (fun h => by cases h), rfl⟩
def mRe_isBinary : jm_M := (⟨"WhilePress$Reader", "isBinary", "(I)Z"⟩, prog_9_method_33_code, 1, (some .boolean), 8, 1, 0)
theorem mRe_isBinary_ok : jm_mok mRe_isBinary := ⟨jw_s4 74 rfl rfl, jq_8.1, jq_8.2.1, jq_8.2.2, jd_5, Nat.le_of_ble_eq_true rfl, (fun h => by cases h), rfl⟩
def mRe_settle : jm_M := (⟨"WhilePress$Reader", "settle", "(I)V"⟩, prog_9_method_36_code, 4, none, 8, 1, 0)
theorem mRe_settle_ok : jm_mok mRe_settle := ⟨jw_s4 80 rfl rfl, jq_8.1, jq_8.2.1, jq_8.2.2, jd_4, Nat.le_of_ble_eq_true rfl, (fun h => by cases h), rfl⟩
def mRe_takeBinary : jm_M := (⟨"WhilePress$Reader", "takeBinary", "(I)V"⟩, prog_9_method_37_code, 3, none, 8, 1, 0)
theorem mRe_takeBinary_ok : jm_mok mRe_takeBinary := ⟨jw_s4 84 rfl rfl, jq_8.1, jq_8.2.1, jq_8.2.2, jd_4, Nat.le_of_ble_eq_true rfl, (fun h => by cases h), rfl⟩
def mSc_wrap : jm_M := (⟨"WhilePress$Script", "wrap", "(II)V"⟩, prog_11_method_4_code, 3, none, 10, 2, 0)
theorem mSc_wrap_ok : jm_mok mSc_wrap := ⟨jw_s4 88 rfl rfl, jq_10.1, jq_10.2.1, jq_10.2.2, jd_8, Nat.le_of_ble_eq_true rfl, (fun h => by cases h), rfl⟩
def mRe_takeClosing : jm_M := (⟨"WhilePress$Reader", "takeClosing", "(I)Z"⟩, prog_9_method_38_code, 5, (some .boolean), 8, 1, 0)
theorem mRe_takeClosing_ok : jm_mok mRe_takeClosing := ⟨jw_s4 92 rfl rfl, jq_8.1, jq_8.2.1, jq_8.2.2, jd_5, Nat.le_of_ble_eq_true rfl, (fun h => by cases h), rfl⟩
def mRe_takeWhile : jm_M := (⟨"WhilePress$Reader", "takeWhile", "()V"⟩, prog_9_method_25_code, 6, none, 8, 0, 0)
theorem mRe_takeWhile_ok : jm_mok mRe_takeWhile := ⟨jw_s4 96 rfl rfl, jq_8.1, jq_8.2.1, jq_8.2.2, jd_1, Nat.le_of_ble_eq_true rfl, (fun h => by cases h), rfl⟩
def mSc_aim : jm_M := (⟨"WhilePress$Script", "aim", "(II)V"⟩, prog_11_method_5_code, 6, none, 10, 2, 0)
theorem mSc_aim_ok : jm_mok mSc_aim := ⟨jw_s4 100 rfl rfl, jq_10.1, jq_10.2.1, jq_10.2.2, jd_8, Nat.le_of_ble_eq_true rfl, (fun h => by cases h), rfl⟩
def mRe_takeDo : jm_M := (⟨"WhilePress$Reader", "takeDo", "()V"⟩, prog_9_method_26_code, 6, none, 8, 0, 0)
theorem mRe_takeDo_ok : jm_mok mRe_takeDo := ⟨jw_s4 104 rfl rfl, jq_8.1, jq_8.2.1, jq_8.2.2, jd_1, Nat.le_of_ble_eq_true rfl, (fun h => by cases h), rfl⟩
def mRe_takeNamed : jm_M := (⟨"WhilePress$Reader", "takeNamed", "(I)V"⟩, prog_9_method_31_code, 3, none, 8, 1, 0)
theorem mRe_takeNamed_ok : jm_mok mRe_takeNamed := ⟨jw_s4 108 rfl rfl, jq_8.1, jq_8.2.1, jq_8.2.2, jd_4, Nat.le_of_ble_eq_true rfl, (fun h => by cases h), rfl⟩
def mRe_wanted : jm_M := (⟨"WhilePress$Reader", "wanted", "(II)I"⟩, prog_9_method_30_code, 4, (some .int), 8, 2, 0)
theorem mRe_wanted_ok : jm_mok mRe_wanted := ⟨jw_s4 112 rfl rfl, jq_8.1, jq_8.2.1, jq_8.2.2, jd_6, Nat.le_of_ble_eq_true rfl, (fun h => by cases h), rfl⟩
def mRe_takeSimple : jm_M := (⟨"WhilePress$Reader", "takeSimple", "()V"⟩, prog_9_method_27_code, 1, none, 8, 0, 0)
theorem mRe_takeSimple_ok : jm_mok mRe_takeSimple := ⟨jw_s4 116 rfl rfl, jq_8.1, jq_8.2.1, jq_8.2.2, jd_1, Nat.le_of_ble_eq_true rfl, (fun h => by cases h), rfl⟩
def mRe_takeLeave : jm_M := (⟨"WhilePress$Reader", "takeLeave", "(I)I"⟩, prog_9_method_28_code, 2, (some .int), 8, 1, 0)
theorem mRe_takeLeave_ok : jm_mok mRe_takeLeave := ⟨jw_s4 120 rfl rfl, jq_8.1, jq_8.2.1, jq_8.2.2, jd_3, Nat.le_of_ble_eq_true rfl, (fun h => by cases h), rfl⟩
def mRe_takeRead : jm_M := (⟨"WhilePress$Reader", "takeRead", "()V"⟩, prog_9_method_29_code, 2, none, 8, 0, 0)
theorem mRe_takeRead_ok : jm_mok mRe_takeRead := ⟨jw_s4 124 rfl rfl, jq_8.1, jq_8.2.1, jq_8.2.2, jd_1, Nat.le_of_ble_eq_true rfl, (fun h => by cases h), rfl⟩
def mRe_tellRow : jm_M := (⟨"WhilePress$Reader", "tellRow", "()V"⟩, prog_9_method_15_code, 3, none, 8, 0, 0)
theorem mRe_tellRow_ok : jm_mok mRe_tellRow := ⟨jw_s4 128 rfl rfl, jq_8.1, jq_8.2.1, jq_8.2.2, jd_1, Nat.le_of_ble_eq_true rfl, (fun h => by cases h), rfl⟩
def mRe_beginStatements : jm_M := (⟨"WhilePress$Reader", "beginStatements", "()V"⟩, prog_9_method_18_code, 1, none, 8, 0, 0)
theorem mRe_beginStatements_ok : jm_mok mRe_beginStatements := ⟨jw_s4 137 rfl rfl, jq_8.1, jq_8.2.1, jq_8.2.2, jd_1, Nat.le_of_ble_eq_true rfl, (fun h => by cases h), rfl⟩
def mRe_hasMore : jm_M := (⟨"WhilePress$Reader", "hasMore", "()Z"⟩, prog_9_method_8_code, 1, (some .boolean), 8, 0, 0)
theorem mRe_hasMore_ok : jm_mok mRe_hasMore := ⟨jw_s4 141 rfl rfl, jq_8.1, jq_8.2.1, jq_8.2.2, jd_2, Nat.le_of_ble_eq_true rfl, (fun h => by cases h), rfl⟩
def mRe_finish : jm_M := (⟨"WhilePress$Reader", "finish", "()I"⟩, prog_9_method_3_code, 1, (some .int), 8, 0, 0)
theorem mRe_finish_ok : jm_mok mRe_finish := ⟨jw_s4 146 rfl rfl, jq_8.1, jq_8.2.1, jq_8.2.2, jd_0, Nat.le_of_ble_eq_true rfl, (fun h => by cases h), rfl⟩
def mP_place : jm_M := (⟨"WhilePress", "place", "()I"⟩, prog_1_method_4_code, 1, (some .int), 0, 0, 0)
theorem mP_place_ok : jm_mok mP_place := ⟨jw_s4 150 rfl rfl, jq_0.1, jq_0.2.1, jq_0.2.2, jd_0, Nat.le_of_ble_eq_true rfl, (fun h => by cases h), rfl⟩
def mP_clear : jm_M := (⟨"WhilePress", "clear", "()I"⟩, prog_1_method_14_code, 2, (some .int), 0, 0, 0)
theorem mP_clear_ok : jm_mok mP_clear := ⟨jw_s4 154 rfl rfl, jq_0.1, jq_0.2.1, jq_0.2.2, jd_0, Nat.le_of_ble_eq_true rfl, (fun h => by cases h), rfl⟩
def mP_feed : jm_M := (⟨"WhilePress", "feed", "(JI)I"⟩, prog_1_method_2_code, 6, (some .int), 0, 2, 0)
theorem mP_feed_ok : jm_mok mP_feed := ⟨jw_s4 163 rfl rfl, jq_0.1, jq_0.2.1, jq_0.2.2, jd_26, Nat.le_of_ble_eq_true rfl, (fun h => by cases h), rfl⟩
def mP_lower : jm_M := (⟨"WhilePress", "lower", "()I"⟩, prog_1_method_5_code, 1, (some .int), 0, 0, 0)
theorem mP_lower_ok : jm_mok mP_lower := ⟨jw_s5 16 rfl rfl, jq_0.1, jq_0.2.1, jq_0.2.2, jd_0, Nat.le_of_ble_eq_true rfl, (fun h => by cases h), rfl⟩
def mMa_make : jm_M := (⟨"WhilePress$Maker", "make", "(LWhilePress$Script;LWhilePress$Code;)Z"⟩, prog_7_method_2_code, 6, (some .boolean), 6, 2, 0)
theorem mMa_make_ok : jm_mok mMa_make := ⟨jw_s5 21 rfl rfl, jq_6.1, jq_6.2.1, jq_6.2.2, jd_43, Nat.le_of_ble_eq_true rfl, (fun h => by cases h), rfl⟩
def mCo_begin : jm_M := (⟨"WhilePress$Code", "begin", "([I)V"⟩, prog_2_method_2_code, 2, none, 1, 1, 0)
theorem mCo_begin_ok : jm_mok mCo_begin := ⟨jw_s5 25 rfl rfl, jq_1.1, jq_1.2.1, jq_1.2.2, jd_48, Nat.le_of_ble_eq_true rfl, (fun h => by cases h), rfl⟩
def mArr_fill : jm_M := (⟨"java/util/Arrays", "fill", "([II)V"⟩, prog_32_method_103_code, 4, none, 14, 2, 0)
theorem mArr_fill_ok : jm_mok mArr_fill := ⟨jw_s5 31 rfl rfl, jq_14.1, jq_14.2.1, jq_14.2.2, jd_49, Nat.le_of_ble_eq_true rfl, (fun h => by cases h), rfl⟩
def mCo_takeRegister : jm_M := (⟨"WhilePress$Code", "takeRegister", "()I"⟩, prog_2_method_4_code, 1, (some .int), 1, 0, 0)
theorem mCo_takeRegister_ok : jm_mok mCo_takeRegister := ⟨jw_s5 35 rfl rfl, jq_1.1, jq_1.2.1, jq_1.2.2, jd_0, Nat.le_of_ble_eq_true rfl, (fun h => by cases h), rfl⟩
def mCo_fits : jm_M := (⟨"WhilePress$Code", "fits", "()Z"⟩, prog_2_method_7_code, 1, (some .boolean), 1, 0, 0)
theorem mCo_fits_ok : jm_mok mCo_fits := ⟨jw_s5 39 rfl rfl, jq_1.1, jq_1.2.1, jq_1.2.2, jd_2, Nat.le_of_ble_eq_true rfl, (fun h => by cases h), rfl⟩
def mMa_arrive : jm_M := (⟨"WhilePress$Maker", "arrive", "()V"⟩, prog_7_method_3_code, 4, none, 6, 0, 0)
theorem mMa_arrive_ok : jm_mok mMa_arrive := ⟨jw_s5 44 rfl rfl, jq_6.1, jq_6.2.1, jq_6.2.2, jd_1, Nat.le_of_ble_eq_true rfl, (fun h => by cases h), rfl⟩
def mCo_add : jm_M := (⟨"WhilePress$Code", "add", "(IIIII)I"⟩, prog_2_method_5_code, 6, (some .int), 1, 5, 0)
theorem mCo_add_ok : jm_mok mCo_add := ⟨jw_s5 48 rfl rfl, jq_1.1, jq_1.2.1, jq_1.2.2, jd_14, Nat.le_of_ble_eq_true rfl, (fun h => by cases h), rfl⟩
def mCo_put : jm_M := (⟨"WhilePress$Code", "put", "(IIIII)V"⟩, prog_2_method_6_code, 6, none, 1, 5, 0)
theorem mCo_put_ok : jm_mok mCo_put := ⟨jw_s5 52 rfl rfl, jq_1.1, jq_1.2.1, jq_1.2.2, jd_15, Nat.le_of_ble_eq_true rfl, (fun h => by cases h), rfl⟩
def mMa_takeStep : jm_M := (⟨"WhilePress$Maker", "takeStep", "(II)V"⟩, prog_7_method_4_code, 3, none, 6, 2, 0)
theorem mMa_takeStep_ok : jm_mok mMa_takeStep := ⟨jw_s5 56 rfl rfl, jq_6.1, jq_6.2.1, jq_6.2.2, jd_8, Nat.le_of_ble_eq_true rfl, (fun h => by cases h), rfl⟩
def mMa_takeWork : jm_M := (⟨"WhilePress$Maker", "takeWork", "(II)V"⟩, prog_7_method_10_code, 10, none, 6, 2, 0)
theorem mMa_takeWork_ok : jm_mok mMa_takeWork := ⟨jw_s5 60 rfl rfl, jq_6.1, jq_6.2.1, jq_6.2.2, jd_8, Nat.le_of_ble_eq_true rfl, (fun h => by cases h), rfl⟩
def mMa_pop : jm_M := (⟨"WhilePress$Maker", "pop", "()I"⟩, prog_7_method_6_code, 1, (some .int), 6, 0, 0)
theorem mMa_pop_ok : jm_mok mMa_pop := ⟨jw_s5 64 rfl rfl, jq_6.1, jq_6.2.1, jq_6.2.2, jd_0, Nat.le_of_ble_eq_true rfl, (fun h => by cases h), rfl⟩
def mMa_push : jm_M := (⟨"WhilePress$Maker", "push", "(II)V"⟩, prog_7_method_5_code, 3, none, 6, 2, 0)
theorem mMa_push_ok : jm_mok mMa_push := ⟨jw_s5 68 rfl rfl, jq_6.1, jq_6.2.1, jq_6.2.2, jd_8, Nat.le_of_ble_eq_true rfl, (fun h => by cases h), rfl⟩
def mMa_pushCopy : jm_M := (⟨"WhilePress$Maker", "pushCopy", "(I)V"⟩, prog_7_method_7_code, 3, none, 6, 1, 0)
theorem mMa_pushCopy_ok : jm_mok mMa_pushCopy := ⟨jw_s5 72 rfl rfl, jq_6.1, jq_6.2.1, jq_6.2.2, jd_4, Nat.le_of_ble_eq_true rfl, (fun h => by cases h), rfl⟩
def mMa_lay : jm_M := (⟨"WhilePress$Maker", "lay", "(I)V"⟩, prog_7_method_9_code, 3, none, 6, 1, 0)
theorem mMa_lay_ok : jm_mok mMa_lay := ⟨jw_s5 76 rfl rfl, jq_6.1, jq_6.2.1, jq_6.2.2, jd_4, Nat.le_of_ble_eq_true rfl, (fun h => by cases h), rfl⟩
def mMa_tellInt : jm_M := (⟨"WhilePress$Maker", "tellInt", "(I)V"⟩, prog_7_method_8_code, 2, none, 6, 1, 0)
theorem mMa_tellInt_ok : jm_mok mMa_tellInt := ⟨jw_s5 80 rfl rfl, jq_6.1, jq_6.2.1, jq_6.2.2, jd_4, Nat.le_of_ble_eq_true rfl, (fun h => by cases h), rfl⟩
def mMa_call : jm_M := (⟨"WhilePress$Maker", "call", "(I)V"⟩, prog_7_method_15_code, 7, none, 6, 1, 0)
theorem mMa_call_ok : jm_mok mMa_call := ⟨jw_s5 84 rfl rfl, jq_6.1, jq_6.2.1, jq_6.2.2, jd_4, Nat.le_of_ble_eq_true rfl, (fun h => by cases h), rfl⟩
def mMa_giveBack : jm_M := (⟨"WhilePress$Maker", "giveBack", "(I)V"⟩, prog_7_method_16_code, 2, none, 6, 1, 0)
theorem mMa_giveBack_ok : jm_mok mMa_giveBack := ⟨jw_s5 88 rfl rfl, jq_6.1, jq_6.2.1, jq_6.2.2, jd_4, Nat.le_of_ble_eq_true rfl, (fun h => by cases h), rfl⟩
def mMa_leap : jm_M := (⟨"WhilePress$Maker", "leap", "(IIII)V"⟩, prog_7_method_13_code, 7, none, 6, 4, 0)
theorem mMa_leap_ok : jm_mok mMa_leap := ⟨jw_s5 92 rfl rfl, jq_6.1, jq_6.2.1, jq_6.2.2, jd_12, Nat.le_of_ble_eq_true rfl, (fun h => by cases h), rfl⟩
def mMa_endCall : jm_M := (⟨"WhilePress$Maker", "endCall", "()V"⟩, prog_7_method_17_code, 1, none, 6, 0, 0)
theorem mMa_endCall_ok : jm_mok mMa_endCall := ⟨jw_s5 96 rfl rfl, jq_6.1, jq_6.2.1, jq_6.2.2, jd_1, Nat.le_of_ble_eq_true rfl, (fun h => by cases h), rfl⟩
def mMa_test : jm_M := (⟨"WhilePress$Maker", "test", "(II)V"⟩, prog_7_method_12_code, 4, none, 6, 2, 0)
theorem mMa_test_ok : jm_mok mMa_test := ⟨jw_s5 100 rfl rfl, jq_6.1, jq_6.2.1, jq_6.2.2, jd_8, Nat.le_of_ble_eq_true rfl, (fun h => by cases h), rfl⟩
def mMa_endTruth : jm_M := (⟨"WhilePress$Maker", "endTruth", "(I)V"⟩, prog_7_method_14_code, 3, none, 6, 1, 0)
theorem mMa_endTruth_ok : jm_mok mMa_endTruth := ⟨jw_s5 104 rfl rfl, jq_6.1, jq_6.2.1, jq_6.2.2, jd_4, Nat.le_of_ble_eq_true rfl, (fun h => by cases h), rfl⟩
def mMa_show : jm_M := (⟨"WhilePress$Maker", "show", "()V"⟩, prog_7_method_11_code, 2, none, 6, 0, 0)
theorem mMa_show_ok : jm_mok mMa_show := ⟨jw_s5 108 rfl rfl, jq_6.1, jq_6.2.1, jq_6.2.2, jd_1, Nat.le_of_ble_eq_true rfl, (fun h => by cases h), rfl⟩
def mLi_find : jm_M := (⟨"WhilePress$Lives", "find", "(LWhilePress$Code;)V"⟩, prog_6_method_2_code, 5, none, 5, 1, 0)
theorem mLi_find_ok : jm_mok mLi_find := ⟨jw_s5 112 rfl rfl, jq_5.1, jq_5.2.1, jq_5.2.2, jd_28, Nat.le_of_ble_eq_true rfl, (fun h => by cases h), rfl⟩
def mArr_fill2 : jm_M := (⟨"java/util/Arrays", "fill", "([JJ)V"⟩, prog_32_method_101_code, 5, none, 14, 2, 0)
theorem mArr_fill2_ok : jm_mok mArr_fill2 := ⟨jw_s5 115 rfl rfl, jq_14.1, jq_14.2.1, jq_14.2.2, jd_53, Nat.le_of_ble_eq_true rfl, (fun h => by cases h), rfl⟩
def mLi_look : jm_M := (⟨"WhilePress$Lives", "look", "(LWhilePress$Code;I)Z"⟩, prog_6_method_3_code, 8, (some .boolean), 5, 2, 0)
theorem mLi_look_ok : jm_mok mLi_look := ⟨jw_s5 120 rfl rfl, jq_5.1, jq_5.2.1, jq_5.2.2, jd_33, Nat.le_of_ble_eq_true rfl, (fun h => by cases h), rfl⟩
def mCo_goesOn : jm_M := (⟨"WhilePress$Code", "goesOn", "(I)Z"⟩, prog_2_method_13_code, 2, (some .boolean), 1, 1, 0)
theorem mCo_goesOn_ok : jm_mok mCo_goesOn := ⟨jw_s5 124 rfl rfl, jq_1.1, jq_1.2.1, jq_1.2.2, jd_5, Nat.le_of_ble_eq_true rfl, (fun h => by cases h), rfl⟩
def mLi_join : jm_M := (⟨"WhilePress$Lives", "join", "(II)V"⟩, prog_6_method_4_code, 4, none, 5, 2, 0)
theorem mLi_join_ok : jm_mok mLi_join := ⟨jw_s5 128 rfl rfl, jq_5.1, jq_5.2.1, jq_5.2.2, jd_8, Nat.le_of_ble_eq_true rfl, (fun h => by cases h), rfl⟩
def mCo_leapsInside : jm_M := (⟨"WhilePress$Code", "leapsInside", "(I)Z"⟩, prog_2_method_14_code, 2, (some .boolean), 1, 1, 0)
theorem mCo_leapsInside_ok : jm_mok mCo_leapsInside := ⟨jw_s5 132 rfl rfl, jq_1.1, jq_1.2.1, jq_1.2.2, jd_5, Nat.le_of_ble_eq_true rfl, (fun h => by cases h), rfl⟩
def mCo_leaps : jm_M := (⟨"WhilePress$Code", "leaps", "(I)Z"⟩, prog_2_method_12_code, 2, (some .boolean), 1, 1, 0)
theorem mCo_leaps_ok : jm_mok mCo_leaps := ⟨jw_s5 136 rfl rfl, jq_1.1, jq_1.2.1, jq_1.2.2, jd_5, Nat.le_of_ble_eq_true rfl, (fun h => by cases h), rfl⟩
def mCo_defines : jm_M := (⟨"WhilePress$Code", "defines", "(I)Z"⟩, prog_2_method_8_code, 2, (some .boolean), 1, 1, 0)
theorem mCo_defines_ok : jm_mok mCo_defines := ⟨jw_s5 140 rfl rfl, jq_1.1, jq_1.2.1, jq_1.2.2, jd_5, Nat.le_of_ble_eq_true rfl, (fun h => by cases h), rfl⟩
def mCo_usesA : jm_M := (⟨"WhilePress$Code", "usesA", "(I)Z"⟩, prog_2_method_9_code, 4, (some .boolean), 1, 1, 0)
theorem mCo_usesA_ok : jm_mok mCo_usesA := ⟨jw_s5 145 rfl rfl, jq_1.1, jq_1.2.1, jq_1.2.2, jd_5, Nat.le_of_ble_eq_true rfl, (fun h => by cases h), rfl⟩
def mCo_usesB : jm_M := (⟨"WhilePress$Code", "usesB", "(I)Z"⟩, prog_2_method_10_code, 3, (some .boolean), 1, 1, 0)
theorem mCo_usesB_ok : jm_mok mCo_usesB := ⟨jw_s5 149 rfl rfl, jq_1.1, jq_1.2.1, jq_1.2.2, jd_5, Nat.le_of_ble_eq_true rfl, (fun h => by cases h), rfl⟩
def mP_improve : jm_M := (⟨"WhilePress", "improve", "()I"⟩, prog_1_method_6_code, 1, (some .int), 0, 0, 0)
theorem mP_improve_ok : jm_mok mP_improve := ⟨jw_s5 156 rfl rfl, jq_0.1, jq_0.2.1, jq_0.2.2, jd_0, Nat.le_of_ble_eq_true rfl, (fun h => by cases h), rfl⟩
def mIm_press : jm_M := (⟨"WhilePress$Improver", "press", "(LWhilePress$Code;LWhilePress$Code;)V"⟩, prog_4_method_2_code, 5, none, 3, 2, 0)
theorem mIm_press_ok : jm_mok mIm_press := ⟨jw_s5 161 rfl rfl, jq_3.1, jq_3.2.1, jq_3.2.2, jd_37, Nat.le_of_ble_eq_true rfl, (fun h => by cases h), rfl⟩
def mCo_copyFrom : jm_M := (⟨"WhilePress$Code", "copyFrom", "(LWhilePress$Code;)V"⟩, prog_2_method_3_code, 2, none, 1, 1, 0)
theorem mCo_copyFrom_ok : jm_mok mCo_copyFrom := ⟨jw_s5 165 rfl rfl, jq_1.1, jq_1.2.1, jq_1.2.2, jd_28, Nat.le_of_ble_eq_true rfl, (fun h => by cases h), rfl⟩
def mIm_putConstants : jm_M := (⟨"WhilePress$Improver", "putConstants", "(LWhilePress$Code;)Z"⟩, prog_4_method_3_code, 4, (some .boolean), 3, 1, 0)
theorem mIm_putConstants_ok : jm_mok mIm_putConstants := ⟨jw_s5 171 rfl rfl, jq_3.1, jq_3.2.1, jq_3.2.2, jd_29, Nat.le_of_ble_eq_true rfl, (fun h => by cases h), rfl⟩
def mKn_learn : jm_M := (⟨"WhilePress$Knowledge", "learn", "(LWhilePress$Code;)V"⟩, prog_5_method_2_code, 4, none, 4, 1, 0)
theorem mKn_learn_ok : jm_mok mKn_learn := ⟨jw_s5 175 rfl rfl, jq_4.1, jq_4.2.1, jq_4.2.2, jd_28, Nat.le_of_ble_eq_true rfl, (fun h => by cases h), rfl⟩
def mCo_findLeaders : jm_M := (⟨"WhilePress$Code", "findLeaders", "()V"⟩, prog_2_method_15_code, 2, none, 1, 0, 0)
theorem mCo_findLeaders_ok : jm_mok mCo_findLeaders := ⟨jw_s5 179 rfl rfl, jq_1.1, jq_1.2.1, jq_1.2.2, jd_1, Nat.le_of_ble_eq_true rfl, (fun h => by cases h), rfl⟩
def mKn_flow : jm_M := (⟨"WhilePress$Knowledge", "flow", "(LWhilePress$Code;I)V"⟩, prog_5_method_4_code, 7, none, 4, 2, 0)
theorem mKn_flow_ok : jm_mok mKn_flow := ⟨jw_s5 185 rfl rfl, jq_4.1, jq_4.2.1, jq_4.2.2, jd_32, Nat.le_of_ble_eq_true rfl, (fun h => by cases h), rfl⟩
def mKn_follow : jm_M := (⟨"WhilePress$Knowledge", "follow", "(LWhilePress$Code;I)V"⟩, prog_5_method_3_code, 9, none, 4, 2, 0)
theorem mKn_follow_ok : jm_mok mKn_follow := ⟨jw_s5 192 rfl rfl, jq_4.1, jq_4.2.1, jq_4.2.2, jd_32, Nat.le_of_ble_eq_true rfl, (fun h => by cases h), rfl⟩
def mKn_begin : jm_M := (⟨"WhilePress$Knowledge", "begin", "(I)V"⟩, prog_5_method_5_code, 2, none, 4, 1, 0)
theorem mKn_begin_ok : jm_mok mKn_begin := ⟨jw_s5 196 rfl rfl, jq_4.1, jq_4.2.1, jq_4.2.2, jd_4, Nat.le_of_ble_eq_true rfl, (fun h => by cases h), rfl⟩
def mCo_lastOf : jm_M := (⟨"WhilePress$Code", "lastOf", "(I)I"⟩, prog_2_method_16_code, 3, (some .int), 1, 1, 0)
theorem mCo_lastOf_ok : jm_mok mCo_lastOf := ⟨jw_s5 200 rfl rfl, jq_1.1, jq_1.2.1, jq_1.2.2, jd_3, Nat.le_of_ble_eq_true rfl, (fun h => by cases h), rfl⟩
def mKn_pass : jm_M := (⟨"WhilePress$Knowledge", "pass", "(LWhilePress$Code;I)V"⟩, prog_5_method_8_code, 10, none, 4, 2, 0)
theorem mKn_pass_ok : jm_mok mKn_pass := ⟨jw_s5 204 rfl rfl, jq_4.1, jq_4.2.1, jq_4.2.2, jd_32, Nat.le_of_ble_eq_true rfl, (fun h => by cases h), rfl⟩
def mKn_first : jm_M := (⟨"WhilePress$Knowledge", "first", "(LWhilePress$Code;I)J"⟩, prog_5_method_6_code, 3, (some .long), 4, 2, 0)
theorem mKn_first_ok : jm_mok mKn_first := ⟨jw_s5 209 rfl rfl, jq_4.1, jq_4.2.1, jq_4.2.2, jd_31, Nat.le_of_ble_eq_true rfl, (fun h => by cases h), rfl⟩
def mKn_second : jm_M := (⟨"WhilePress$Knowledge", "second", "(LWhilePress$Code;I)J"⟩, prog_5_method_7_code, 3, (some .long), 4, 2, 0)
theorem mKn_second_ok : jm_mok mKn_second := ⟨jw_s5 214 rfl rfl, jq_4.1, jq_4.2.1, jq_4.2.2, jd_31, Nat.le_of_ble_eq_true rfl, (fun h => by cases h), rfl⟩
def mP_isDivision : jm_M := (⟨"WhilePress", "isDivision", "(I)Z"⟩, prog_1_method_18_code, 1, (some .boolean), 0, 1, 0)
theorem mP_isDivision_ok : jm_mok mP_isDivision := ⟨jw_s5 218 rfl rfl, jq_0.1, jq_0.2.1, jq_0.2.2, jd_5, Nat.le_of_ble_eq_true rfl, (fun h => by cases h), rfl⟩
def mP_work : jm_M := (⟨"WhilePress", "work", "(III)I"⟩, prog_1_method_19_code, 3, (some .int), 0, 3, 0)
theorem mP_work_ok : jm_mok mP_work := ⟨jw_s5 221 rfl rfl, jq_0.1, jq_0.2.1, jq_0.2.2, jd_10, Nat.le_of_ble_eq_true rfl, (fun h => by cases h), rfl⟩
def mIm_putConstant : jm_M := (⟨"WhilePress$Improver", "putConstant", "(LWhilePress$Code;I)Z"⟩, prog_4_method_4_code, 9, (some .boolean), 3, 2, 0)
theorem mIm_putConstant_ok : jm_mok mIm_putConstant := ⟨jw_s5 227 rfl rfl, jq_3.1, jq_3.2.1, jq_3.2.2, jd_33, Nat.le_of_ble_eq_true rfl, (fun h => by cases h), rfl⟩
def mCo_isWorkedOut : jm_M := (⟨"WhilePress$Code", "isWorkedOut", "(I)Z"⟩, prog_2_method_11_code, 2, (some .boolean), 1, 1, 0)
theorem mCo_isWorkedOut_ok : jm_mok mCo_isWorkedOut := ⟨jw_s5 236 rfl rfl, jq_1.1, jq_1.2.1, jq_1.2.2, jd_5, Nat.le_of_ble_eq_true rfl, (fun h => by cases h), rfl⟩
def mIm_putCopies : jm_M := (⟨"WhilePress$Improver", "putCopies", "(LWhilePress$Code;)Z"⟩, prog_4_method_5_code, 4, (some .boolean), 3, 1, 0)
theorem mIm_putCopies_ok : jm_mok mIm_putCopies := ⟨jw_s6 4 rfl rfl, jq_3.1, jq_3.2.1, jq_3.2.2, jd_29, Nat.le_of_ble_eq_true rfl, (fun h => by cases h), rfl⟩
def mHo_find : jm_M := (⟨"WhilePress$Holdings", "find", "(LWhilePress$Code;)V"⟩, prog_3_method_2_code, 5, none, 2, 1, 0)
theorem mHo_find_ok : jm_mok mHo_find := ⟨jw_s6 8 rfl rfl, jq_2.1, jq_2.2.1, jq_2.2.2, jd_28, Nat.le_of_ble_eq_true rfl, (fun h => by cases h), rfl⟩
def mCo_findReached : jm_M := (⟨"WhilePress$Code", "findReached", "()V"⟩, prog_2_method_17_code, 4, none, 1, 0, 0)
theorem mCo_findReached_ok : jm_mok mCo_findReached := ⟨jw_s6 12 rfl rfl, jq_1.1, jq_1.2.1, jq_1.2.2, jd_1, Nat.le_of_ble_eq_true rfl, (fun h => by cases h), rfl⟩
def mArr_fill3 : jm_M := (⟨"java/util/Arrays", "fill", "([JIIJ)V"⟩, prog_32_method_102_code, 6, none, 14, 4, 0)
theorem mArr_fill3_ok : jm_mok mArr_fill3 := ⟨jw_s6 17 rfl rfl, jq_14.1, jq_14.2.1, jq_14.2.2, jd_52, Nat.le_of_ble_eq_true rfl, (fun h => by cases h), rfl⟩
def mArr_rangeCheck : jm_M := (⟨"java/util/Arrays", "rangeCheck", "(III)V"⟩, prog_32_method_30_code, 3, none, 14, 3, 0)
theorem mArr_rangeCheck_ok : jm_mok mArr_rangeCheck := ⟨jw_s6 20 rfl rfl, jq_14.1, jq_14.2.1, jq_14.2.2, jd_11, Nat.le_of_ble_eq_true rfl, (fun h => by cases h), rfl⟩
def mHo_factFor : jm_M := (⟨"WhilePress$Holdings", "factFor", "(LWhilePress$Code;I)I"⟩, prog_3_method_3_code, 5, (some .int), 2, 2, 0)
theorem mHo_factFor_ok : jm_mok mHo_factFor := ⟨jw_s7 43 rfl rfl, jq_2.1, jq_2.2.1, jq_2.2.2, jd_30, Nat.le_of_ble_eq_true rfl, (fun h => by cases h), rfl⟩
def mHo_isOf : jm_M := (⟨"WhilePress$Holdings", "isOf", "(ILWhilePress$Code;I)Z"⟩, prog_3_method_5_code, 4, (some .boolean), 2, 3, 0)
theorem mHo_isOf_ok : jm_mok mHo_isOf := ⟨jw_s7 49 rfl rfl, jq_2.1, jq_2.2.1, jq_2.2.2, jd_22, Nat.le_of_ble_eq_true rfl, (fun h => by cases h), rfl⟩
def mHo_endBy : jm_M := (⟨"WhilePress$Holdings", "endBy", "(II)V"⟩, prog_3_method_4_code, 3, none, 2, 2, 0)
theorem mHo_endBy_ok : jm_mok mHo_endBy := ⟨jw_s7 53 rfl rfl, jq_2.1, jq_2.2.1, jq_2.2.2, jd_8, Nat.le_of_ble_eq_true rfl, (fun h => by cases h), rfl⟩
def mHo_follow : jm_M := (⟨"WhilePress$Holdings", "follow", "(LWhilePress$Code;I)Z"⟩, prog_3_method_6_code, 5, (some .boolean), 2, 2, 0)
theorem mHo_follow_ok : jm_mok mHo_follow := ⟨jw_s7 59 rfl rfl, jq_2.1, jq_2.2.1, jq_2.2.2, jd_33, Nat.le_of_ble_eq_true rfl, (fun h => by cases h), rfl⟩
def mHo_begin : jm_M := (⟨"WhilePress$Holdings", "begin", "(I)V"⟩, prog_3_method_8_code, 2, none, 2, 1, 0)
theorem mHo_begin_ok : jm_mok mHo_begin := ⟨jw_s7 63 rfl rfl, jq_2.1, jq_2.2.1, jq_2.2.2, jd_4, Nat.le_of_ble_eq_true rfl, (fun h => by cases h), rfl⟩
def mHo_pass : jm_M := (⟨"WhilePress$Holdings", "pass", "(LWhilePress$Code;I)V"⟩, prog_3_method_9_code, 5, none, 2, 2, 0)
theorem mHo_pass_ok : jm_mok mHo_pass := ⟨jw_s7 69 rfl rfl, jq_2.1, jq_2.2.1, jq_2.2.2, jd_32, Nat.le_of_ble_eq_true rfl, (fun h => by cases h), rfl⟩
def mHo_flow : jm_M := (⟨"WhilePress$Holdings", "flow", "(I)Z"⟩, prog_3_method_7_code, 6, (some .boolean), 2, 1, 0)
theorem mHo_flow_ok : jm_mok mHo_flow := ⟨jw_s7 75 rfl rfl, jq_2.1, jq_2.2.1, jq_2.2.2, jd_5, Nat.le_of_ble_eq_true rfl, (fun h => by cases h), rfl⟩
def mIm_putCopy : jm_M := (⟨"WhilePress$Improver", "putCopy", "(LWhilePress$Code;I)Z"⟩, prog_4_method_6_code, 5, (some .boolean), 3, 2, 0)
theorem mIm_putCopy_ok : jm_mok mIm_putCopy := ⟨jw_s7 81 rfl rfl, jq_3.1, jq_3.2.1, jq_3.2.2, jd_33, Nat.le_of_ble_eq_true rfl, (fun h => by cases h), rfl⟩
def mHo_original : jm_M := (⟨"WhilePress$Holdings", "original", "(I)I"⟩, prog_3_method_10_code, 7, (some .int), 2, 1, 0)
theorem mHo_original_ok : jm_mok mHo_original := ⟨jw_s7 85 rfl rfl, jq_2.1, jq_2.2.1, jq_2.2.2, jd_3, Nat.le_of_ble_eq_true rfl, (fun h => by cases h), rfl⟩
def mLong_numberOfTrailingZeros : jm_M := (⟨"java/lang/Long", "numberOfTrailingZeros", "(J)I"⟩, prog_23_method_49_code, 3, (some .int), 16, 1, 0)
theorem mLong_numberOfTrailingZeros_ok : jm_mok mLong_numberOfTrailingZeros := ⟨jw_s7 88 rfl rfl, jq_16.1, jq_16.2.1, jq_16.2.2, jd_24, Nat.le_of_ble_eq_true rfl, (fun h => by cases h), rfl⟩
def mInt_numberOfTrailingZeros : jm_M := (⟨"java/lang/Integer", "numberOfTrailingZeros", "(I)I"⟩, prog_22_method_48_code, 2, (some .int), 17, 1, 0)
theorem mInt_numberOfTrailingZeros_ok : jm_mok mInt_numberOfTrailingZeros := ⟨jw_s7 91 rfl rfl, jq_17.1, jq_17.2.1, jq_17.2.2, jd_3, Nat.le_of_ble_eq_true rfl, (fun h => by cases h), rfl⟩
def mHo_holder : jm_M := (⟨"WhilePress$Holdings", "holder", "(LWhilePress$Code;I)I"⟩, prog_3_method_11_code, 9, (some .int), 2, 2, 0)
theorem mHo_holder_ok : jm_mok mHo_holder := ⟨jw_s7 96 rfl rfl, jq_2.1, jq_2.2.1, jq_2.2.2, jd_30, Nat.le_of_ble_eq_true rfl, (fun h => by cases h), rfl⟩
def mCo_leaveOut : jm_M := (⟨"WhilePress$Code", "leaveOut", "(I)V"⟩, prog_2_method_18_code, 2, none, 1, 1, 0)
theorem mCo_leaveOut_ok : jm_mok mCo_leaveOut := ⟨jw_s7 100 rfl rfl, jq_1.1, jq_1.2.1, jq_1.2.2, jd_4, Nat.le_of_ble_eq_true rfl, (fun h => by cases h), rfl⟩
def mCo_sweep : jm_M := (⟨"WhilePress$Code", "sweep", "()Z"⟩, prog_2_method_19_code, 5, (some .boolean), 1, 0, 0)
theorem mCo_sweep_ok : jm_mok mCo_sweep := ⟨jw_s7 105 rfl rfl, jq_1.1, jq_1.2.1, jq_1.2.2, jd_2, Nat.le_of_ble_eq_true rfl, (fun h => by cases h), rfl⟩
def mIm_leaveDead : jm_M := (⟨"WhilePress$Improver", "leaveDead", "(LWhilePress$Code;)Z"⟩, prog_4_method_7_code, 3, (some .boolean), 3, 1, 0)
theorem mIm_leaveDead_ok : jm_mok mIm_leaveDead := ⟨jw_s7 109 rfl rfl, jq_3.1, jq_3.2.1, jq_3.2.2, jd_29, Nat.le_of_ble_eq_true rfl, (fun h => by cases h), rfl⟩
def mLi_isBehind : jm_M := (⟨"WhilePress$Lives", "isBehind", "(II)Z"⟩, prog_6_method_5_code, 3, (some .boolean), 5, 2, 0)
theorem mLi_isBehind_ok : jm_mok mLi_isBehind := ⟨jw_s7 114 rfl rfl, jq_5.1, jq_5.2.1, jq_5.2.2, jd_9, Nat.le_of_ble_eq_true rfl, (fun h => by cases h), rfl⟩
def mIm_isHarmless : jm_M := (⟨"WhilePress$Improver", "isHarmless", "(LWhilePress$Code;I)Z"⟩, prog_4_method_8_code, 5, (some .boolean), 3, 2, 0)
theorem mIm_isHarmless_ok : jm_mok mIm_isHarmless := ⟨jw_s7 117 rfl rfl, jq_3.1, jq_3.2.1, jq_3.2.2, jd_33, Nat.le_of_ble_eq_true rfl, (fun h => by cases h), rfl⟩
def mIm_mendJumps : jm_M := (⟨"WhilePress$Improver", "mendJumps", "(LWhilePress$Code;)Z"⟩, prog_4_method_9_code, 4, (some .boolean), 3, 1, 0)
theorem mIm_mendJumps_ok : jm_mok mIm_mendJumps := ⟨jw_s7 121 rfl rfl, jq_3.1, jq_3.2.1, jq_3.2.2, jd_29, Nat.le_of_ble_eq_true rfl, (fun h => by cases h), rfl⟩
def mIm_settleTests : jm_M := (⟨"WhilePress$Improver", "settleTests", "(LWhilePress$Code;)Z"⟩, prog_4_method_10_code, 4, (some .boolean), 3, 1, 0)
theorem mIm_settleTests_ok : jm_mok mIm_settleTests := ⟨jw_s7 124 rfl rfl, jq_3.1, jq_3.2.1, jq_3.2.2, jd_29, Nat.le_of_ble_eq_true rfl, (fun h => by cases h), rfl⟩
def mIm_leaveUnreached : jm_M := (⟨"WhilePress$Improver", "leaveUnreached", "(LWhilePress$Code;)Z"⟩, prog_4_method_11_code, 2, (some .boolean), 3, 1, 0)
theorem mIm_leaveUnreached_ok : jm_mok mIm_leaveUnreached := ⟨jw_s7 127 rfl rfl, jq_3.1, jq_3.2.1, jq_3.2.2, jd_29, Nat.le_of_ble_eq_true rfl, (fun h => by cases h), rfl⟩
def mIm_goThrough : jm_M := (⟨"WhilePress$Improver", "goThrough", "(LWhilePress$Code;)Z"⟩, prog_4_method_12_code, 5, (some .boolean), 3, 1, 0)
theorem mIm_goThrough_ok : jm_mok mIm_goThrough := ⟨jw_s7 131 rfl rfl, jq_3.1, jq_3.2.1, jq_3.2.2, jd_29, Nat.le_of_ble_eq_true rfl, (fun h => by cases h), rfl⟩
def mLi_giveColours : jm_M := (⟨"WhilePress$Lives", "giveColours", "(LWhilePress$Code;)V"⟩, prog_6_method_6_code, 3, none, 5, 1, 0)
theorem mLi_giveColours_ok : jm_mok mLi_giveColours := ⟨jw_s7 137 rfl rfl, jq_5.1, jq_5.2.1, jq_5.2.2, jd_28, Nat.le_of_ble_eq_true rfl, (fun h => by cases h), rfl⟩
def mLi_setApart : jm_M := (⟨"WhilePress$Lives", "setApart", "(LWhilePress$Code;I)V"⟩, prog_6_method_7_code, 6, none, 5, 2, 0)
theorem mLi_setApart_ok : jm_mok mLi_setApart := ⟨jw_s7 141 rfl rfl, jq_5.1, jq_5.2.1, jq_5.2.2, jd_32, Nat.le_of_ble_eq_true rfl, (fun h => by cases h), rfl⟩
def mLi_leastColour : jm_M := (⟨"WhilePress$Lives", "leastColour", "(I)I"⟩, prog_6_method_8_code, 4, (some .int), 5, 1, 0)
theorem mLi_leastColour_ok : jm_mok mLi_leastColour := ⟨jw_s7 146 rfl rfl, jq_5.1, jq_5.2.1, jq_5.2.2, jd_3, Nat.le_of_ble_eq_true rfl, (fun h => by cases h), rfl⟩
def mP_code : jm_M := (⟨"WhilePress", "code", "(ZII)I"⟩, prog_1_method_7_code, 5, (some .int), 0, 3, 0)
theorem mP_code_ok : jm_mok mP_code := ⟨jw_s7 155 rfl rfl, jq_0.1, jq_0.2.1, jq_0.2.2, jd_45, Nat.le_of_ble_eq_true rfl, (fun h => by cases h), rfl⟩
def mP_isKnown : jm_M := (⟨"WhilePress", "isKnown", "(II)Z"⟩, prog_1_method_8_code, 3, (some .boolean), 0, 2, 0)
theorem mP_isKnown_ok : jm_mok mP_isKnown := ⟨jw_s7 176 rfl rfl, jq_0.1, jq_0.2.1, jq_0.2.2, jd_9, Nat.le_of_ble_eq_true rfl, (fun h => by cases h), rfl⟩
def mP_knownBefore : jm_M := (⟨"WhilePress", "knownBefore", "(II)J"⟩, prog_1_method_10_code, 3, (some .long), 0, 2, 0)
theorem mP_knownBefore_ok : jm_mok mP_knownBefore := ⟨jw_s7 180 rfl rfl, jq_0.1, jq_0.2.1, jq_0.2.2, jd_7, Nat.le_of_ble_eq_true rfl, (fun h => by cases h), rfl⟩
def mKn_before : jm_M := (⟨"WhilePress$Knowledge", "before", "(LWhilePress$Code;II)J"⟩, prog_5_method_9_code, 6, (some .long), 4, 3, 0)
theorem mKn_before_ok : jm_mok mKn_before := ⟨jw_s7 186 rfl rfl, jq_4.1, jq_4.2.1, jq_4.2.2, jd_34, Nat.le_of_ble_eq_true rfl, (fun h => by cases h), rfl⟩
def mP_known : jm_M := (⟨"WhilePress", "known", "(II)I"⟩, prog_1_method_9_code, 5, (some .int), 0, 2, 0)
theorem mP_known_ok : jm_mok mP_known := ⟨jw_s7 194 rfl rfl, jq_0.1, jq_0.2.1, jq_0.2.2, jd_6, Nat.le_of_ble_eq_true rfl, (fun h => by cases h), rfl⟩
def mP_isLive : jm_M := (⟨"WhilePress", "isLive", "(ZII)Z"⟩, prog_1_method_11_code, 5, (some .boolean), 0, 3, 0)
theorem mP_isLive_ok : jm_mok mP_isLive := ⟨jw_s7 201 rfl rfl, jq_0.1, jq_0.2.1, jq_0.2.2, jd_47, Nat.le_of_ble_eq_true rfl, (fun h => by cases h), rfl⟩
def mP_colour : jm_M := (⟨"WhilePress", "colour", "(I)I"⟩, prog_1_method_12_code, 2, (some .int), 0, 1, 0)
theorem mP_colour_ok : jm_mok mP_colour := ⟨jw_s7 209 rfl rfl, jq_0.1, jq_0.2.1, jq_0.2.2, jd_3, Nat.le_of_ble_eq_true rfl, (fun h => by cases h), rfl⟩
def mP_input : jm_M := (⟨"WhilePress", "input", "(I)I"⟩, prog_1_method_13_code, 2, (some .int), 0, 1, 0)
theorem mP_input_ok : jm_mok mP_input := ⟨jw_s7 218 rfl rfl, jq_0.1, jq_0.2.1, jq_0.2.2, jd_3, Nat.le_of_ble_eq_true rfl, (fun h => by cases h), rfl⟩
def mP_run : jm_M := (⟨"WhilePress", "run", "(II)I"⟩, prog_1_method_15_code, 3, (some .int), 0, 2, 0)
theorem mP_run_ok : jm_mok mP_run := ⟨jw_s7 226 rfl rfl, jq_0.1, jq_0.2.1, jq_0.2.2, jd_6, Nat.le_of_ble_eq_true rfl, (fun h => by cases h), rfl⟩
def mRu_goText : jm_M := (⟨"WhilePress$Runner", "goText", "(LWhilePress$Script;I)I"⟩, prog_10_method_7_code, 7, (some .int), 9, 2, 0)
theorem mRu_goText_ok : jm_mok mRu_goText := ⟨jw_s7 233 rfl rfl, jq_9.1, jq_9.2.1, jq_9.2.2, jd_40, Nat.le_of_ble_eq_true rfl, (fun h => by cases h), rfl⟩
def mRu_begin : jm_M := (⟨"WhilePress$Runner", "begin", "(II)V"⟩, prog_10_method_2_code, 3, none, 9, 2, 0)
theorem mRu_begin_ok : jm_mok mRu_begin := ⟨jw_s7 237 rfl rfl, jq_9.1, jq_9.2.1, jq_9.2.2, jd_8, Nat.le_of_ble_eq_true rfl, (fun h => by cases h), rfl⟩
def mRu_takeWork : jm_M := (⟨"WhilePress$Runner", "takeWork", "(I)V"⟩, prog_10_method_10_code, 4, none, 9, 1, 0)
theorem mRu_takeWork_ok : jm_mok mRu_takeWork := ⟨jw_s8 3 rfl rfl, jq_9.1, jq_9.2.1, jq_9.2.2, jd_4, Nat.le_of_ble_eq_true rfl, (fun h => by cases h), rfl⟩
def mRu_pop : jm_M := (⟨"WhilePress$Runner", "pop", "()I"⟩, prog_10_method_9_code, 1, (some .int), 9, 0, 0)
theorem mRu_pop_ok : jm_mok mRu_pop := ⟨jw_s8 7 rfl rfl, jq_9.1, jq_9.2.1, jq_9.2.2, jd_0, Nat.le_of_ble_eq_true rfl, (fun h => by cases h), rfl⟩
def mRu_push : jm_M := (⟨"WhilePress$Runner", "push", "(I)V"⟩, prog_10_method_8_code, 2, none, 9, 1, 0)
theorem mRu_push_ok : jm_mok mRu_push := ⟨jw_s8 13 rfl rfl, jq_9.1, jq_9.2.1, jq_9.2.2, jd_4, Nat.le_of_ble_eq_true rfl, (fun h => by cases h), rfl⟩
def mRu_takePlain : jm_M := (⟨"WhilePress$Runner", "takePlain", "(LWhilePress$Script;II)V"⟩, prog_10_method_11_code, 7, none, 9, 3, 0)
theorem mRu_takePlain_ok : jm_mok mRu_takePlain := ⟨jw_s8 17 rfl rfl, jq_9.1, jq_9.2.1, jq_9.2.2, jd_42, Nat.le_of_ble_eq_true rfl, (fun h => by cases h), rfl⟩
def mRu_cellPlace : jm_M := (⟨"WhilePress$Runner", "cellPlace", "([III)I"⟩, prog_10_method_6_code, 4, (some .int), 9, 3, 0)
theorem mRu_cellPlace_ok : jm_mok mRu_cellPlace := ⟨jw_s8 21 rfl rfl, jq_9.1, jq_9.2.1, jq_9.2.2, jd_50, Nat.le_of_ble_eq_true rfl, (fun h => by cases h), rfl⟩
def mRu_takeInput : jm_M := (⟨"WhilePress$Runner", "takeInput", "()I"⟩, prog_10_method_4_code, 1, (some .int), 9, 0, 0)
theorem mRu_takeInput_ok : jm_mok mRu_takeInput := ⟨jw_s8 25 rfl rfl, jq_9.1, jq_9.2.1, jq_9.2.2, jd_0, Nat.le_of_ble_eq_true rfl, (fun h => by cases h), rfl⟩
def mRu_show : jm_M := (⟨"WhilePress$Runner", "show", "(I)V"⟩, prog_10_method_5_code, 2, none, 9, 1, 0)
theorem mRu_show_ok : jm_mok mRu_show := ⟨jw_s8 29 rfl rfl, jq_9.1, jq_9.2.1, jq_9.2.2, jd_4, Nat.le_of_ble_eq_true rfl, (fun h => by cases h), rfl⟩
def mRu_takeWay : jm_M := (⟨"WhilePress$Runner", "takeWay", "(LWhilePress$Script;II)V"⟩, prog_10_method_12_code, 4, none, 9, 3, 0)
theorem mRu_takeWay_ok : jm_mok mRu_takeWay := ⟨jw_s8 33 rfl rfl, jq_9.1, jq_9.2.1, jq_9.2.2, jd_42, Nat.le_of_ble_eq_true rfl, (fun h => by cases h), rfl⟩
def mRu_burn : jm_M := (⟨"WhilePress$Runner", "burn", "()V"⟩, prog_10_method_3_code, 1, none, 9, 0, 0)
theorem mRu_burn_ok : jm_mok mRu_burn := ⟨jw_s8 37 rfl rfl, jq_9.1, jq_9.2.1, jq_9.2.2, jd_1, Nat.le_of_ble_eq_true rfl, (fun h => by cases h), rfl⟩
def mRu_call : jm_M := (⟨"WhilePress$Runner", "call", "(LWhilePress$Script;I)V"⟩, prog_10_method_14_code, 4, none, 9, 2, 0)
theorem mRu_call_ok : jm_mok mRu_call := ⟨jw_s8 41 rfl rfl, jq_9.1, jq_9.2.1, jq_9.2.2, jd_41, Nat.le_of_ble_eq_true rfl, (fun h => by cases h), rfl⟩
def mRu_goBack : jm_M := (⟨"WhilePress$Runner", "goBack", "()V"⟩, prog_10_method_15_code, 1, none, 9, 0, 0)
theorem mRu_goBack_ok : jm_mok mRu_goBack := ⟨jw_s8 45 rfl rfl, jq_9.1, jq_9.2.1, jq_9.2.2, jd_1, Nat.le_of_ble_eq_true rfl, (fun h => by cases h), rfl⟩
def mRu_tellEarly : jm_M := (⟨"WhilePress$Runner", "tellEarly", "(ZII)V"⟩, prog_10_method_13_code, 4, none, 9, 3, 0)
theorem mRu_tellEarly_ok : jm_mok mRu_tellEarly := ⟨jw_s8 49 rfl rfl, jq_9.1, jq_9.2.1, jq_9.2.2, jd_46, Nat.le_of_ble_eq_true rfl, (fun h => by cases h), rfl⟩
def mRu_goCode : jm_M := (⟨"WhilePress$Runner", "goCode", "(LWhilePress$Code;[II)I"⟩, prog_10_method_16_code, 5, (some .int), 9, 3, 0)
theorem mRu_goCode_ok : jm_mok mRu_goCode := ⟨jw_s8 53 rfl rfl, jq_9.1, jq_9.2.1, jq_9.2.2, jd_38, Nat.le_of_ble_eq_true rfl, (fun h => by cases h), rfl⟩
def mRu_takeInstruction : jm_M := (⟨"WhilePress$Runner", "takeInstruction", "(LWhilePress$Code;I[I)V"⟩, prog_10_method_17_code, 8, none, 9, 3, 0)
theorem mRu_takeInstruction_ok : jm_mok mRu_takeInstruction := ⟨jw_s8 57 rfl rfl, jq_9.1, jq_9.2.1, jq_9.2.2, jd_36, Nat.le_of_ble_eq_true rfl, (fun h => by cases h), rfl⟩
def mRu_resultOf : jm_M := (⟨"WhilePress$Runner", "resultOf", "(LWhilePress$Code;III)I"⟩, prog_10_method_18_code, 6, (some .int), 9, 4, 0)
theorem mRu_resultOf_ok : jm_mok mRu_resultOf := ⟨jw_s8 64 rfl rfl, jq_9.1, jq_9.2.1, jq_9.2.2, jd_35, Nat.le_of_ble_eq_true rfl, (fun h => by cases h), rfl⟩
def mP_printed : jm_M := (⟨"WhilePress", "printed", "(I)I"⟩, prog_1_method_16_code, 2, (some .int), 0, 1, 0)
theorem mP_printed_ok : jm_mok mP_printed := ⟨jw_s8 71 rfl rfl, jq_0.1, jq_0.2.1, jq_0.2.2, jd_3, Nat.le_of_ble_eq_true rfl, (fun h => by cases h), rfl⟩
def mP_told : jm_M := (⟨"WhilePress", "told", "(I)I"⟩, prog_1_method_17_code, 2, (some .int), 0, 1, 0)
theorem mP_told_ok : jm_mok mP_told := ⟨jw_s8 79 rfl rfl, jq_0.1, jq_0.2.1, jq_0.2.2, jd_3, Nat.le_of_ble_eq_true rfl, (fun h => by cases h), rfl⟩
def mM_thrown : jm_M := (⟨"WhilePressModel", "thrown", "()I"⟩, prog_14_method_1_code, 1, (some .int), 12, 0, 0)
theorem mM_thrown_ok : jm_mok mM_thrown := ⟨jw_s8 84 rfl rfl, jq_12.1, jq_12.2.1, jq_12.2.2, jd_0, Nat.le_of_ble_eq_true rfl, (fun h => by cases h), rfl⟩
def mM_init : jm_M := (⟨"WhilePressModel", "<init>", "()V"⟩, prog_14_method_2_code, 1, none, 12, 0, 1)
theorem mM_init_ok : jm_mok mM_init := ⟨jw_s8 89 rfl rfl, jq_12.1, jq_12.2.1, jq_12.2.2, jd_1, Nat.le_of_ble_eq_true rfl, fun _ => rfl, rfl⟩
def mM_feed : jm_M := (⟨"WhilePressModel", "feed", "(JI)I"⟩, prog_14_method_4_code, 5, (some .int), 12, 2, 0)
theorem mM_feed_ok : jm_mok mM_feed := ⟨jw_s9 190 rfl rfl, jq_12.1, jq_12.2.1, jq_12.2.2, jd_26, Nat.le_of_ble_eq_true rfl, (fun h => by cases h), rfl⟩
def mM_isFine : jm_M := (⟨"WhilePressModel", "isFine", "(I)Z"⟩, prog_14_method_3_code, 1, (some .boolean), 12, 1, 0)
theorem mM_isFine_ok : jm_mok mM_isFine := ⟨jw_s9 194 rfl rfl, jq_12.1, jq_12.2.1, jq_12.2.2, jd_5, Nat.le_of_ble_eq_true rfl, (fun h => by cases h), rfl⟩
def mM_read : jm_M := (⟨"WhilePressModel", "read", "()I"⟩, prog_14_method_56_code, 2, (some .int), 12, 0, 0)
theorem mM_read_ok : jm_mok mM_read := ⟨jw_s9 198 rfl rfl, jq_12.1, jq_12.2.1, jq_12.2.2, jd_0, Nat.le_of_ble_eq_true rfl, (fun h => by cases h), rfl⟩
def mM_cutWords : jm_M := (⟨"WhilePressModel", "cutWords", "()V"⟩, prog_14_method_11_code, 6, none, 12, 0, 0)
theorem mM_cutWords_ok : jm_mok mM_cutWords := ⟨jw_s9 202 rfl rfl, jq_12.1, jq_12.2.1, jq_12.2.2, jd_1, Nat.le_of_ble_eq_true rfl, (fun h => by cases h), rfl⟩
def mM_isSmall : jm_M := (⟨"WhilePressModel", "isSmall", "(I)Z"⟩, prog_14_method_6_code, 1, (some .boolean), 12, 1, 0)
theorem mM_isSmall_ok : jm_mok mM_isSmall := ⟨jw_s9 205 rfl rfl, jq_12.1, jq_12.2.1, jq_12.2.2, jd_5, Nat.le_of_ble_eq_true rfl, (fun h => by cases h), rfl⟩
def mM_byteAt : jm_M := (⟨"WhilePressModel", "byteAt", "(I)I"⟩, prog_14_method_8_code, 2, (some .int), 12, 1, 0)
theorem mM_byteAt_ok : jm_mok mM_byteAt := ⟨jw_s9 209 rfl rfl, jq_12.1, jq_12.2.1, jq_12.2.2, jd_3, Nat.le_of_ble_eq_true rfl, (fun h => by cases h), rfl⟩
def mM_isFigure : jm_M := (⟨"WhilePressModel", "isFigure", "(I)Z"⟩, prog_14_method_7_code, 1, (some .boolean), 12, 1, 0)
theorem mM_isFigure_ok : jm_mok mM_isFigure := ⟨jw_s9 212 rfl rfl, jq_12.1, jq_12.2.1, jq_12.2.2, jd_5, Nat.le_of_ble_eq_true rfl, (fun h => by cases h), rfl⟩
def mM_keyOf : jm_M := (⟨"WhilePressModel", "keyOf", "(J)I"⟩, prog_14_method_5_code, 2, (some .int), 12, 1, 0)
theorem mM_keyOf_ok : jm_mok mM_keyOf := ⟨jw_s9 215 rfl rfl, jq_12.1, jq_12.2.1, jq_12.2.2, jd_24, Nat.le_of_ble_eq_true rfl, (fun h => by cases h), rfl⟩
def mM_pairOf : jm_M := (⟨"WhilePressModel", "pairOf", "(II)I"⟩, prog_14_method_9_code, 2, (some .int), 12, 2, 0)
theorem mM_pairOf_ok : jm_mok mM_pairOf := ⟨jw_s9 234 rfl rfl, jq_12.1, jq_12.2.1, jq_12.2.2, jd_6, Nat.le_of_ble_eq_true rfl, (fun h => by cases h), rfl⟩
def mM_isSign : jm_M := (⟨"WhilePressModel", "isSign", "(I)Z"⟩, prog_14_method_10_code, 1, (some .boolean), 12, 1, 0)
theorem mM_isSign_ok : jm_mok mM_isSign := ⟨jw_s9 237 rfl rfl, jq_12.1, jq_12.2.1, jq_12.2.2, jd_5, Nat.le_of_ble_eq_true rfl, (fun h => by cases h), rfl⟩
def mM_goOver : jm_M := (⟨"WhilePressModel", "goOver", "()V"⟩, prog_14_method_55_code, 1, none, 12, 0, 0)
theorem mM_goOver_ok : jm_mok mM_goOver := ⟨jw_s10 1 rfl rfl, jq_12.1, jq_12.2.1, jq_12.2.2, jd_1, Nat.le_of_ble_eq_true rfl, (fun h => by cases h), rfl⟩
def mM_readDecl : jm_M := (⟨"WhilePressModel", "readDecl", "()V"⟩, prog_14_method_35_code, 1, none, 12, 0, 0)
theorem mM_readDecl_ok : jm_mok mM_readDecl := ⟨jw_s10 5 rfl rfl, jq_12.1, jq_12.2.1, jq_12.2.2, jd_1, Nat.le_of_ble_eq_true rfl, (fun h => by cases h), rfl⟩
def mM_readInts : jm_M := (⟨"WhilePressModel", "readInts", "(Z)V"⟩, prog_14_method_31_code, 4, none, 12, 1, 0)
theorem mM_readInts_ok : jm_mok mM_readInts := ⟨jw_s10 9 rfl rfl, jq_12.1, jq_12.2.1, jq_12.2.2, jd_44, Nat.le_of_ble_eq_true rfl, (fun h => by cases h), rfl⟩
def mM_misfit : jm_M := (⟨"WhilePressModel", "misfit", "()V"⟩, prog_14_method_20_code, 1, none, 12, 0, 0)
theorem mM_misfit_ok : jm_mok mM_misfit := ⟨jw_s10 13 rfl rfl, jq_12.1, jq_12.2.1, jq_12.2.2, jd_1, Nat.le_of_ble_eq_true rfl, (fun h => by cases h), rfl⟩
def mM_fail : jm_M := (⟨"WhilePressModel", "fail", "(II)V"⟩, prog_14_method_19_code, 3, none, 12, 2, 0)
theorem mM_fail_ok : jm_mok mM_fail := ⟨jw_s10 17 rfl rfl, jq_12.1, jq_12.2.1, jq_12.2.2, jd_8, Nat.le_of_ble_eq_true rfl, (fun h => by cases h), rfl⟩
def mM_newInt : jm_M := (⟨"WhilePressModel", "newInt", "(I)I"⟩, prog_14_method_18_code, 2, (some .int), 12, 1, 0)
theorem mM_newInt_ok : jm_mok mM_newInt := ⟨jw_s10 21 rfl rfl, jq_12.1, jq_12.2.1, jq_12.2.2, jd_3, Nat.le_of_ble_eq_true rfl, (fun h => by cases h), rfl⟩
def mM_isTold : jm_M := (⟨"WhilePressModel", "isTold", "(J)Z"⟩, prog_14_method_15_code, 5, (some .boolean), 12, 1, 0)
theorem mM_isTold_ok : jm_mok mM_isTold := ⟨jw_s10 25 rfl rfl, jq_12.1, jq_12.2.1, jq_12.2.2, jd_25, Nat.le_of_ble_eq_true rfl, (fun h => by cases h), rfl⟩
def mM_addName : jm_M := (⟨"WhilePressModel", "addName", "(JII)V"⟩, prog_14_method_16_code, 5, none, 12, 3, 0)
theorem mM_addName_ok : jm_mok mM_addName := ⟨jw_s10 29 rfl rfl, jq_12.1, jq_12.2.1, jq_12.2.2, jd_27, Nat.le_of_ble_eq_true rfl, (fun h => by cases h), rfl⟩
def mM_step : jm_M := (⟨"WhilePressModel", "step", "(II)I"⟩, prog_14_method_12_code, 4, (some .int), 12, 2, 0)
theorem mM_step_ok : jm_mok mM_step := ⟨jw_s10 33 rfl rfl, jq_12.1, jq_12.2.1, jq_12.2.2, jd_6, Nat.le_of_ble_eq_true rfl, (fun h => by cases h), rfl⟩
def mM_take : jm_M := (⟨"WhilePressModel", "take", "(I)Z"⟩, prog_14_method_21_code, 2, (some .boolean), 12, 1, 0)
theorem mM_take_ok : jm_mok mM_take := ⟨jw_s10 37 rfl rfl, jq_12.1, jq_12.2.1, jq_12.2.2, jd_5, Nat.le_of_ble_eq_true rfl, (fun h => by cases h), rfl⟩
def mM_readRow : jm_M := (⟨"WhilePressModel", "readRow", "()V"⟩, prog_14_method_32_code, 4, none, 12, 0, 0)
theorem mM_readRow_ok : jm_mok mM_readRow := ⟨jw_s10 41 rfl rfl, jq_12.1, jq_12.2.1, jq_12.2.2, jd_1, Nat.le_of_ble_eq_true rfl, (fun h => by cases h), rfl⟩
def mM_takeOpen : jm_M := (⟨"WhilePressModel", "takeOpen", "(I)Z"⟩, prog_14_method_23_code, 2, (some .boolean), 12, 1, 0)
theorem mM_takeOpen_ok : jm_mok mM_takeOpen := ⟨jw_s10 45 rfl rfl, jq_12.1, jq_12.2.1, jq_12.2.2, jd_5, Nat.le_of_ble_eq_true rfl, (fun h => by cases h), rfl⟩
def mM_opens : jm_M := (⟨"WhilePressModel", "opens", "()Z"⟩, prog_14_method_22_code, 1, (some .boolean), 12, 0, 0)
theorem mM_opens_ok : jm_mok mM_opens := ⟨jw_s10 49 rfl rfl, jq_12.1, jq_12.2.1, jq_12.2.2, jd_2, Nat.le_of_ble_eq_true rfl, (fun h => by cases h), rfl⟩
def mM_takeClose : jm_M := (⟨"WhilePressModel", "takeClose", "(I)Z"⟩, prog_14_method_24_code, 2, (some .boolean), 12, 1, 0)
theorem mM_takeClose_ok : jm_mok mM_takeClose := ⟨jw_s10 53 rfl rfl, jq_12.1, jq_12.2.1, jq_12.2.2, jd_5, Nat.le_of_ble_eq_true rfl, (fun h => by cases h), rfl⟩
def mM_readDef : jm_M := (⟨"WhilePressModel", "readDef", "()V"⟩, prog_14_method_33_code, 5, none, 12, 0, 0)
theorem mM_readDef_ok : jm_mok mM_readDef := ⟨jw_s10 57 rfl rfl, jq_12.1, jq_12.2.1, jq_12.2.2, jd_1, Nat.le_of_ble_eq_true rfl, (fun h => by cases h), rfl⟩
def mM_push : jm_M := (⟨"WhilePressModel", "push", "(III)V"⟩, prog_14_method_25_code, 4, none, 12, 3, 0)
theorem mM_push_ok : jm_mok mM_push := ⟨jw_s10 61 rfl rfl, jq_12.1, jq_12.2.1, jq_12.2.2, jd_11, Nat.le_of_ble_eq_true rfl, (fun h => by cases h), rfl⟩
def mM_beginBlock : jm_M := (⟨"WhilePressModel", "beginBlock", "()V"⟩, prog_14_method_29_code, 1, none, 12, 0, 0)
theorem mM_beginBlock_ok : jm_mok mM_beginBlock := ⟨jw_s10 65 rfl rfl, jq_12.1, jq_12.2.1, jq_12.2.2, jd_1, Nat.le_of_ble_eq_true rfl, (fun h => by cases h), rfl⟩
def mM_readStatement : jm_M := (⟨"WhilePressModel", "readStatement", "()V"⟩, prog_14_method_37_code, 4, none, 12, 0, 0)
theorem mM_readStatement_ok : jm_mok mM_readStatement := ⟨jw_s10 69 rfl rfl, jq_12.1, jq_12.2.1, jq_12.2.2, jd_1, Nat.le_of_ble_eq_true rfl, (fun h => by cases h), rfl⟩
def mM_top : jm_M := (⟨"WhilePressModel", "top", "()I"⟩, prog_14_method_26_code, 1, (some .int), 12, 0, 0)
theorem mM_top_ok : jm_mok mM_top := ⟨jw_s10 73 rfl rfl, jq_12.1, jq_12.2.1, jq_12.2.2, jd_0, Nat.le_of_ble_eq_true rfl, (fun h => by cases h), rfl⟩
def mM_endDef : jm_M := (⟨"WhilePressModel", "endDef", "()V"⟩, prog_14_method_34_code, 3, none, 12, 0, 0)
theorem mM_endDef_ok : jm_mok mM_endDef := ⟨jw_s10 77 rfl rfl, jq_12.1, jq_12.2.1, jq_12.2.2, jd_1, Nat.le_of_ble_eq_true rfl, (fun h => by cases h), rfl⟩
def mM_tellChain : jm_M := (⟨"WhilePressModel", "tellChain", "(II)V"⟩, prog_14_method_14_code, 5, none, 12, 2, 0)
theorem mM_tellChain_ok : jm_mok mM_tellChain := ⟨jw_s10 81 rfl rfl, jq_12.1, jq_12.2.1, jq_12.2.2, jd_8, Nat.le_of_ble_eq_true rfl, (fun h => by cases h), rfl⟩
def mM_tell : jm_M := (⟨"WhilePressModel", "tell", "(II)V"⟩, prog_14_method_13_code, 3, none, 12, 2, 0)
theorem mM_tell_ok : jm_mok mM_tell := ⟨jw_s10 85 rfl rfl, jq_12.1, jq_12.2.1, jq_12.2.2, jd_8, Nat.le_of_ble_eq_true rfl, (fun h => by cases h), rfl⟩
def mM_endBlock : jm_M := (⟨"WhilePressModel", "endBlock", "()V"⟩, prog_14_method_30_code, 1, none, 12, 0, 0)
theorem mM_endBlock_ok : jm_mok mM_endBlock := ⟨jw_s10 89 rfl rfl, jq_12.1, jq_12.2.1, jq_12.2.2, jd_1, Nat.le_of_ble_eq_true rfl, (fun h => by cases h), rfl⟩
def mM_readNamed : jm_M := (⟨"WhilePressModel", "readNamed", "()V"⟩, prog_14_method_38_code, 4, none, 12, 0, 0)
theorem mM_readNamed_ok : jm_mok mM_readNamed := ⟨jw_s10 93 rfl rfl, jq_12.1, jq_12.2.1, jq_12.2.2, jd_1, Nat.le_of_ble_eq_true rfl, (fun h => by cases h), rfl⟩
def mM_meaningOfCall : jm_M := (⟨"WhilePressModel", "meaningOfCall", "(I)I"⟩, prog_14_method_40_code, 3, (some .int), 12, 1, 0)
theorem mM_meaningOfCall_ok : jm_mok mM_meaningOfCall := ⟨jw_s10 97 rfl rfl, jq_12.1, jq_12.2.1, jq_12.2.2, jd_3, Nat.le_of_ble_eq_true rfl, (fun h => by cases h), rfl⟩
def mM_meaning : jm_M := (⟨"WhilePressModel", "meaning", "(II)I"⟩, prog_14_method_17_code, 4, (some .int), 12, 2, 0)
theorem mM_meaning_ok : jm_mok mM_meaning := ⟨jw_s10 101 rfl rfl, jq_12.1, jq_12.2.1, jq_12.2.2, jd_6, Nat.le_of_ble_eq_true rfl, (fun h => by cases h), rfl⟩
def mM_begun : jm_M := (⟨"WhilePressModel", "begun", "()V"⟩, prog_14_method_36_code, 2, none, 12, 0, 0)
theorem mM_begun_ok : jm_mok mM_begun := ⟨jw_s10 105 rfl rfl, jq_12.1, jq_12.2.1, jq_12.2.2, jd_1, Nat.le_of_ble_eq_true rfl, (fun h => by cases h), rfl⟩
def mM_beginCall : jm_M := (⟨"WhilePressModel", "beginCall", "()V"⟩, prog_14_method_39_code, 1, none, 12, 0, 0)
theorem mM_beginCall_ok : jm_mok mM_beginCall := ⟨jw_s10 109 rfl rfl, jq_12.1, jq_12.2.1, jq_12.2.2, jd_1, Nat.le_of_ble_eq_true rfl, (fun h => by cases h), rfl⟩
def mM_endCall : jm_M := (⟨"WhilePressModel", "endCall", "()V"⟩, prog_14_method_41_code, 5, none, 12, 0, 0)
theorem mM_endCall_ok : jm_mok mM_endCall := ⟨jw_s10 113 rfl rfl, jq_12.1, jq_12.2.1, jq_12.2.2, jd_1, Nat.le_of_ble_eq_true rfl, (fun h => by cases h), rfl⟩
def mM_readTested : jm_M := (⟨"WhilePressModel", "readTested", "(I)V"⟩, prog_14_method_42_code, 2, none, 12, 1, 0)
theorem mM_readTested_ok : jm_mok mM_readTested := ⟨jw_s10 117 rfl rfl, jq_12.1, jq_12.2.1, jq_12.2.2, jd_4, Nat.le_of_ble_eq_true rfl, (fun h => by cases h), rfl⟩
def mM_readLeave : jm_M := (⟨"WhilePressModel", "readLeave", "(I)V"⟩, prog_14_method_44_code, 4, none, 12, 1, 0)
theorem mM_readLeave_ok : jm_mok mM_readLeave := ⟨jw_s10 121 rfl rfl, jq_12.1, jq_12.2.1, jq_12.2.2, jd_4, Nat.le_of_ble_eq_true rfl, (fun h => by cases h), rfl⟩
def mM_loop : jm_M := (⟨"WhilePressModel", "loop", "()I"⟩, prog_14_method_43_code, 2, (some .int), 12, 0, 0)
theorem mM_loop_ok : jm_mok mM_loop := ⟨jw_s10 125 rfl rfl, jq_12.1, jq_12.2.1, jq_12.2.2, jd_0, Nat.le_of_ble_eq_true rfl, (fun h => by cases h), rfl⟩
def mM_readTold : jm_M := (⟨"WhilePressModel", "readTold", "(I)V"⟩, prog_14_method_46_code, 2, none, 12, 1, 0)
theorem mM_readTold_ok : jm_mok mM_readTold := ⟨jw_s10 129 rfl rfl, jq_12.1, jq_12.2.1, jq_12.2.2, jd_4, Nat.le_of_ble_eq_true rfl, (fun h => by cases h), rfl⟩
def mM_isInDef : jm_M := (⟨"WhilePressModel", "isInDef", "()Z"⟩, prog_14_method_45_code, 3, (some .boolean), 12, 0, 0)
theorem mM_isInDef_ok : jm_mok mM_isInDef := ⟨jw_s10 133 rfl rfl, jq_12.1, jq_12.2.1, jq_12.2.2, jd_2, Nat.le_of_ble_eq_true rfl, (fun h => by cases h), rfl⟩
def mM_readRead : jm_M := (⟨"WhilePressModel", "readRead", "()V"⟩, prog_14_method_47_code, 3, none, 12, 0, 0)
theorem mM_readRead_ok : jm_mok mM_readRead := ⟨jw_s10 137 rfl rfl, jq_12.1, jq_12.2.1, jq_12.2.2, jd_1, Nat.le_of_ble_eq_true rfl, (fun h => by cases h), rfl⟩
def mM_readOperand : jm_M := (⟨"WhilePressModel", "readOperand", "()V"⟩, prog_14_method_50_code, 6, none, 12, 0, 0)
theorem mM_readOperand_ok : jm_mok mM_readOperand := ⟨jw_s10 141 rfl rfl, jq_12.1, jq_12.2.1, jq_12.2.2, jd_1, Nat.le_of_ble_eq_true rfl, (fun h => by cases h), rfl⟩
def mM_beginAll : jm_M := (⟨"WhilePressModel", "beginAll", "()V"⟩, prog_14_method_49_code, 3, none, 12, 0, 0)
theorem mM_beginAll_ok : jm_mok mM_beginAll := ⟨jw_s10 145 rfl rfl, jq_12.1, jq_12.2.1, jq_12.2.2, jd_1, Nat.le_of_ble_eq_true rfl, (fun h => by cases h), rfl⟩
def mM_readBehind : jm_M := (⟨"WhilePressModel", "readBehind", "()V"⟩, prog_14_method_52_code, 3, none, 12, 0, 0)
theorem mM_readBehind_ok : jm_mok mM_readBehind := ⟨jw_s10 149 rfl rfl, jq_12.1, jq_12.2.1, jq_12.2.2, jd_1, Nat.le_of_ble_eq_true rfl, (fun h => by cases h), rfl⟩
def mM_reduce : jm_M := (⟨"WhilePressModel", "reduce", "()V"⟩, prog_14_method_51_code, 3, none, 12, 0, 0)
theorem mM_reduce_ok : jm_mok mM_reduce := ⟨jw_s10 153 rfl rfl, jq_12.1, jq_12.2.1, jq_12.2.2, jd_1, Nat.le_of_ble_eq_true rfl, (fun h => by cases h), rfl⟩
def mM_operationOf : jm_M := (⟨"WhilePressModel", "operationOf", "(I)I"⟩, prog_14_method_28_code, 1, (some .int), 12, 1, 0)
theorem mM_operationOf_ok : jm_mok mM_operationOf := ⟨jw_s10 156 rfl rfl, jq_12.1, jq_12.2.1, jq_12.2.2, jd_3, Nat.le_of_ble_eq_true rfl, (fun h => by cases h), rfl⟩
def mM_strength : jm_M := (⟨"WhilePressModel", "strength", "(I)I"⟩, prog_14_method_27_code, 1, (some .int), 12, 1, 0)
theorem mM_strength_ok : jm_mok mM_strength := ⟨jw_s10 159 rfl rfl, jq_12.1, jq_12.2.1, jq_12.2.2, jd_3, Nat.le_of_ble_eq_true rfl, (fun h => by cases h), rfl⟩
def mM_endExpr : jm_M := (⟨"WhilePressModel", "endExpr", "()V"⟩, prog_14_method_53_code, 5, none, 12, 0, 0)
theorem mM_endExpr_ok : jm_mok mM_endExpr := ⟨jw_s10 163 rfl rfl, jq_12.1, jq_12.2.1, jq_12.2.2, jd_1, Nat.le_of_ble_eq_true rfl, (fun h => by cases h), rfl⟩
def mM_endStatementExpr : jm_M := (⟨"WhilePressModel", "endStatementExpr", "(II)V"⟩, prog_14_method_54_code, 7, none, 12, 2, 0)
theorem mM_endStatementExpr_ok : jm_mok mM_endStatementExpr := ⟨jw_s10 167 rfl rfl, jq_12.1, jq_12.2.1, jq_12.2.2, jd_8, Nat.le_of_ble_eq_true rfl, (fun h => by cases h), rfl⟩
def mM_statementDone : jm_M := (⟨"WhilePressModel", "statementDone", "()V"⟩, prog_14_method_48_code, 5, none, 12, 0, 0)
theorem mM_statementDone_ok : jm_mok mM_statementDone := ⟨jw_s10 171 rfl rfl, jq_12.1, jq_12.2.1, jq_12.2.2, jd_1, Nat.le_of_ble_eq_true rfl, (fun h => by cases h), rfl⟩
def mM_place : jm_M := (⟨"WhilePressModel", "place", "()I"⟩, prog_14_method_57_code, 1, (some .int), 12, 0, 0)
theorem mM_place_ok : jm_mok mM_place := ⟨jw_s10 175 rfl rfl, jq_12.1, jq_12.2.1, jq_12.2.2, jd_0, Nat.le_of_ble_eq_true rfl, (fun h => by cases h), rfl⟩
def mM_input : jm_M := (⟨"WhilePressModel", "input", "(I)I"⟩, prog_14_method_58_code, 2, (some .int), 12, 1, 0)
theorem mM_input_ok : jm_mok mM_input := ⟨jw_s10 179 rfl rfl, jq_12.1, jq_12.2.1, jq_12.2.2, jd_3, Nat.le_of_ble_eq_true rfl, (fun h => by cases h), rfl⟩
def mM_clear : jm_M := (⟨"WhilePressModel", "clear", "()I"⟩, prog_14_method_59_code, 2, (some .int), 12, 0, 0)
theorem mM_clear_ok : jm_mok mM_clear := ⟨jw_s10 183 rfl rfl, jq_12.1, jq_12.2.1, jq_12.2.2, jd_0, Nat.le_of_ble_eq_true rfl, (fun h => by cases h), rfl⟩
def mM_lower : jm_M := (⟨"WhilePressModel", "lower", "()I"⟩, prog_14_method_73_code, 6, (some .int), 12, 0, 0)
theorem mM_lower_ok : jm_mok mM_lower := ⟨jw_s10 187 rfl rfl, jq_12.1, jq_12.2.1, jq_12.2.2, jd_0, Nat.le_of_ble_eq_true rfl, (fun h => by cases h), rfl⟩
def mM_newRegister : jm_M := (⟨"WhilePressModel", "newRegister", "()I"⟩, prog_14_method_66_code, 1, (some .int), 12, 0, 0)
theorem mM_newRegister_ok : jm_mok mM_newRegister := ⟨jw_s10 191 rfl rfl, jq_12.1, jq_12.2.1, jq_12.2.2, jd_0, Nat.le_of_ble_eq_true rfl, (fun h => by cases h), rfl⟩
def mM_lowerCall : jm_M := (⟨"WhilePressModel", "lowerCall", "(II)V"⟩, prog_14_method_74_code, 6, none, 12, 2, 0)
theorem mM_lowerCall_ok : jm_mok mM_lowerCall := ⟨jw_s10 195 rfl rfl, jq_12.1, jq_12.2.1, jq_12.2.2, jd_8, Nat.le_of_ble_eq_true rfl, (fun h => by cases h), rfl⟩
def mM_lay : jm_M := (⟨"WhilePressModel", "lay", "(II)V"⟩, prog_14_method_69_code, 4, none, 12, 2, 0)
theorem mM_lay_ok : jm_mok mM_lay := ⟨jw_s10 199 rfl rfl, jq_12.1, jq_12.2.1, jq_12.2.2, jd_8, Nat.le_of_ble_eq_true rfl, (fun h => by cases h), rfl⟩
def mM_emit : jm_M := (⟨"WhilePressModel", "emit", "(IIIZIZ)I"⟩, prog_14_method_67_code, 7, (some .int), 12, 6, 0)
theorem mM_emit_ok : jm_mok mM_emit := ⟨jw_s10 203 rfl rfl, jq_12.1, jq_12.2.1, jq_12.2.2, jd_16, Nat.le_of_ble_eq_true rfl, (fun h => by cases h), rfl⟩
def mM_landChain : jm_M := (⟨"WhilePressModel", "landChain", "(I)V"⟩, prog_14_method_71_code, 4, none, 12, 1, 0)
theorem mM_landChain_ok : jm_mok mM_landChain := ⟨jw_s10 207 rfl rfl, jq_12.1, jq_12.2.1, jq_12.2.2, jd_4, Nat.le_of_ble_eq_true rfl, (fun h => by cases h), rfl⟩
def mM_giveOperand : jm_M := (⟨"WhilePressModel", "giveOperand", "(IZ)V"⟩, prog_14_method_68_code, 3, none, 12, 2, 0)
theorem mM_giveOperand_ok : jm_mok mM_giveOperand := ⟨jw_s10 211 rfl rfl, jq_12.1, jq_12.2.1, jq_12.2.2, jd_23, Nat.le_of_ble_eq_true rfl, (fun h => by cases h), rfl⟩
def mM_lowerValue : jm_M := (⟨"WhilePressModel", "lowerValue", "(IIZ)V"⟩, prog_14_method_75_code, 6, none, 12, 3, 0)
theorem mM_lowerValue_ok : jm_mok mM_lowerValue := ⟨jw_s10 215 rfl rfl, jq_12.1, jq_12.2.1, jq_12.2.2, jd_20, Nat.le_of_ble_eq_true rfl, (fun h => by cases h), rfl⟩
def mM_openUp : jm_M := (⟨"WhilePressModel", "openUp", "(III)V"⟩, prog_14_method_70_code, 4, none, 12, 3, 0)
theorem mM_openUp_ok : jm_mok mM_openUp := ⟨jw_s10 219 rfl rfl, jq_12.1, jq_12.2.1, jq_12.2.2, jd_11, Nat.le_of_ble_eq_true rfl, (fun h => by cases h), rfl⟩
def mM_lowerStep : jm_M := (⟨"WhilePressModel", "lowerStep", "(II)V"⟩, prog_14_method_76_code, 12, none, 12, 2, 0)
theorem mM_lowerStep_ok : jm_mok mM_lowerStep := ⟨jw_s10 223 rfl rfl, jq_12.1, jq_12.2.1, jq_12.2.2, jd_8, Nat.le_of_ble_eq_true rfl, (fun h => by cases h), rfl⟩
def mM_loopOpen : jm_M := (⟨"WhilePressModel", "loopOpen", "()I"⟩, prog_14_method_72_code, 2, (some .int), 12, 0, 0)
theorem mM_loopOpen_ok : jm_mok mM_loopOpen := ⟨jw_s10 227 rfl rfl, jq_12.1, jq_12.2.1, jq_12.2.2, jd_0, Nat.le_of_ble_eq_true rfl, (fun h => by cases h), rfl⟩
def mM_improve : jm_M := (⟨"WhilePressModel", "improve", "()I"⟩, prog_14_method_102_code, 3, (some .int), 12, 0, 0)
theorem mM_improve_ok : jm_mok mM_improve := ⟨jw_s10 231 rfl rfl, jq_12.1, jq_12.2.1, jq_12.2.2, jd_0, Nat.le_of_ble_eq_true rfl, (fun h => by cases h), rfl⟩
def mM_putConstants : jm_M := (⟨"WhilePressModel", "putConstants", "(I)V"⟩, prog_14_method_87_code, 6, none, 12, 1, 0)
theorem mM_putConstants_ok : jm_mok mM_putConstants := ⟨jw_s10 235 rfl rfl, jq_12.1, jq_12.2.1, jq_12.2.2, jd_4, Nat.le_of_ble_eq_true rfl, (fun h => by cases h), rfl⟩
def mM_findKnown : jm_M := (⟨"WhilePressModel", "findKnown", "(II)V"⟩, prog_14_method_86_code, 9, none, 12, 2, 0)
theorem mM_findKnown_ok : jm_mok mM_findKnown := ⟨jw_s10 239 rfl rfl, jq_12.1, jq_12.2.1, jq_12.2.2, jd_8, Nat.le_of_ble_eq_true rfl, (fun h => by cases h), rfl⟩
def mM_make : jm_M := (⟨"WhilePressModel", "make", "(II)V"⟩, prog_14_method_84_code, 6, none, 12, 2, 0)
theorem mM_make_ok : jm_mok mM_make := ⟨jw_s11 3 rfl rfl, jq_12.1, jq_12.2.1, jq_12.2.2, jd_8, Nat.le_of_ble_eq_true rfl, (fun h => by cases h), rfl⟩
def mM_isSure : jm_M := (⟨"WhilePressModel", "isSure", "(IIZ)Z"⟩, prog_14_method_82_code, 4, (some .boolean), 12, 3, 0)
theorem mM_isSure_ok : jm_mok mM_isSure := ⟨jw_s11 7 rfl rfl, jq_12.1, jq_12.2.1, jq_12.2.2, jd_21, Nat.le_of_ble_eq_true rfl, (fun h => by cases h), rfl⟩
def mM_whatOf : jm_M := (⟨"WhilePressModel", "whatOf", "(IIZ)I"⟩, prog_14_method_83_code, 4, (some .int), 12, 3, 0)
theorem mM_whatOf_ok : jm_mok mM_whatOf := ⟨jw_s11 11 rfl rfl, jq_12.1, jq_12.2.1, jq_12.2.2, jd_19, Nat.le_of_ble_eq_true rfl, (fun h => by cases h), rfl⟩
def mM_one : jm_M := (⟨"WhilePressModel", "one", "(II)I"⟩, prog_14_method_61_code, 2, (some .int), 12, 2, 0)
theorem mM_one_ok : jm_mok mM_one := ⟨jw_s11 14 rfl rfl, jq_12.1, jq_12.2.1, jq_12.2.2, jd_6, Nat.le_of_ble_eq_true rfl, (fun h => by cases h), rfl⟩
def mM_isByNothing : jm_M := (⟨"WhilePressModel", "isByNothing", "(II)Z"⟩, prog_14_method_62_code, 2, (some .boolean), 12, 2, 0)
theorem mM_isByNothing_ok : jm_mok mM_isByNothing := ⟨jw_s11 17 rfl rfl, jq_12.1, jq_12.2.1, jq_12.2.2, jd_9, Nat.le_of_ble_eq_true rfl, (fun h => by cases h), rfl⟩
def mM_two : jm_M := (⟨"WhilePressModel", "two", "(III)I"⟩, prog_14_method_60_code, 3, (some .int), 12, 3, 0)
theorem mM_two_ok : jm_mok mM_two := ⟨jw_s11 20 rfl rfl, jq_12.1, jq_12.2.1, jq_12.2.2, jd_10, Nat.le_of_ble_eq_true rfl, (fun h => by cases h), rfl⟩
def mM_goesOn : jm_M := (⟨"WhilePressModel", "goesOn", "(I)Z"⟩, prog_14_method_80_code, 2, (some .boolean), 12, 1, 0)
theorem mM_goesOn_ok : jm_mok mM_goesOn := ⟨jw_s11 24 rfl rfl, jq_12.1, jq_12.2.1, jq_12.2.2, jd_5, Nat.le_of_ble_eq_true rfl, (fun h => by cases h), rfl⟩
def mM_flow : jm_M := (⟨"WhilePressModel", "flow", "(III)V"⟩, prog_14_method_85_code, 11, none, 12, 3, 0)
theorem mM_flow_ok : jm_mok mM_flow := ⟨jw_s11 28 rfl rfl, jq_12.1, jq_12.2.1, jq_12.2.2, jd_11, Nat.le_of_ble_eq_true rfl, (fun h => by cases h), rfl⟩
def mM_defines : jm_M := (⟨"WhilePressModel", "defines", "(I)Z"⟩, prog_14_method_77_code, 2, (some .boolean), 12, 1, 0)
theorem mM_defines_ok : jm_mok mM_defines := ⟨jw_s11 32 rfl rfl, jq_12.1, jq_12.2.1, jq_12.2.2, jd_5, Nat.le_of_ble_eq_true rfl, (fun h => by cases h), rfl⟩
def mM_leaps : jm_M := (⟨"WhilePressModel", "leaps", "(I)Z"⟩, prog_14_method_81_code, 2, (some .boolean), 12, 1, 0)
theorem mM_leaps_ok : jm_mok mM_leaps := ⟨jw_s11 36 rfl rfl, jq_12.1, jq_12.2.1, jq_12.2.2, jd_5, Nat.le_of_ble_eq_true rfl, (fun h => by cases h), rfl⟩
def mM_usesA : jm_M := (⟨"WhilePressModel", "usesA", "(I)Z"⟩, prog_14_method_78_code, 3, (some .boolean), 12, 1, 0)
theorem mM_usesA_ok : jm_mok mM_usesA := ⟨jw_s11 40 rfl rfl, jq_12.1, jq_12.2.1, jq_12.2.2, jd_5, Nat.le_of_ble_eq_true rfl, (fun h => by cases h), rfl⟩
def mM_usesB : jm_M := (⟨"WhilePressModel", "usesB", "(I)Z"⟩, prog_14_method_79_code, 3, (some .boolean), 12, 1, 0)
theorem mM_usesB_ok : jm_mok mM_usesB := ⟨jw_s11 44 rfl rfl, jq_12.1, jq_12.2.1, jq_12.2.2, jd_5, Nat.le_of_ble_eq_true rfl, (fun h => by cases h), rfl⟩
def mM_putCopies : jm_M := (⟨"WhilePressModel", "putCopies", "(I)V"⟩, prog_14_method_92_code, 9, none, 12, 1, 0)
theorem mM_putCopies_ok : jm_mok mM_putCopies := ⟨jw_s11 48 rfl rfl, jq_12.1, jq_12.2.1, jq_12.2.2, jd_4, Nat.le_of_ble_eq_true rfl, (fun h => by cases h), rfl⟩
def mM_findHeld : jm_M := (⟨"WhilePressModel", "findHeld", "(I)V"⟩, prog_14_method_91_code, 5, none, 12, 1, 0)
theorem mM_findHeld_ok : jm_mok mM_findHeld := ⟨jw_s11 52 rfl rfl, jq_12.1, jq_12.2.1, jq_12.2.2, jd_4, Nat.le_of_ble_eq_true rfl, (fun h => by cases h), rfl⟩
def mM_isExpr : jm_M := (⟨"WhilePressModel", "isExpr", "(IIIZIZ)Z"⟩, prog_14_method_88_code, 7, (some .boolean), 12, 6, 0)
theorem mM_isExpr_ok : jm_mok mM_isExpr := ⟨jw_s11 56 rfl rfl, jq_12.1, jq_12.2.1, jq_12.2.2, jd_17, Nat.le_of_ble_eq_true rfl, (fun h => by cases h), rfl⟩
def mM_hand : jm_M := (⟨"WhilePressModel", "hand", "(II)V"⟩, prog_14_method_90_code, 10, none, 12, 2, 0)
theorem mM_hand_ok : jm_mok mM_hand := ⟨jw_s11 60 rfl rfl, jq_12.1, jq_12.2.1, jq_12.2.2, jd_8, Nat.le_of_ble_eq_true rfl, (fun h => by cases h), rfl⟩
def mM_has : jm_M := (⟨"WhilePressModel", "has", "(II)Z"⟩, prog_14_method_89_code, 3, (some .boolean), 12, 2, 0)
theorem mM_has_ok : jm_mok mM_has := ⟨jw_s11 64 rfl rfl, jq_12.1, jq_12.2.1, jq_12.2.2, jd_9, Nat.le_of_ble_eq_true rfl, (fun h => by cases h), rfl⟩
def mM_leaveOut : jm_M := (⟨"WhilePressModel", "leaveOut", "()V"⟩, prog_14_method_93_code, 5, none, 12, 0, 0)
theorem mM_leaveOut_ok : jm_mok mM_leaveOut := ⟨jw_s11 68 rfl rfl, jq_12.1, jq_12.2.1, jq_12.2.2, jd_1, Nat.le_of_ble_eq_true rfl, (fun h => by cases h), rfl⟩
def mM_putOutDead : jm_M := (⟨"WhilePressModel", "putOutDead", "(I)V"⟩, prog_14_method_96_code, 5, none, 12, 1, 0)
theorem mM_putOutDead_ok : jm_mok mM_putOutDead := ⟨jw_s11 72 rfl rfl, jq_12.1, jq_12.2.1, jq_12.2.2, jd_4, Nat.le_of_ble_eq_true rfl, (fun h => by cases h), rfl⟩
def mM_findLive : jm_M := (⟨"WhilePressModel", "findLive", "(II)V"⟩, prog_14_method_95_code, 7, none, 12, 2, 0)
theorem mM_findLive_ok : jm_mok mM_findLive := ⟨jw_s11 76 rfl rfl, jq_12.1, jq_12.2.1, jq_12.2.2, jd_8, Nat.le_of_ble_eq_true rfl, (fun h => by cases h), rfl⟩
def mM_isWanted : jm_M := (⟨"WhilePressModel", "isWanted", "(IIII)Z"⟩, prog_14_method_94_code, 6, (some .boolean), 12, 4, 0)
theorem mM_isWanted_ok : jm_mok mM_isWanted := ⟨jw_s11 80 rfl rfl, jq_12.1, jq_12.2.1, jq_12.2.2, jd_13, Nat.le_of_ble_eq_true rfl, (fun h => by cases h), rfl⟩
def mM_isCell : jm_M := (⟨"WhilePressModel", "isCell", "(II)Z"⟩, prog_14_method_64_code, 3, (some .boolean), 12, 2, 0)
theorem mM_isCell_ok : jm_mok mM_isCell := ⟨jw_s11 84 rfl rfl, jq_12.1, jq_12.2.1, jq_12.2.2, jd_9, Nat.le_of_ble_eq_true rfl, (fun h => by cases h), rfl⟩
def mM_putJumps : jm_M := (⟨"WhilePressModel", "putJumps", "()V"⟩, prog_14_method_100_code, 5, none, 12, 0, 0)
theorem mM_putJumps_ok : jm_mok mM_putJumps := ⟨jw_s11 88 rfl rfl, jq_12.1, jq_12.2.1, jq_12.2.2, jd_1, Nat.le_of_ble_eq_true rfl, (fun h => by cases h), rfl⟩
def mM_leaveUnreached : jm_M := (⟨"WhilePressModel", "leaveUnreached", "()V"⟩, prog_14_method_98_code, 2, none, 12, 0, 0)
theorem mM_leaveUnreached_ok : jm_mok mM_leaveUnreached := ⟨jw_s11 92 rfl rfl, jq_12.1, jq_12.2.1, jq_12.2.2, jd_1, Nat.le_of_ble_eq_true rfl, (fun h => by cases h), rfl⟩
def mM_findReached : jm_M := (⟨"WhilePressModel", "findReached", "(I)V"⟩, prog_14_method_97_code, 5, none, 12, 1, 0)
theorem mM_findReached_ok : jm_mok mM_findReached := ⟨jw_s11 96 rfl rfl, jq_12.1, jq_12.2.1, jq_12.2.2, jd_4, Nat.le_of_ble_eq_true rfl, (fun h => by cases h), rfl⟩
def mM_leads : jm_M := (⟨"WhilePressModel", "leads", "(I)I"⟩, prog_14_method_99_code, 3, (some .int), 12, 1, 0)
theorem mM_leads_ok : jm_mok mM_leads := ⟨jw_s11 100 rfl rfl, jq_12.1, jq_12.2.1, jq_12.2.2, jd_3, Nat.le_of_ble_eq_true rfl, (fun h => by cases h), rfl⟩
def mM_findColours : jm_M := (⟨"WhilePressModel", "findColours", "()V"⟩, prog_14_method_101_code, 5, none, 12, 0, 0)
theorem mM_findColours_ok : jm_mok mM_findColours := ⟨jw_s11 104 rfl rfl, jq_12.1, jq_12.2.1, jq_12.2.2, jd_1, Nat.le_of_ble_eq_true rfl, (fun h => by cases h), rfl⟩
def mM_code : jm_M := (⟨"WhilePressModel", "code", "(ZII)I"⟩, prog_14_method_103_code, 5, (some .int), 12, 3, 0)
theorem mM_code_ok : jm_mok mM_code := ⟨jw_s11 108 rfl rfl, jq_12.1, jq_12.2.1, jq_12.2.2, jd_45, Nat.le_of_ble_eq_true rfl, (fun h => by cases h), rfl⟩
def mM_isKnown : jm_M := (⟨"WhilePressModel", "isKnown", "(II)Z"⟩, prog_14_method_105_code, 3, (some .boolean), 12, 2, 0)
theorem mM_isKnown_ok : jm_mok mM_isKnown := ⟨jw_s11 112 rfl rfl, jq_12.1, jq_12.2.1, jq_12.2.2, jd_9, Nat.le_of_ble_eq_true rfl, (fun h => by cases h), rfl⟩
def mM_looksUp : jm_M := (⟨"WhilePressModel", "looksUp", "(II)Z"⟩, prog_14_method_104_code, 3, (some .boolean), 12, 2, 0)
theorem mM_looksUp_ok : jm_mok mM_looksUp := ⟨jw_s11 116 rfl rfl, jq_12.1, jq_12.2.1, jq_12.2.2, jd_9, Nat.le_of_ble_eq_true rfl, (fun h => by cases h), rfl⟩
def mM_known : jm_M := (⟨"WhilePressModel", "known", "(II)I"⟩, prog_14_method_106_code, 3, (some .int), 12, 2, 0)
theorem mM_known_ok : jm_mok mM_known := ⟨jw_s11 120 rfl rfl, jq_12.1, jq_12.2.1, jq_12.2.2, jd_6, Nat.le_of_ble_eq_true rfl, (fun h => by cases h), rfl⟩
def mM_isLive : jm_M := (⟨"WhilePressModel", "isLive", "(ZII)Z"⟩, prog_14_method_107_code, 4, (some .boolean), 12, 3, 0)
theorem mM_isLive_ok : jm_mok mM_isLive := ⟨jw_s11 124 rfl rfl, jq_12.1, jq_12.2.1, jq_12.2.2, jd_47, Nat.le_of_ble_eq_true rfl, (fun h => by cases h), rfl⟩
def mM_colour : jm_M := (⟨"WhilePressModel", "colour", "(I)I"⟩, prog_14_method_108_code, 2, (some .int), 12, 1, 0)
theorem mM_colour_ok : jm_mok mM_colour := ⟨jw_s11 128 rfl rfl, jq_12.1, jq_12.2.1, jq_12.2.2, jd_3, Nat.le_of_ble_eq_true rfl, (fun h => by cases h), rfl⟩
def mM_run : jm_M := (⟨"WhilePressModel", "run", "(II)I"⟩, prog_14_method_113_code, 3, (some .int), 12, 2, 0)
theorem mM_run_ok : jm_mok mM_run := ⟨jw_s11 132 rfl rfl, jq_12.1, jq_12.2.1, jq_12.2.2, jd_6, Nat.le_of_ble_eq_true rfl, (fun h => by cases h), rfl⟩
def mM_beginRun : jm_M := (⟨"WhilePressModel", "beginRun", "()V"⟩, prog_14_method_63_code, 2, none, 12, 0, 0)
theorem mM_beginRun_ok : jm_mok mM_beginRun := ⟨jw_s11 137 rfl rfl, jq_12.1, jq_12.2.1, jq_12.2.2, jd_1, Nat.le_of_ble_eq_true rfl, (fun h => by cases h), rfl⟩
def mM_runText : jm_M := (⟨"WhilePressModel", "runText", "(I)I"⟩, prog_14_method_65_code, 9, (some .int), 12, 1, 0)
theorem mM_runText_ok : jm_mok mM_runText := ⟨jw_s11 141 rfl rfl, jq_12.1, jq_12.2.1, jq_12.2.2, jd_3, Nat.le_of_ble_eq_true rfl, (fun h => by cases h), rfl⟩
def mM_runCode : jm_M := (⟨"WhilePressModel", "runCode", "(II)I"⟩, prog_14_method_112_code, 6, (some .int), 12, 2, 0)
theorem mM_runCode_ok : jm_mok mM_runCode := ⟨jw_s11 145 rfl rfl, jq_12.1, jq_12.2.1, jq_12.2.2, jd_6, Nat.le_of_ble_eq_true rfl, (fun h => by cases h), rfl⟩
def mM_valueA : jm_M := (⟨"WhilePressModel", "valueA", "(I)I"⟩, prog_14_method_110_code, 2, (some .int), 12, 1, 0)
theorem mM_valueA_ok : jm_mok mM_valueA := ⟨jw_s11 149 rfl rfl, jq_12.1, jq_12.2.1, jq_12.2.2, jd_3, Nat.le_of_ble_eq_true rfl, (fun h => by cases h), rfl⟩
def mM_slotOf : jm_M := (⟨"WhilePressModel", "slotOf", "(I)I"⟩, prog_14_method_109_code, 2, (some .int), 12, 1, 0)
theorem mM_slotOf_ok : jm_mok mM_slotOf := ⟨jw_s11 153 rfl rfl, jq_12.1, jq_12.2.1, jq_12.2.2, jd_3, Nat.le_of_ble_eq_true rfl, (fun h => by cases h), rfl⟩
def mM_valueB : jm_M := (⟨"WhilePressModel", "valueB", "(I)I"⟩, prog_14_method_111_code, 2, (some .int), 12, 1, 0)
theorem mM_valueB_ok : jm_mok mM_valueB := ⟨jw_s11 157 rfl rfl, jq_12.1, jq_12.2.1, jq_12.2.2, jd_3, Nat.le_of_ble_eq_true rfl, (fun h => by cases h), rfl⟩
def mM_printed : jm_M := (⟨"WhilePressModel", "printed", "(I)I"⟩, prog_14_method_114_code, 2, (some .int), 12, 1, 0)
theorem mM_printed_ok : jm_mok mM_printed := ⟨jw_s11 161 rfl rfl, jq_12.1, jq_12.2.1, jq_12.2.2, jd_3, Nat.le_of_ble_eq_true rfl, (fun h => by cases h), rfl⟩
def mM_told : jm_M := (⟨"WhilePressModel", "told", "(I)I"⟩, prog_14_method_115_code, 2, (some .int), 12, 1, 0)
theorem mM_told_ok : jm_mok mM_told := ⟨jw_s11 165 rfl rfl, jq_12.1, jq_12.2.1, jq_12.2.2, jd_3, Nat.le_of_ble_eq_true rfl, (fun h => by cases h), rfl⟩
