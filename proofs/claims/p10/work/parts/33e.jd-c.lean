/-! DECODED INSTRUCTIONS: by the number of a method -/
def jde (t pc : Nat) : Option (Instr × Nat) := (bif Nat.blt t 53 then (bif Nat.blt t 27 then (bif Nat.blt t 14 then (bif Nat.blt t 7 then (bif Nat.blt t 4 then (bif Nat.blt t 2 then (bif Nat.beq t 1 then jde_1 pc else none) else (bif Nat.blt t 3 then (bif Nat.beq t 2 then jde_2 pc else none) else (bif Nat.beq t 3 then jde_3 pc else none))) else (bif Nat.blt t 5 then (bif Nat.beq t 4 then jde_4 pc else none) else (bif Nat.blt t 6 then (bif Nat.beq t 5 then jde_5 pc else none) else (bif Nat.beq t 6 then jde_6 pc else none)))) else (bif Nat.blt t 10 then (bif Nat.blt t 8 then (bif Nat.beq t 7 then jde_7 pc else none) else (bif Nat.blt t 9 then (bif Nat.beq t 8 then jde_8 pc else none) else (bif Nat.beq t 9 then jde_9 pc else none))) else (bif Nat.blt t 12 then (bif Nat.blt t 11 then (bif Nat.beq t 10 then jde_10 pc else none) else (bif Nat.beq t 11 then jde_11 pc else none)) else (bif Nat.blt t 13 then (bif Nat.beq t 12 then jde_12 pc else none) else (bif Nat.beq t 13 then jde_13 pc else none))))) else (bif Nat.blt t 20 then (bif Nat.blt t 17 then (bif Nat.blt t 15 then (bif Nat.beq t 14 then jde_14 pc else none) else (bif Nat.blt t 16 then (bif Nat.beq t 15 then jde_15 pc else none) else (bif Nat.beq t 16 then jde_16 pc else none))) else (bif Nat.blt t 18 then (bif Nat.beq t 17 then jde_17 pc else none) else (bif Nat.blt t 19 then (bif Nat.beq t 18 then jde_18 pc else none) else (bif Nat.beq t 19 then jde_19 pc else none)))) else (bif Nat.blt t 23 then (bif Nat.blt t 21 then (bif Nat.beq t 20 then jde_20 pc else none) else (bif Nat.blt t 22 then (bif Nat.beq t 21 then jde_21 pc else none) else (bif Nat.beq t 22 then jde_22 pc else none))) else (bif Nat.blt t 25 then (bif Nat.blt t 24 then (bif Nat.beq t 23 then jde_23 pc else none) else (bif Nat.beq t 24 then jde_24 pc else none)) else (bif Nat.blt t 26 then (bif Nat.beq t 25 then jde_25 pc else none) else (bif Nat.beq t 26 then jde_26 pc else none)))))) else (bif Nat.blt t 40 then (bif Nat.blt t 33 then (bif Nat.blt t 30 then (bif Nat.blt t 28 then (bif Nat.beq t 27 then jde_27 pc else none) else (bif Nat.blt t 29 then (bif Nat.beq t 28 then jde_28 pc else none) else (bif Nat.beq t 29 then jde_29 pc else none))) else (bif Nat.blt t 31 then (bif Nat.beq t 30 then jde_30 pc else none) else (bif Nat.blt t 32 then (bif Nat.beq t 31 then jde_31 pc else none) else (bif Nat.beq t 32 then jde_32 pc else none)))) else (bif Nat.blt t 36 then (bif Nat.blt t 34 then (bif Nat.beq t 33 then jde_33 pc else none) else (bif Nat.blt t 35 then (bif Nat.beq t 34 then jde_34 pc else none) else (bif Nat.beq t 35 then jde_35 pc else none))) else (bif Nat.blt t 38 then (bif Nat.blt t 37 then (bif Nat.beq t 36 then jde_36 pc else none) else (bif Nat.beq t 37 then jde_37 pc else none)) else (bif Nat.blt t 39 then (bif Nat.beq t 38 then jde_38 pc else none) else (bif Nat.beq t 39 then jde_39 pc else none))))) else (bif Nat.blt t 46 then (bif Nat.blt t 43 then (bif Nat.blt t 41 then (bif Nat.beq t 40 then jde_40 pc else none) else (bif Nat.blt t 42 then (bif Nat.beq t 41 then jde_41 pc else none) else (bif Nat.beq t 42 then jde_42 pc else none))) else (bif Nat.blt t 44 then (bif Nat.beq t 43 then jde_43 pc else none) else (bif Nat.blt t 45 then (bif Nat.beq t 44 then jde_44 pc else none) else (bif Nat.beq t 45 then jde_45 pc else none)))) else (bif Nat.blt t 49 then (bif Nat.blt t 47 then (bif Nat.beq t 46 then jde_46 pc else none) else (bif Nat.blt t 48 then (bif Nat.beq t 47 then jde_47 pc else none) else (bif Nat.beq t 48 then jde_48 pc else none))) else (bif Nat.blt t 51 then (bif Nat.blt t 50 then (bif Nat.beq t 49 then jde_49 pc else none) else (bif Nat.beq t 50 then jde_50 pc else none)) else (bif Nat.blt t 52 then (bif Nat.beq t 51 then jde_51 pc else none) else (bif Nat.beq t 52 then jde_52 pc else none))))))) else (bif Nat.blt t 79 then (bif Nat.blt t 66 then (bif Nat.blt t 59 then (bif Nat.blt t 56 then (bif Nat.blt t 54 then (bif Nat.beq t 53 then jde_53 pc else none) else (bif Nat.blt t 55 then (bif Nat.beq t 54 then jde_54 pc else none) else (bif Nat.beq t 55 then jde_55 pc else none))) else (bif Nat.blt t 57 then (bif Nat.beq t 56 then jde_56 pc else none) else (bif Nat.blt t 58 then (bif Nat.beq t 57 then jde_57 pc else none) else (bif Nat.beq t 58 then jde_58 pc else none)))) else (bif Nat.blt t 62 then (bif Nat.blt t 60 then (bif Nat.beq t 59 then jde_59 pc else none) else (bif Nat.blt t 61 then (bif Nat.beq t 60 then jde_60 pc else none) else (bif Nat.beq t 61 then jde_61 pc else none))) else (bif Nat.blt t 64 then (bif Nat.blt t 63 then (bif Nat.beq t 62 then jde_62 pc else none) else (bif Nat.beq t 63 then jde_63 pc else none)) else (bif Nat.blt t 65 then (bif Nat.beq t 64 then jde_64 pc else none) else (bif Nat.beq t 65 then jde_65 pc else none))))) else (bif Nat.blt t 72 then (bif Nat.blt t 69 then (bif Nat.blt t 67 then (bif Nat.beq t 66 then jde_66 pc else none) else (bif Nat.blt t 68 then (bif Nat.beq t 67 then jde_67 pc else none) else (bif Nat.beq t 68 then jde_68 pc else none))) else (bif Nat.blt t 70 then (bif Nat.beq t 69 then jde_69 pc else none) else (bif Nat.blt t 71 then (bif Nat.beq t 70 then jde_70 pc else none) else (bif Nat.beq t 71 then jde_71 pc else none)))) else (bif Nat.blt t 75 then (bif Nat.blt t 73 then (bif Nat.beq t 72 then jde_72 pc else none) else (bif Nat.blt t 74 then (bif Nat.beq t 73 then jde_73 pc else none) else (bif Nat.beq t 74 then jde_74 pc else none))) else (bif Nat.blt t 77 then (bif Nat.blt t 76 then (bif Nat.beq t 75 then jde_75 pc else none) else (bif Nat.beq t 76 then jde_76 pc else none)) else (bif Nat.blt t 78 then (bif Nat.beq t 77 then jde_77 pc else none) else (bif Nat.beq t 78 then jde_78 pc else none)))))) else (bif Nat.blt t 92 then (bif Nat.blt t 85 then (bif Nat.blt t 82 then (bif Nat.blt t 80 then (bif Nat.beq t 79 then jde_79 pc else none) else (bif Nat.blt t 81 then (bif Nat.beq t 80 then jde_80 pc else none) else (bif Nat.beq t 81 then jde_81 pc else none))) else (bif Nat.blt t 83 then (bif Nat.beq t 82 then jde_82 pc else none) else (bif Nat.blt t 84 then (bif Nat.beq t 83 then jde_83 pc else none) else (bif Nat.beq t 84 then jde_84 pc else none)))) else (bif Nat.blt t 88 then (bif Nat.blt t 86 then (bif Nat.beq t 85 then jde_85 pc else none) else (bif Nat.blt t 87 then (bif Nat.beq t 86 then jde_86 pc else none) else (bif Nat.beq t 87 then jde_87 pc else none))) else (bif Nat.blt t 90 then (bif Nat.blt t 89 then (bif Nat.beq t 88 then jde_88 pc else none) else (bif Nat.beq t 89 then jde_89 pc else none)) else (bif Nat.blt t 91 then (bif Nat.beq t 90 then jde_90 pc else none) else (bif Nat.beq t 91 then jde_91 pc else none))))) else (bif Nat.blt t 99 then (bif Nat.blt t 95 then (bif Nat.blt t 93 then (bif Nat.beq t 92 then jde_92 pc else none) else (bif Nat.blt t 94 then (bif Nat.beq t 93 then jde_93 pc else none) else (bif Nat.beq t 94 then jde_94 pc else none))) else (bif Nat.blt t 97 then (bif Nat.blt t 96 then (bif Nat.beq t 95 then jde_95 pc else none) else (bif Nat.beq t 96 then jde_96 pc else none)) else (bif Nat.blt t 98 then (bif Nat.beq t 97 then jde_97 pc else none) else (bif Nat.beq t 98 then jde_98 pc else none)))) else (bif Nat.blt t 102 then (bif Nat.blt t 100 then (bif Nat.beq t 99 then jde_99 pc else none) else (bif Nat.blt t 101 then (bif Nat.beq t 100 then jde_100 pc else none) else (bif Nat.beq t 101 then jde_101 pc else none))) else (bif Nat.blt t 104 then (bif Nat.blt t 103 then (bif Nat.beq t 102 then jde_102 pc else none) else (bif Nat.beq t 103 then jde_103 pc else none)) else (bif Nat.blt t 105 then (bif Nat.beq t 104 then jde_104 pc else none) else (bif Nat.beq t 105 then jde_105 pc else none))))))))
def jde_ok (t : Nat) (M : jm_M) : Prop := ∀ pc r, jde t pc = some r → decode M.2.1 pc = .ok r
theorem jde_ok_0 (M : jm_M) : jde_ok 0 M := fun pc r h => by cases h
theorem jde_ok_1 : jde_ok 1 mL_law := fun pc r h => jde_1_ok pc r h
theorem jde_ok_2 : jde_ok 2 mP_init := fun pc r h => jde_2_ok pc r h
theorem jde_ok_3 : jde_ok 3 mP_feed := fun pc r h => jde_3_ok pc r h
theorem jde_ok_4 : jde_ok 4 mP_isLive := fun pc r h => jde_4_ok pc r h
theorem jde_ok_5 : jde_ok 5 mP_lower := fun pc r h => jde_5_ok pc r h
theorem jde_ok_6 : jde_ok 6 mP_read := fun pc r h => jde_6_ok pc r h
theorem jde_ok_7 : jde_ok 7 mCo_init := fun pc r h => jde_7_ok pc r h
theorem jde_ok_8 : jde_ok 8 mCo_add := fun pc r h => jde_8_ok pc r h
theorem jde_ok_9 : jde_ok 9 mCo_begin := fun pc r h => jde_9_ok pc r h
theorem jde_ok_10 : jde_ok 10 mCo_defines := fun pc r h => jde_10_ok pc r h
theorem jde_ok_11 : jde_ok 11 mCo_fits := fun pc r h => jde_11_ok pc r h
theorem jde_ok_12 : jde_ok 12 mCo_goesOn := fun pc r h => jde_12_ok pc r h
theorem jde_ok_13 : jde_ok 13 mCo_leaps := fun pc r h => jde_13_ok pc r h
theorem jde_ok_14 : jde_ok 14 mCo_leapsInside := fun pc r h => jde_14_ok pc r h
theorem jde_ok_15 : jde_ok 15 mCo_put := fun pc r h => jde_15_ok pc r h
theorem jde_ok_16 : jde_ok 16 mCo_usesA := fun pc r h => jde_16_ok pc r h
theorem jde_ok_17 : jde_ok 17 mCo_usesB := fun pc r h => jde_17_ok pc r h
theorem jde_ok_18 : jde_ok 18 mHo_init := fun pc r h => jde_18_ok pc r h
theorem jde_ok_19 : jde_ok 19 mIm_init := fun pc r h => jde_19_ok pc r h
theorem jde_ok_20 : jde_ok 20 mKn_init := fun pc r h => jde_20_ok pc r h
theorem jde_ok_21 : jde_ok 21 mLi_init := fun pc r h => jde_21_ok pc r h
theorem jde_ok_22 : jde_ok 22 mLi_find := fun pc r h => jde_22_ok pc r h
theorem jde_ok_23 : jde_ok 23 mLi_join := fun pc r h => jde_23_ok pc r h
theorem jde_ok_24 : jde_ok 24 mLi_look := fun pc r h => jde_24_ok pc r h
theorem jde_ok_25 : jde_ok 25 mMa_init := fun pc r h => jde_25_ok pc r h
theorem jde_ok_26 : jde_ok 26 mMa_arrive := fun pc r h => jde_26_ok pc r h
theorem jde_ok_27 : jde_ok 27 mMa_leap := fun pc r h => jde_27_ok pc r h
theorem jde_ok_28 : jde_ok 28 mMa_make := fun pc r h => jde_28_ok pc r h
theorem jde_ok_29 : jde_ok 29 mMa_pop := fun pc r h => jde_29_ok pc r h
theorem jde_ok_30 : jde_ok 30 mMa_push := fun pc r h => jde_30_ok pc r h
theorem jde_ok_31 : jde_ok 31 mMa_takeStep := fun pc r h => jde_31_ok pc r h
theorem jde_ok_32 : jde_ok 32 mMa_test := fun pc r h => jde_32_ok pc r h
theorem jde_ok_33 : jde_ok 33 mNa_init := fun pc r h => jde_33_ok pc r h
theorem jde_ok_34 : jde_ok 34 mNa_forget := fun pc r h => jde_34_ok pc r h
theorem jde_ok_35 : jde_ok 35 mRe_init := fun pc r h => jde_35_ok pc r h
theorem jde_ok_36 : jde_ok 36 mRe_begin := fun pc r h => jde_36_ok pc r h
theorem jde_ok_37 : jde_ok 37 mRe_beginStatements := fun pc r h => jde_37_ok pc r h
theorem jde_ok_38 : jde_ok 38 mRe_closeRound := fun pc r h => jde_38_ok pc r h
theorem jde_ok_39 : jde_ok 39 mRe_expect := fun pc r h => jde_39_ok pc r h
theorem jde_ok_40 : jde_ok 40 mRe_finish := fun pc r h => jde_40_ok pc r h
theorem jde_ok_41 : jde_ok 41 mRe_go := fun pc r h => jde_41_ok pc r h
theorem jde_ok_42 : jde_ok 42 mRe_hasMore := fun pc r h => jde_42_ok pc r h
theorem jde_ok_43 : jde_ok 43 mRe_isAtDecl := fun pc r h => jde_43_ok pc r h
theorem jde_ok_44 : jde_ok 44 mRe_isBinary := fun pc r h => jde_44_ok pc r h
theorem jde_ok_45 : jde_ok 45 mRe_kind := fun pc r h => jde_45_ok pc r h
theorem jde_ok_46 : jde_ok 46 mRe_openOne := fun pc r h => jde_46_ok pc r h
theorem jde_ok_47 : jde_ok 47 mRe_openRound := fun pc r h => jde_47_ok pc r h
theorem jde_ok_48 : jde_ok 48 mRe_pend := fun pc r h => jde_48_ok pc r h
theorem jde_ok_49 : jde_ok 49 mRe_settle := fun pc r h => jde_49_ok pc r h
theorem jde_ok_50 : jde_ok 50 mRe_statement := fun pc r h => jde_50_ok pc r h
theorem jde_ok_51 : jde_ok 51 mRe_takeBlock := fun pc r h => jde_51_ok pc r h
theorem jde_ok_52 : jde_ok 52 mRe_takeClosing := fun pc r h => jde_52_ok pc r h
theorem jde_ok_53 : jde_ok 53 mRe_takeDo := fun pc r h => jde_53_ok pc r h
theorem jde_ok_54 : jde_ok 54 mRe_takeExpr := fun pc r h => jde_54_ok pc r h
theorem jde_ok_55 : jde_ok 55 mRe_takeItems := fun pc r h => jde_55_ok pc r h
theorem jde_ok_56 : jde_ok 56 mRe_takeLeave := fun pc r h => jde_56_ok pc r h
theorem jde_ok_57 : jde_ok 57 mRe_takeOperand := fun pc r h => jde_57_ok pc r h
theorem jde_ok_58 : jde_ok 58 mRe_takeSimple := fun pc r h => jde_58_ok pc r h
theorem jde_ok_59 : jde_ok 59 mRu_init := fun pc r h => jde_59_ok pc r h
theorem jde_ok_60 : jde_ok 60 mSc_init := fun pc r h => jde_60_ok pc r h
theorem jde_ok_61 : jde_ok 61 mSc_add := fun pc r h => jde_61_ok pc r h
theorem jde_ok_62 : jde_ok 62 mSc_aim := fun pc r h => jde_62_ok pc r h
theorem jde_ok_63 : jde_ok 63 mSc_forget := fun pc r h => jde_63_ok pc r h
theorem jde_ok_64 : jde_ok 64 mWo_init := fun pc r h => jde_64_ok pc r h
theorem jde_ok_65 : jde_ok 65 mWo_add := fun pc r h => jde_65_ok pc r h
theorem jde_ok_66 : jde_ok 66 mWo_isFigure := fun pc r h => jde_66_ok pc r h
theorem jde_ok_67 : jde_ok 67 mWo_isLetter := fun pc r h => jde_67_ok pc r h
theorem jde_ok_68 : jde_ok 68 mWo_longSign := fun pc r h => jde_68_ok pc r h
theorem jde_ok_69 : jde_ok 69 mWo_shortSign := fun pc r h => jde_69_ok pc r h
theorem jde_ok_70 : jde_ok 70 mWo_split := fun pc r h => jde_70_ok pc r h
theorem jde_ok_71 : jde_ok 71 mWo_takeName := fun pc r h => jde_71_ok pc r h
theorem jde_ok_72 : jde_ok 72 mWo_takeNumber := fun pc r h => jde_72_ok pc r h
theorem jde_ok_73 : jde_ok 73 mWo_takeSign := fun pc r h => jde_73_ok pc r h
theorem jde_ok_74 : jde_ok 74 mL_feed.1 := fun pc r h => jde_74_ok pc r h
theorem jde_ok_75 : jde_ok 75 mL_isLive.1 := fun pc r h => jde_75_ok pc r h
theorem jde_ok_76 : jde_ok 76 mL_lower.1 := fun pc r h => jde_76_ok pc r h
theorem jde_ok_77 : jde_ok 77 mM_init := fun pc r h => jde_77_ok pc r h
theorem jde_ok_78 : jde_ok 78 mM_beginBlock := fun pc r h => jde_78_ok pc r h
theorem jde_ok_79 : jde_ok 79 mM_begun := fun pc r h => jde_79_ok pc r h
theorem jde_ok_80 : jde_ok 80 mM_byteAt := fun pc r h => jde_80_ok pc r h
theorem jde_ok_81 : jde_ok 81 mM_cutWords := fun pc r h => jde_81_ok pc r h
theorem jde_ok_82 : jde_ok 82 mM_fail := fun pc r h => jde_82_ok pc r h
theorem jde_ok_83 : jde_ok 83 mM_feed := fun pc r h => jde_83_ok pc r h
theorem jde_ok_84 : jde_ok 84 mM_goOver := fun pc r h => jde_84_ok pc r h
theorem jde_ok_85 : jde_ok 85 mM_isFigure := fun pc r h => jde_85_ok pc r h
theorem jde_ok_86 : jde_ok 86 mM_isFine := fun pc r h => jde_86_ok pc r h
theorem jde_ok_87 : jde_ok 87 mM_isLive := fun pc r h => jde_87_ok pc r h
theorem jde_ok_88 : jde_ok 88 mM_isSign := fun pc r h => jde_88_ok pc r h
theorem jde_ok_89 : jde_ok 89 mM_isSmall := fun pc r h => jde_89_ok pc r h
theorem jde_ok_90 : jde_ok 90 mM_keyOf := fun pc r h => jde_90_ok pc r h
theorem jde_ok_91 : jde_ok 91 mM_loop := fun pc r h => jde_91_ok pc r h
theorem jde_ok_92 : jde_ok 92 mM_lower := fun pc r h => jde_92_ok pc r h
theorem jde_ok_93 : jde_ok 93 mM_opens := fun pc r h => jde_93_ok pc r h
theorem jde_ok_94 : jde_ok 94 mM_pairOf := fun pc r h => jde_94_ok pc r h
theorem jde_ok_95 : jde_ok 95 mM_push := fun pc r h => jde_95_ok pc r h
theorem jde_ok_96 : jde_ok 96 mM_read := fun pc r h => jde_96_ok pc r h
theorem jde_ok_97 : jde_ok 97 mM_readDecl := fun pc r h => jde_97_ok pc r h
theorem jde_ok_98 : jde_ok 98 mM_readLeave := fun pc r h => jde_98_ok pc r h
theorem jde_ok_99 : jde_ok 99 mM_readStatement := fun pc r h => jde_99_ok pc r h
theorem jde_ok_100 : jde_ok 100 mM_statementDone := fun pc r h => jde_100_ok pc r h
theorem jde_ok_101 : jde_ok 101 mM_step := fun pc r h => jde_101_ok pc r h
theorem jde_ok_102 : jde_ok 102 mM_take := fun pc r h => jde_102_ok pc r h
theorem jde_ok_103 : jde_ok 103 mM_takeOpen := fun pc r h => jde_103_ok pc r h
theorem jde_ok_104 : jde_ok 104 mM_thrown := fun pc r h => jde_104_ok pc r h
theorem jde_ok_105 : jde_ok 105 mM_top := fun pc r h => jde_105_ok pc r h
def jdI_l : List (Nat × Nat × Nat) := [(0, 103, 43), (0, 121, 37), (0, 124, 42), (0, 127, 50), (0, 130, 40), (0, 152, 28), (0, 156, 22), (0, 17, 35), (0, 24, 60), (0, 38, 25), (0, 45, 7), (0, 52, 21), (0, 59, 20), (0, 66, 19), (0, 78, 59), (0, 99, 36), (11, 32, 67), (11, 36, 71), (11, 40, 66), (11, 43, 72), (11, 46, 73), (11, 49, 65), (11, 65, 68), (11, 69, 69), (12, 231, 86), (12, 265, 89), (12, 268, 80), (12, 272, 85), (12, 275, 90), (12, 287, 94), (12, 291, 88), (12, 313, 82), (12, 345, 93), (12, 349, 102), (12, 361, 101), (12, 367, 103), (12, 376, 95), (12, 380, 78), (12, 402, 105), (12, 416, 79), (12, 419, 98), (12, 443, 91), (12, 470, 97), (12, 473, 99), (12, 482, 100), (12, 485, 81), (12, 491, 84), (13, 17, 5), (13, 38, 4), (13, 58, 2), (13, 61, 77), (13, 69, 83), (13, 70, 6), (13, 73, 96), (13, 7, 3), (13, 81, 92), (13, 98, 87), (13, 99, 104), (1, 67, 15), (1, 71, 13), (3, 11, 18), (3, 20, 21), (5, 45, 24), (5, 49, 12), (5, 53, 23), (5, 57, 14), (5, 63, 10), (5, 68, 16), (5, 74, 17), (6, 109, 8), (6, 119, 30), (6, 141, 29), (6, 144, 32), (6, 153, 27), (6, 49, 9), (6, 81, 11), (6, 89, 26), (6, 98, 31), (8, 100, 45), (8, 107, 41), (8, 11, 64), (8, 138, 39), (8, 150, 46), (8, 172, 55), (8, 187, 47), (8, 190, 38), (8, 196, 51), (8, 209, 53), (8, 20, 33), (8, 218, 58), (8, 221, 50), (8, 224, 54), (8, 230, 62), (8, 233, 56), (8, 253, 48), (8, 257, 57), (8, 261, 44), (8, 268, 49), (8, 274, 52), (8, 41, 70), (8, 45, 34), (8, 52, 63), (8, 90, 61)]
def jdI_P (r : Nat × Nat × Nat) : Prop := ∀ N k, jp_M r.1 r.2.1 = some (N, k) → jde_ok r.2.2 N
theorem jdI_0_103 : jdI_P (0, 103, 43) := by
  intro N k h
  have e : ∃ j, jp_M 0 103 = some (mRe_isAtDecl, j) := ⟨_, rfl⟩
  obtain ⟨j, e⟩ := e
  have h2 := e.symm.trans h
  cases h2
  exact jde_ok_43
theorem jdI_0_121 : jdI_P (0, 121, 37) := by
  intro N k h
  have e : ∃ j, jp_M 0 121 = some (mRe_beginStatements, j) := ⟨_, rfl⟩
  obtain ⟨j, e⟩ := e
  have h2 := e.symm.trans h
  cases h2
  exact jde_ok_37
theorem jdI_0_124 : jdI_P (0, 124, 42) := by
  intro N k h
  have e : ∃ j, jp_M 0 124 = some (mRe_hasMore, j) := ⟨_, rfl⟩
  obtain ⟨j, e⟩ := e
  have h2 := e.symm.trans h
  cases h2
  exact jde_ok_42
theorem jdI_0_127 : jdI_P (0, 127, 50) := by
  intro N k h
  have e : ∃ j, jp_M 0 127 = some (mRe_statement, j) := ⟨_, rfl⟩
  obtain ⟨j, e⟩ := e
  have h2 := e.symm.trans h
  cases h2
  exact jde_ok_50
theorem jdI_0_130 : jdI_P (0, 130, 40) := by
  intro N k h
  have e : ∃ j, jp_M 0 130 = some (mRe_finish, j) := ⟨_, rfl⟩
  obtain ⟨j, e⟩ := e
  have h2 := e.symm.trans h
  cases h2
  exact jde_ok_40
theorem jdI_0_152 : jdI_P (0, 152, 28) := by
  intro N k h
  have e : ∃ j, jp_M 0 152 = some (mMa_make, j) := ⟨_, rfl⟩
  obtain ⟨j, e⟩ := e
  have h2 := e.symm.trans h
  cases h2
  exact jde_ok_28
theorem jdI_0_156 : jdI_P (0, 156, 22) := by
  intro N k h
  have e : ∃ j, jp_M 0 156 = some (mLi_find, j) := ⟨_, rfl⟩
  obtain ⟨j, e⟩ := e
  have h2 := e.symm.trans h
  cases h2
  exact jde_ok_22
theorem jdI_0_17 : jdI_P (0, 17, 35) := by
  intro N k h
  have e : ∃ j, jp_M 0 17 = some (mRe_init, j) := ⟨_, rfl⟩
  obtain ⟨j, e⟩ := e
  have h2 := e.symm.trans h
  cases h2
  exact jde_ok_35
theorem jdI_0_24 : jdI_P (0, 24, 60) := by
  intro N k h
  have e : ∃ j, jp_M 0 24 = some (mSc_init, j) := ⟨_, rfl⟩
  obtain ⟨j, e⟩ := e
  have h2 := e.symm.trans h
  cases h2
  exact jde_ok_60
theorem jdI_0_38 : jdI_P (0, 38, 25) := by
  intro N k h
  have e : ∃ j, jp_M 0 38 = some (mMa_init, j) := ⟨_, rfl⟩
  obtain ⟨j, e⟩ := e
  have h2 := e.symm.trans h
  cases h2
  exact jde_ok_25
theorem jdI_0_45 : jdI_P (0, 45, 7) := by
  intro N k h
  have e : ∃ j, jp_M 0 45 = some (mCo_init, j) := ⟨_, rfl⟩
  obtain ⟨j, e⟩ := e
  have h2 := e.symm.trans h
  cases h2
  exact jde_ok_7
theorem jdI_0_52 : jdI_P (0, 52, 21) := by
  intro N k h
  have e : ∃ j, jp_M 0 52 = some (mLi_init, j) := ⟨_, rfl⟩
  obtain ⟨j, e⟩ := e
  have h2 := e.symm.trans h
  cases h2
  exact jde_ok_21
theorem jdI_0_59 : jdI_P (0, 59, 20) := by
  intro N k h
  have e : ∃ j, jp_M 0 59 = some (mKn_init, j) := ⟨_, rfl⟩
  obtain ⟨j, e⟩ := e
  have h2 := e.symm.trans h
  cases h2
  exact jde_ok_20
theorem jdI_0_66 : jdI_P (0, 66, 19) := by
  intro N k h
  have e : ∃ j, jp_M 0 66 = some (mIm_init, j) := ⟨_, rfl⟩
  obtain ⟨j, e⟩ := e
  have h2 := e.symm.trans h
  cases h2
  exact jde_ok_19
theorem jdI_0_78 : jdI_P (0, 78, 59) := by
  intro N k h
  have e : ∃ j, jp_M 0 78 = some (mRu_init, j) := ⟨_, rfl⟩
  obtain ⟨j, e⟩ := e
  have h2 := e.symm.trans h
  cases h2
  exact jde_ok_59
theorem jdI_0_99 : jdI_P (0, 99, 36) := by
  intro N k h
  have e : ∃ j, jp_M 0 99 = some (mRe_begin, j) := ⟨_, rfl⟩
  obtain ⟨j, e⟩ := e
  have h2 := e.symm.trans h
  cases h2
  exact jde_ok_36
theorem jdI_11_32 : jdI_P (11, 32, 67) := by
  intro N k h
  have e : ∃ j, jp_M 11 32 = some (mWo_isLetter, j) := ⟨_, rfl⟩
  obtain ⟨j, e⟩ := e
  have h2 := e.symm.trans h
  cases h2
  exact jde_ok_67
theorem jdI_11_36 : jdI_P (11, 36, 71) := by
  intro N k h
  have e : ∃ j, jp_M 11 36 = some (mWo_takeName, j) := ⟨_, rfl⟩
  obtain ⟨j, e⟩ := e
  have h2 := e.symm.trans h
  cases h2
  exact jde_ok_71
theorem jdI_11_40 : jdI_P (11, 40, 66) := by
  intro N k h
  have e : ∃ j, jp_M 11 40 = some (mWo_isFigure, j) := ⟨_, rfl⟩
  obtain ⟨j, e⟩ := e
  have h2 := e.symm.trans h
  cases h2
  exact jde_ok_66
theorem jdI_11_43 : jdI_P (11, 43, 72) := by
  intro N k h
  have e : ∃ j, jp_M 11 43 = some (mWo_takeNumber, j) := ⟨_, rfl⟩
  obtain ⟨j, e⟩ := e
  have h2 := e.symm.trans h
  cases h2
  exact jde_ok_72
theorem jdI_11_46 : jdI_P (11, 46, 73) := by
  intro N k h
  have e : ∃ j, jp_M 11 46 = some (mWo_takeSign, j) := ⟨_, rfl⟩
  obtain ⟨j, e⟩ := e
  have h2 := e.symm.trans h
  cases h2
  exact jde_ok_73
theorem jdI_11_49 : jdI_P (11, 49, 65) := by
  intro N k h
  have e : ∃ j, jp_M 11 49 = some (mWo_add, j) := ⟨_, rfl⟩
  obtain ⟨j, e⟩ := e
  have h2 := e.symm.trans h
  cases h2
  exact jde_ok_65
theorem jdI_11_65 : jdI_P (11, 65, 68) := by
  intro N k h
  have e : ∃ j, jp_M 11 65 = some (mWo_longSign, j) := ⟨_, rfl⟩
  obtain ⟨j, e⟩ := e
  have h2 := e.symm.trans h
  cases h2
  exact jde_ok_68
theorem jdI_11_69 : jdI_P (11, 69, 69) := by
  intro N k h
  have e : ∃ j, jp_M 11 69 = some (mWo_shortSign, j) := ⟨_, rfl⟩
  obtain ⟨j, e⟩ := e
  have h2 := e.symm.trans h
  cases h2
  exact jde_ok_69
theorem jdI_12_231 : jdI_P (12, 231, 86) := by
  intro N k h
  have e : ∃ j, jp_M 12 231 = some (mM_isFine, j) := ⟨_, rfl⟩
  obtain ⟨j, e⟩ := e
  have h2 := e.symm.trans h
  cases h2
  exact jde_ok_86
theorem jdI_12_265 : jdI_P (12, 265, 89) := by
  intro N k h
  have e : ∃ j, jp_M 12 265 = some (mM_isSmall, j) := ⟨_, rfl⟩
  obtain ⟨j, e⟩ := e
  have h2 := e.symm.trans h
  cases h2
  exact jde_ok_89
theorem jdI_12_268 : jdI_P (12, 268, 80) := by
  intro N k h
  have e : ∃ j, jp_M 12 268 = some (mM_byteAt, j) := ⟨_, rfl⟩
  obtain ⟨j, e⟩ := e
  have h2 := e.symm.trans h
  cases h2
  exact jde_ok_80
theorem jdI_12_272 : jdI_P (12, 272, 85) := by
  intro N k h
  have e : ∃ j, jp_M 12 272 = some (mM_isFigure, j) := ⟨_, rfl⟩
  obtain ⟨j, e⟩ := e
  have h2 := e.symm.trans h
  cases h2
  exact jde_ok_85
theorem jdI_12_275 : jdI_P (12, 275, 90) := by
  intro N k h
  have e : ∃ j, jp_M 12 275 = some (mM_keyOf, j) := ⟨_, rfl⟩
  obtain ⟨j, e⟩ := e
  have h2 := e.symm.trans h
  cases h2
  exact jde_ok_90
theorem jdI_12_287 : jdI_P (12, 287, 94) := by
  intro N k h
  have e : ∃ j, jp_M 12 287 = some (mM_pairOf, j) := ⟨_, rfl⟩
  obtain ⟨j, e⟩ := e
  have h2 := e.symm.trans h
  cases h2
  exact jde_ok_94
theorem jdI_12_291 : jdI_P (12, 291, 88) := by
  intro N k h
  have e : ∃ j, jp_M 12 291 = some (mM_isSign, j) := ⟨_, rfl⟩
  obtain ⟨j, e⟩ := e
  have h2 := e.symm.trans h
  cases h2
  exact jde_ok_88
theorem jdI_12_313 : jdI_P (12, 313, 82) := by
  intro N k h
  have e : ∃ j, jp_M 12 313 = some (mM_fail, j) := ⟨_, rfl⟩
  obtain ⟨j, e⟩ := e
  have h2 := e.symm.trans h
  cases h2
  exact jde_ok_82
theorem jdI_12_345 : jdI_P (12, 345, 93) := by
  intro N k h
  have e : ∃ j, jp_M 12 345 = some (mM_opens, j) := ⟨_, rfl⟩
  obtain ⟨j, e⟩ := e
  have h2 := e.symm.trans h
  cases h2
  exact jde_ok_93
theorem jdI_12_349 : jdI_P (12, 349, 102) := by
  intro N k h
  have e : ∃ j, jp_M 12 349 = some (mM_take, j) := ⟨_, rfl⟩
  obtain ⟨j, e⟩ := e
  have h2 := e.symm.trans h
  cases h2
  exact jde_ok_102
theorem jdI_12_361 : jdI_P (12, 361, 101) := by
  intro N k h
  have e : ∃ j, jp_M 12 361 = some (mM_step, j) := ⟨_, rfl⟩
  obtain ⟨j, e⟩ := e
  have h2 := e.symm.trans h
  cases h2
  exact jde_ok_101
theorem jdI_12_367 : jdI_P (12, 367, 103) := by
  intro N k h
  have e : ∃ j, jp_M 12 367 = some (mM_takeOpen, j) := ⟨_, rfl⟩
  obtain ⟨j, e⟩ := e
  have h2 := e.symm.trans h
  cases h2
  exact jde_ok_103
theorem jdI_12_376 : jdI_P (12, 376, 95) := by
  intro N k h
  have e : ∃ j, jp_M 12 376 = some (mM_push, j) := ⟨_, rfl⟩
  obtain ⟨j, e⟩ := e
  have h2 := e.symm.trans h
  cases h2
  exact jde_ok_95
theorem jdI_12_380 : jdI_P (12, 380, 78) := by
  intro N k h
  have e : ∃ j, jp_M 12 380 = some (mM_beginBlock, j) := ⟨_, rfl⟩
  obtain ⟨j, e⟩ := e
  have h2 := e.symm.trans h
  cases h2
  exact jde_ok_78
theorem jdI_12_402 : jdI_P (12, 402, 105) := by
  intro N k h
  have e : ∃ j, jp_M 12 402 = some (mM_top, j) := ⟨_, rfl⟩
  obtain ⟨j, e⟩ := e
  have h2 := e.symm.trans h
  cases h2
  exact jde_ok_105
theorem jdI_12_416 : jdI_P (12, 416, 79) := by
  intro N k h
  have e : ∃ j, jp_M 12 416 = some (mM_begun, j) := ⟨_, rfl⟩
  obtain ⟨j, e⟩ := e
  have h2 := e.symm.trans h
  cases h2
  exact jde_ok_79
theorem jdI_12_419 : jdI_P (12, 419, 98) := by
  intro N k h
  have e : ∃ j, jp_M 12 419 = some (mM_readLeave, j) := ⟨_, rfl⟩
  obtain ⟨j, e⟩ := e
  have h2 := e.symm.trans h
  cases h2
  exact jde_ok_98
theorem jdI_12_443 : jdI_P (12, 443, 91) := by
  intro N k h
  have e : ∃ j, jp_M 12 443 = some (mM_loop, j) := ⟨_, rfl⟩
  obtain ⟨j, e⟩ := e
  have h2 := e.symm.trans h
  cases h2
  exact jde_ok_91
theorem jdI_12_470 : jdI_P (12, 470, 97) := by
  intro N k h
  have e : ∃ j, jp_M 12 470 = some (mM_readDecl, j) := ⟨_, rfl⟩
  obtain ⟨j, e⟩ := e
  have h2 := e.symm.trans h
  cases h2
  exact jde_ok_97
theorem jdI_12_473 : jdI_P (12, 473, 99) := by
  intro N k h
  have e : ∃ j, jp_M 12 473 = some (mM_readStatement, j) := ⟨_, rfl⟩
  obtain ⟨j, e⟩ := e
  have h2 := e.symm.trans h
  cases h2
  exact jde_ok_99
theorem jdI_12_482 : jdI_P (12, 482, 100) := by
  intro N k h
  have e : ∃ j, jp_M 12 482 = some (mM_statementDone, j) := ⟨_, rfl⟩
  obtain ⟨j, e⟩ := e
  have h2 := e.symm.trans h
  cases h2
  exact jde_ok_100
theorem jdI_12_485 : jdI_P (12, 485, 81) := by
  intro N k h
  have e : ∃ j, jp_M 12 485 = some (mM_cutWords, j) := ⟨_, rfl⟩
  obtain ⟨j, e⟩ := e
  have h2 := e.symm.trans h
  cases h2
  exact jde_ok_81
theorem jdI_12_491 : jdI_P (12, 491, 84) := by
  intro N k h
  have e : ∃ j, jp_M 12 491 = some (mM_goOver, j) := ⟨_, rfl⟩
  obtain ⟨j, e⟩ := e
  have h2 := e.symm.trans h
  cases h2
  exact jde_ok_84
theorem jdI_13_17 : jdI_P (13, 17, 5) := by
  intro N k h
  have e : ∃ j, jp_M 13 17 = some (mP_lower, j) := ⟨_, rfl⟩
  obtain ⟨j, e⟩ := e
  have h2 := e.symm.trans h
  cases h2
  exact jde_ok_5
theorem jdI_13_38 : jdI_P (13, 38, 4) := by
  intro N k h
  have e : ∃ j, jp_M 13 38 = some (mP_isLive, j) := ⟨_, rfl⟩
  obtain ⟨j, e⟩ := e
  have h2 := e.symm.trans h
  cases h2
  exact jde_ok_4
theorem jdI_13_58 : jdI_P (13, 58, 2) := by
  intro N k h
  have e : ∃ j, jp_M 13 58 = some (mP_init, j) := ⟨_, rfl⟩
  obtain ⟨j, e⟩ := e
  have h2 := e.symm.trans h
  cases h2
  exact jde_ok_2
theorem jdI_13_61 : jdI_P (13, 61, 77) := by
  intro N k h
  have e : ∃ j, jp_M 13 61 = some (mM_init, j) := ⟨_, rfl⟩
  obtain ⟨j, e⟩ := e
  have h2 := e.symm.trans h
  cases h2
  exact jde_ok_77
theorem jdI_13_69 : jdI_P (13, 69, 83) := by
  intro N k h
  have e : ∃ j, jp_M 13 69 = some (mM_feed, j) := ⟨_, rfl⟩
  obtain ⟨j, e⟩ := e
  have h2 := e.symm.trans h
  cases h2
  exact jde_ok_83
theorem jdI_13_70 : jdI_P (13, 70, 6) := by
  intro N k h
  have e : ∃ j, jp_M 13 70 = some (mP_read, j) := ⟨_, rfl⟩
  obtain ⟨j, e⟩ := e
  have h2 := e.symm.trans h
  cases h2
  exact jde_ok_6
theorem jdI_13_73 : jdI_P (13, 73, 96) := by
  intro N k h
  have e : ∃ j, jp_M 13 73 = some (mM_read, j) := ⟨_, rfl⟩
  obtain ⟨j, e⟩ := e
  have h2 := e.symm.trans h
  cases h2
  exact jde_ok_96
theorem jdI_13_7 : jdI_P (13, 7, 3) := by
  intro N k h
  have e : ∃ j, jp_M 13 7 = some (mP_feed, j) := ⟨_, rfl⟩
  obtain ⟨j, e⟩ := e
  have h2 := e.symm.trans h
  cases h2
  exact jde_ok_3
theorem jdI_13_81 : jdI_P (13, 81, 92) := by
  intro N k h
  have e : ∃ j, jp_M 13 81 = some (mM_lower, j) := ⟨_, rfl⟩
  obtain ⟨j, e⟩ := e
  have h2 := e.symm.trans h
  cases h2
  exact jde_ok_92
theorem jdI_13_98 : jdI_P (13, 98, 87) := by
  intro N k h
  have e : ∃ j, jp_M 13 98 = some (mM_isLive, j) := ⟨_, rfl⟩
  obtain ⟨j, e⟩ := e
  have h2 := e.symm.trans h
  cases h2
  exact jde_ok_87
theorem jdI_13_99 : jdI_P (13, 99, 104) := by
  intro N k h
  have e : ∃ j, jp_M 13 99 = some (mM_thrown, j) := ⟨_, rfl⟩
  obtain ⟨j, e⟩ := e
  have h2 := e.symm.trans h
  cases h2
  exact jde_ok_104
theorem jdI_1_67 : jdI_P (1, 67, 15) := by
  intro N k h
  have e : ∃ j, jp_M 1 67 = some (mCo_put, j) := ⟨_, rfl⟩
  obtain ⟨j, e⟩ := e
  have h2 := e.symm.trans h
  cases h2
  exact jde_ok_15
theorem jdI_1_71 : jdI_P (1, 71, 13) := by
  intro N k h
  have e : ∃ j, jp_M 1 71 = some (mCo_leaps, j) := ⟨_, rfl⟩
  obtain ⟨j, e⟩ := e
  have h2 := e.symm.trans h
  cases h2
  exact jde_ok_13
theorem jdI_3_11 : jdI_P (3, 11, 18) := by
  intro N k h
  have e : ∃ j, jp_M 3 11 = some (mHo_init, j) := ⟨_, rfl⟩
  obtain ⟨j, e⟩ := e
  have h2 := e.symm.trans h
  cases h2
  exact jde_ok_18
theorem jdI_3_20 : jdI_P (3, 20, 21) := by
  intro N k h
  have e : ∃ j, jp_M 3 20 = some (mLi_init, j) := ⟨_, rfl⟩
  obtain ⟨j, e⟩ := e
  have h2 := e.symm.trans h
  cases h2
  exact jde_ok_21
theorem jdI_5_45 : jdI_P (5, 45, 24) := by
  intro N k h
  have e : ∃ j, jp_M 5 45 = some (mLi_look, j) := ⟨_, rfl⟩
  obtain ⟨j, e⟩ := e
  have h2 := e.symm.trans h
  cases h2
  exact jde_ok_24
theorem jdI_5_49 : jdI_P (5, 49, 12) := by
  intro N k h
  have e : ∃ j, jp_M 5 49 = some (mCo_goesOn, j) := ⟨_, rfl⟩
  obtain ⟨j, e⟩ := e
  have h2 := e.symm.trans h
  cases h2
  exact jde_ok_12
theorem jdI_5_53 : jdI_P (5, 53, 23) := by
  intro N k h
  have e : ∃ j, jp_M 5 53 = some (mLi_join, j) := ⟨_, rfl⟩
  obtain ⟨j, e⟩ := e
  have h2 := e.symm.trans h
  cases h2
  exact jde_ok_23
theorem jdI_5_57 : jdI_P (5, 57, 14) := by
  intro N k h
  have e : ∃ j, jp_M 5 57 = some (mCo_leapsInside, j) := ⟨_, rfl⟩
  obtain ⟨j, e⟩ := e
  have h2 := e.symm.trans h
  cases h2
  exact jde_ok_14
theorem jdI_5_63 : jdI_P (5, 63, 10) := by
  intro N k h
  have e : ∃ j, jp_M 5 63 = some (mCo_defines, j) := ⟨_, rfl⟩
  obtain ⟨j, e⟩ := e
  have h2 := e.symm.trans h
  cases h2
  exact jde_ok_10
theorem jdI_5_68 : jdI_P (5, 68, 16) := by
  intro N k h
  have e : ∃ j, jp_M 5 68 = some (mCo_usesA, j) := ⟨_, rfl⟩
  obtain ⟨j, e⟩ := e
  have h2 := e.symm.trans h
  cases h2
  exact jde_ok_16
theorem jdI_5_74 : jdI_P (5, 74, 17) := by
  intro N k h
  have e : ∃ j, jp_M 5 74 = some (mCo_usesB, j) := ⟨_, rfl⟩
  obtain ⟨j, e⟩ := e
  have h2 := e.symm.trans h
  cases h2
  exact jde_ok_17
theorem jdI_6_109 : jdI_P (6, 109, 8) := by
  intro N k h
  have e : ∃ j, jp_M 6 109 = some (mCo_add, j) := ⟨_, rfl⟩
  obtain ⟨j, e⟩ := e
  have h2 := e.symm.trans h
  cases h2
  exact jde_ok_8
theorem jdI_6_119 : jdI_P (6, 119, 30) := by
  intro N k h
  have e : ∃ j, jp_M 6 119 = some (mMa_push, j) := ⟨_, rfl⟩
  obtain ⟨j, e⟩ := e
  have h2 := e.symm.trans h
  cases h2
  exact jde_ok_30
theorem jdI_6_141 : jdI_P (6, 141, 29) := by
  intro N k h
  have e : ∃ j, jp_M 6 141 = some (mMa_pop, j) := ⟨_, rfl⟩
  obtain ⟨j, e⟩ := e
  have h2 := e.symm.trans h
  cases h2
  exact jde_ok_29
theorem jdI_6_144 : jdI_P (6, 144, 32) := by
  intro N k h
  have e : ∃ j, jp_M 6 144 = some (mMa_test, j) := ⟨_, rfl⟩
  obtain ⟨j, e⟩ := e
  have h2 := e.symm.trans h
  cases h2
  exact jde_ok_32
theorem jdI_6_153 : jdI_P (6, 153, 27) := by
  intro N k h
  have e : ∃ j, jp_M 6 153 = some (mMa_leap, j) := ⟨_, rfl⟩
  obtain ⟨j, e⟩ := e
  have h2 := e.symm.trans h
  cases h2
  exact jde_ok_27
theorem jdI_6_49 : jdI_P (6, 49, 9) := by
  intro N k h
  have e : ∃ j, jp_M 6 49 = some (mCo_begin, j) := ⟨_, rfl⟩
  obtain ⟨j, e⟩ := e
  have h2 := e.symm.trans h
  cases h2
  exact jde_ok_9
theorem jdI_6_81 : jdI_P (6, 81, 11) := by
  intro N k h
  have e : ∃ j, jp_M 6 81 = some (mCo_fits, j) := ⟨_, rfl⟩
  obtain ⟨j, e⟩ := e
  have h2 := e.symm.trans h
  cases h2
  exact jde_ok_11
theorem jdI_6_89 : jdI_P (6, 89, 26) := by
  intro N k h
  have e : ∃ j, jp_M 6 89 = some (mMa_arrive, j) := ⟨_, rfl⟩
  obtain ⟨j, e⟩ := e
  have h2 := e.symm.trans h
  cases h2
  exact jde_ok_26
theorem jdI_6_98 : jdI_P (6, 98, 31) := by
  intro N k h
  have e : ∃ j, jp_M 6 98 = some (mMa_takeStep, j) := ⟨_, rfl⟩
  obtain ⟨j, e⟩ := e
  have h2 := e.symm.trans h
  cases h2
  exact jde_ok_31
theorem jdI_8_100 : jdI_P (8, 100, 45) := by
  intro N k h
  have e : ∃ j, jp_M 8 100 = some (mRe_kind, j) := ⟨_, rfl⟩
  obtain ⟨j, e⟩ := e
  have h2 := e.symm.trans h
  cases h2
  exact jde_ok_45
theorem jdI_8_107 : jdI_P (8, 107, 41) := by
  intro N k h
  have e : ∃ j, jp_M 8 107 = some (mRe_go, j) := ⟨_, rfl⟩
  obtain ⟨j, e⟩ := e
  have h2 := e.symm.trans h
  cases h2
  exact jde_ok_41
theorem jdI_8_11 : jdI_P (8, 11, 64) := by
  intro N k h
  have e : ∃ j, jp_M 8 11 = some (mWo_init, j) := ⟨_, rfl⟩
  obtain ⟨j, e⟩ := e
  have h2 := e.symm.trans h
  cases h2
  exact jde_ok_64
theorem jdI_8_138 : jdI_P (8, 138, 39) := by
  intro N k h
  have e : ∃ j, jp_M 8 138 = some (mRe_expect, j) := ⟨_, rfl⟩
  obtain ⟨j, e⟩ := e
  have h2 := e.symm.trans h
  cases h2
  exact jde_ok_39
theorem jdI_8_150 : jdI_P (8, 150, 46) := by
  intro N k h
  have e : ∃ j, jp_M 8 150 = some (mRe_openOne, j) := ⟨_, rfl⟩
  obtain ⟨j, e⟩ := e
  have h2 := e.symm.trans h
  cases h2
  exact jde_ok_46
theorem jdI_8_172 : jdI_P (8, 172, 55) := by
  intro N k h
  have e : ∃ j, jp_M 8 172 = some (mRe_takeItems, j) := ⟨_, rfl⟩
  obtain ⟨j, e⟩ := e
  have h2 := e.symm.trans h
  cases h2
  exact jde_ok_55
theorem jdI_8_187 : jdI_P (8, 187, 47) := by
  intro N k h
  have e : ∃ j, jp_M 8 187 = some (mRe_openRound, j) := ⟨_, rfl⟩
  obtain ⟨j, e⟩ := e
  have h2 := e.symm.trans h
  cases h2
  exact jde_ok_47
theorem jdI_8_190 : jdI_P (8, 190, 38) := by
  intro N k h
  have e : ∃ j, jp_M 8 190 = some (mRe_closeRound, j) := ⟨_, rfl⟩
  obtain ⟨j, e⟩ := e
  have h2 := e.symm.trans h
  cases h2
  exact jde_ok_38
theorem jdI_8_196 : jdI_P (8, 196, 51) := by
  intro N k h
  have e : ∃ j, jp_M 8 196 = some (mRe_takeBlock, j) := ⟨_, rfl⟩
  obtain ⟨j, e⟩ := e
  have h2 := e.symm.trans h
  cases h2
  exact jde_ok_51
theorem jdI_8_209 : jdI_P (8, 209, 53) := by
  intro N k h
  have e : ∃ j, jp_M 8 209 = some (mRe_takeDo, j) := ⟨_, rfl⟩
  obtain ⟨j, e⟩ := e
  have h2 := e.symm.trans h
  cases h2
  exact jde_ok_53
theorem jdI_8_20 : jdI_P (8, 20, 33) := by
  intro N k h
  have e : ∃ j, jp_M 8 20 = some (mNa_init, j) := ⟨_, rfl⟩
  obtain ⟨j, e⟩ := e
  have h2 := e.symm.trans h
  cases h2
  exact jde_ok_33
theorem jdI_8_218 : jdI_P (8, 218, 58) := by
  intro N k h
  have e : ∃ j, jp_M 8 218 = some (mRe_takeSimple, j) := ⟨_, rfl⟩
  obtain ⟨j, e⟩ := e
  have h2 := e.symm.trans h
  cases h2
  exact jde_ok_58
theorem jdI_8_221 : jdI_P (8, 221, 50) := by
  intro N k h
  have e : ∃ j, jp_M 8 221 = some (mRe_statement, j) := ⟨_, rfl⟩
  obtain ⟨j, e⟩ := e
  have h2 := e.symm.trans h
  cases h2
  exact jde_ok_50
theorem jdI_8_224 : jdI_P (8, 224, 54) := by
  intro N k h
  have e : ∃ j, jp_M 8 224 = some (mRe_takeExpr, j) := ⟨_, rfl⟩
  obtain ⟨j, e⟩ := e
  have h2 := e.symm.trans h
  cases h2
  exact jde_ok_54
theorem jdI_8_230 : jdI_P (8, 230, 62) := by
  intro N k h
  have e : ∃ j, jp_M 8 230 = some (mSc_aim, j) := ⟨_, rfl⟩
  obtain ⟨j, e⟩ := e
  have h2 := e.symm.trans h
  cases h2
  exact jde_ok_62
theorem jdI_8_233 : jdI_P (8, 233, 56) := by
  intro N k h
  have e : ∃ j, jp_M 8 233 = some (mRe_takeLeave, j) := ⟨_, rfl⟩
  obtain ⟨j, e⟩ := e
  have h2 := e.symm.trans h
  cases h2
  exact jde_ok_56
theorem jdI_8_253 : jdI_P (8, 253, 48) := by
  intro N k h
  have e : ∃ j, jp_M 8 253 = some (mRe_pend, j) := ⟨_, rfl⟩
  obtain ⟨j, e⟩ := e
  have h2 := e.symm.trans h
  cases h2
  exact jde_ok_48
theorem jdI_8_257 : jdI_P (8, 257, 57) := by
  intro N k h
  have e : ∃ j, jp_M 8 257 = some (mRe_takeOperand, j) := ⟨_, rfl⟩
  obtain ⟨j, e⟩ := e
  have h2 := e.symm.trans h
  cases h2
  exact jde_ok_57
theorem jdI_8_261 : jdI_P (8, 261, 44) := by
  intro N k h
  have e : ∃ j, jp_M 8 261 = some (mRe_isBinary, j) := ⟨_, rfl⟩
  obtain ⟨j, e⟩ := e
  have h2 := e.symm.trans h
  cases h2
  exact jde_ok_44
theorem jdI_8_268 : jdI_P (8, 268, 49) := by
  intro N k h
  have e : ∃ j, jp_M 8 268 = some (mRe_settle, j) := ⟨_, rfl⟩
  obtain ⟨j, e⟩ := e
  have h2 := e.symm.trans h
  cases h2
  exact jde_ok_49
theorem jdI_8_274 : jdI_P (8, 274, 52) := by
  intro N k h
  have e : ∃ j, jp_M 8 274 = some (mRe_takeClosing, j) := ⟨_, rfl⟩
  obtain ⟨j, e⟩ := e
  have h2 := e.symm.trans h
  cases h2
  exact jde_ok_52
theorem jdI_8_41 : jdI_P (8, 41, 70) := by
  intro N k h
  have e : ∃ j, jp_M 8 41 = some (mWo_split, j) := ⟨_, rfl⟩
  obtain ⟨j, e⟩ := e
  have h2 := e.symm.trans h
  cases h2
  exact jde_ok_70
theorem jdI_8_45 : jdI_P (8, 45, 34) := by
  intro N k h
  have e : ∃ j, jp_M 8 45 = some (mNa_forget, j) := ⟨_, rfl⟩
  obtain ⟨j, e⟩ := e
  have h2 := e.symm.trans h
  cases h2
  exact jde_ok_34
theorem jdI_8_52 : jdI_P (8, 52, 63) := by
  intro N k h
  have e : ∃ j, jp_M 8 52 = some (mSc_forget, j) := ⟨_, rfl⟩
  obtain ⟨j, e⟩ := e
  have h2 := e.symm.trans h
  cases h2
  exact jde_ok_63
theorem jdI_8_90 : jdI_P (8, 90, 61) := by
  intro N k h
  have e : ∃ j, jp_M 8 90 = some (mSc_add, j) := ⟨_, rfl⟩
  obtain ⟨j, e⟩ := e
  have h2 := e.symm.trans h
  cases h2
  exact jde_ok_61
theorem jdI_all : ∀ r ∈ jdI_l, jdI_P r := List.forall_mem_cons.mpr ⟨jdI_0_103, List.forall_mem_cons.mpr ⟨jdI_0_121, List.forall_mem_cons.mpr ⟨jdI_0_124, List.forall_mem_cons.mpr ⟨jdI_0_127, List.forall_mem_cons.mpr ⟨jdI_0_130, List.forall_mem_cons.mpr ⟨jdI_0_152, List.forall_mem_cons.mpr ⟨jdI_0_156, List.forall_mem_cons.mpr ⟨jdI_0_17, List.forall_mem_cons.mpr ⟨jdI_0_24, List.forall_mem_cons.mpr ⟨jdI_0_38, List.forall_mem_cons.mpr ⟨jdI_0_45, List.forall_mem_cons.mpr ⟨jdI_0_52, List.forall_mem_cons.mpr ⟨jdI_0_59, List.forall_mem_cons.mpr ⟨jdI_0_66, List.forall_mem_cons.mpr ⟨jdI_0_78, List.forall_mem_cons.mpr ⟨jdI_0_99, List.forall_mem_cons.mpr ⟨jdI_11_32, List.forall_mem_cons.mpr ⟨jdI_11_36, List.forall_mem_cons.mpr ⟨jdI_11_40, List.forall_mem_cons.mpr ⟨jdI_11_43, List.forall_mem_cons.mpr ⟨jdI_11_46, List.forall_mem_cons.mpr ⟨jdI_11_49, List.forall_mem_cons.mpr ⟨jdI_11_65, List.forall_mem_cons.mpr ⟨jdI_11_69, List.forall_mem_cons.mpr ⟨jdI_12_231, List.forall_mem_cons.mpr ⟨jdI_12_265, List.forall_mem_cons.mpr ⟨jdI_12_268, List.forall_mem_cons.mpr ⟨jdI_12_272, List.forall_mem_cons.mpr ⟨jdI_12_275, List.forall_mem_cons.mpr ⟨jdI_12_287, List.forall_mem_cons.mpr ⟨jdI_12_291, List.forall_mem_cons.mpr ⟨jdI_12_313, List.forall_mem_cons.mpr ⟨jdI_12_345, List.forall_mem_cons.mpr ⟨jdI_12_349, List.forall_mem_cons.mpr ⟨jdI_12_361, List.forall_mem_cons.mpr ⟨jdI_12_367, List.forall_mem_cons.mpr ⟨jdI_12_376, List.forall_mem_cons.mpr ⟨jdI_12_380, List.forall_mem_cons.mpr ⟨jdI_12_402, List.forall_mem_cons.mpr ⟨jdI_12_416, List.forall_mem_cons.mpr ⟨jdI_12_419, List.forall_mem_cons.mpr ⟨jdI_12_443, List.forall_mem_cons.mpr ⟨jdI_12_470, List.forall_mem_cons.mpr ⟨jdI_12_473, List.forall_mem_cons.mpr ⟨jdI_12_482, List.forall_mem_cons.mpr ⟨jdI_12_485, List.forall_mem_cons.mpr ⟨jdI_12_491, List.forall_mem_cons.mpr ⟨jdI_13_17, List.forall_mem_cons.mpr ⟨jdI_13_38, List.forall_mem_cons.mpr ⟨jdI_13_58, List.forall_mem_cons.mpr ⟨jdI_13_61, List.forall_mem_cons.mpr ⟨jdI_13_69, List.forall_mem_cons.mpr ⟨jdI_13_70, List.forall_mem_cons.mpr ⟨jdI_13_73, List.forall_mem_cons.mpr ⟨jdI_13_7, List.forall_mem_cons.mpr ⟨jdI_13_81, List.forall_mem_cons.mpr ⟨jdI_13_98, List.forall_mem_cons.mpr ⟨jdI_13_99, List.forall_mem_cons.mpr ⟨jdI_1_67, List.forall_mem_cons.mpr ⟨jdI_1_71, List.forall_mem_cons.mpr ⟨jdI_3_11, List.forall_mem_cons.mpr ⟨jdI_3_20, List.forall_mem_cons.mpr ⟨jdI_5_45, List.forall_mem_cons.mpr ⟨jdI_5_49, List.forall_mem_cons.mpr ⟨jdI_5_53, List.forall_mem_cons.mpr ⟨jdI_5_57, List.forall_mem_cons.mpr ⟨jdI_5_63, List.forall_mem_cons.mpr ⟨jdI_5_68, List.forall_mem_cons.mpr ⟨jdI_5_74, List.forall_mem_cons.mpr ⟨jdI_6_109, List.forall_mem_cons.mpr ⟨jdI_6_119, List.forall_mem_cons.mpr ⟨jdI_6_141, List.forall_mem_cons.mpr ⟨jdI_6_144, List.forall_mem_cons.mpr ⟨jdI_6_153, List.forall_mem_cons.mpr ⟨jdI_6_49, List.forall_mem_cons.mpr ⟨jdI_6_81, List.forall_mem_cons.mpr ⟨jdI_6_89, List.forall_mem_cons.mpr ⟨jdI_6_98, List.forall_mem_cons.mpr ⟨jdI_8_100, List.forall_mem_cons.mpr ⟨jdI_8_107, List.forall_mem_cons.mpr ⟨jdI_8_11, List.forall_mem_cons.mpr ⟨jdI_8_138, List.forall_mem_cons.mpr ⟨jdI_8_150, List.forall_mem_cons.mpr ⟨jdI_8_172, List.forall_mem_cons.mpr ⟨jdI_8_187, List.forall_mem_cons.mpr ⟨jdI_8_190, List.forall_mem_cons.mpr ⟨jdI_8_196, List.forall_mem_cons.mpr ⟨jdI_8_209, List.forall_mem_cons.mpr ⟨jdI_8_20, List.forall_mem_cons.mpr ⟨jdI_8_218, List.forall_mem_cons.mpr ⟨jdI_8_221, List.forall_mem_cons.mpr ⟨jdI_8_224, List.forall_mem_cons.mpr ⟨jdI_8_230, List.forall_mem_cons.mpr ⟨jdI_8_233, List.forall_mem_cons.mpr ⟨jdI_8_253, List.forall_mem_cons.mpr ⟨jdI_8_257, List.forall_mem_cons.mpr ⟨jdI_8_261, List.forall_mem_cons.mpr ⟨jdI_8_268, List.forall_mem_cons.mpr ⟨jdI_8_274, List.forall_mem_cons.mpr ⟨jdI_8_41, List.forall_mem_cons.mpr ⟨jdI_8_45, List.forall_mem_cons.mpr ⟨jdI_8_52, List.forall_mem_cons.mpr ⟨jdI_8_90, (fun _ h => by cases h)⟩⟩⟩⟩⟩⟩⟩⟩⟩⟩⟩⟩⟩⟩⟩⟩⟩⟩⟩⟩⟩⟩⟩⟩⟩⟩⟩⟩⟩⟩⟩⟩⟩⟩⟩⟩⟩⟩⟩⟩⟩⟩⟩⟩⟩⟩⟩⟩⟩⟩⟩⟩⟩⟩⟩⟩⟩⟩⟩⟩⟩⟩⟩⟩⟩⟩⟩⟩⟩⟩⟩⟩⟩⟩⟩⟩⟩⟩⟩⟩⟩⟩⟩⟩⟩⟩⟩⟩⟩⟩⟩⟩⟩⟩⟩⟩⟩⟩⟩⟩⟩⟩⟩
def jdI (q i : Nat) : Nat := match jdI_l.find? (fun r => Nat.beq r.1 q && Nat.beq r.2.1 i) with
  | some r => r.2.2
  | none => 0
theorem jdI_ok {q i k : Nat} {N : jm_M} (h : jp_M q i = some (N, k)) : jde_ok (jdI q i) N := by
  unfold jdI
  split
  · rename_i r hr
    have h1 := List.find?_some hr
    simp only [Bool.and_eq_true] at h1
    have h2 := jdI_all r (List.mem_of_find?_eq_some hr)
    exact h2 N k (by rw [Nat.eq_of_beq_eq_true h1.1, Nat.eq_of_beq_eq_true h1.2]; exact h)
  · exact jde_ok_0 N
def jdV_l : List (Nat × Nat) := [(64, 74), (78, 76), (96, 75)]
def jdV_P (r : Nat × Nat) : Prop := ∀ N, jp_V r.1 = some N → jde_ok r.2 N.1
theorem jdV_64 : jdV_P (64, 74) := by
  intro N h
  have e : jp_V 64 = some mL_feed := rfl
  have h2 := e.symm.trans h
  cases h2
  exact jde_ok_74
theorem jdV_78 : jdV_P (78, 76) := by
  intro N h
  have e : jp_V 78 = some mL_lower := rfl
  have h2 := e.symm.trans h
  cases h2
  exact jde_ok_76
theorem jdV_96 : jdV_P (96, 75) := by
  intro N h
  have e : jp_V 96 = some mL_isLive := rfl
  have h2 := e.symm.trans h
  cases h2
  exact jde_ok_75
theorem jdV_all : ∀ r ∈ jdV_l, jdV_P r := List.forall_mem_cons.mpr ⟨jdV_64, List.forall_mem_cons.mpr ⟨jdV_78, List.forall_mem_cons.mpr ⟨jdV_96, (fun _ h => by cases h)⟩⟩⟩
def jdV (i : Nat) : Nat := match jdV_l.find? (fun r => Nat.beq r.1 i) with
  | some r => r.2
  | none => 0
theorem jdV_ok {i : Nat} {N : jm_M × jm_Hh} (h : jp_V i = some N) : jde_ok (jdV i) N.1 := by
  unfold jdV
  split
  · rename_i r hr
    have h1 := List.find?_some hr
    have h2 := jdV_all r (List.mem_of_find?_eq_some hr)
    exact h2 N (by rw [Nat.eq_of_beq_eq_true h1]; exact h)
  · exact jde_ok_0 N.1
theorem js_inv_ix {M N : jm_M} {i : Instr} {len f : Nat} {st as r : List js_V} {D : js_S} (h : js_inv M i len st D = some (N, f, as, r)) : jde_ok (jdI (jm_q M) (js_ix i)) N := by
  have : ∃ k, jp_M (jm_q M) (js_ix i) = some (N, k) := by
    unfold js_inv at h
    split at h
    · rename_i idx
      split at h
      · rename_i N1 hN
        split at h
        · split at h
          · split at h
            · split at h
              · cases h
                exact ⟨_, hN⟩
              · cases h
            · cases h
          · cases h
        · cases h
      · cases h
    · rename_i idx
      split at h
      · rename_i N1 k1 hN
        split at h
        · cases h
          exact ⟨_, hN⟩
        · cases h
      · cases h
    · rename_i idx
      split at h
      · rename_i N1 k1 hN
        split at h
        · split at h
          · cases h
            exact ⟨_, hN⟩
          · cases h
        · cases h
      · cases h
    · cases h
  obtain ⟨k, hk⟩ := this
  exact jdI_ok hk
theorem js_winv_ix {M : jm_M} {N : jm_M × jm_Hh} {i : Instr} {len : Nat} {st as r : List js_V} (h : js_winv M i len st = some (N, as, r)) : jde_ok (jdV (js_ix i)) N.1 := by
  have : jp_V (js_ix i) = some N := by
    unfold js_winv at h
    split at h
    · rename_i idx
      split at h
      · split at h
        · rename_i N1 hN
          split at h
          · cases h
            exact hN
          · cases h
        · cases h
      · cases h
    · cases h
  exact jdV_ok this
