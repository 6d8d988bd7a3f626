/-! DECODED INSTRUCTIONS: by the number of a method -/
def jde (t pc : Nat) : Option (Instr × Nat) := (bif Nat.blt t 69 then (bif Nat.blt t 35 then (bif Nat.blt t 18 then (bif Nat.blt t 9 then (bif Nat.blt t 5 then (bif Nat.blt t 3 then (bif Nat.blt t 2 then (bif Nat.beq t 1 then jde_1 pc else none) else (bif Nat.beq t 2 then jde_2 pc else none)) else (bif Nat.blt t 4 then (bif Nat.beq t 3 then jde_3 pc else none) else (bif Nat.beq t 4 then jde_4 pc else none))) else (bif Nat.blt t 7 then (bif Nat.blt t 6 then (bif Nat.beq t 5 then jde_5 pc else none) else (bif Nat.beq t 6 then jde_6 pc else none)) else (bif Nat.blt t 8 then (bif Nat.beq t 7 then jde_7 pc else none) else (bif Nat.beq t 8 then jde_8 pc else none)))) else (bif Nat.blt t 13 then (bif Nat.blt t 11 then (bif Nat.blt t 10 then (bif Nat.beq t 9 then jde_9 pc else none) else (bif Nat.beq t 10 then jde_10 pc else none)) else (bif Nat.blt t 12 then (bif Nat.beq t 11 then jde_11 pc else none) else (bif Nat.beq t 12 then jde_12 pc else none))) else (bif Nat.blt t 15 then (bif Nat.blt t 14 then (bif Nat.beq t 13 then jde_13 pc else none) else (bif Nat.beq t 14 then jde_14 pc else none)) else (bif Nat.blt t 16 then (bif Nat.beq t 15 then jde_15 pc else none) else (bif Nat.blt t 17 then (bif Nat.beq t 16 then jde_16 pc else none) else (bif Nat.beq t 17 then jde_17 pc else none)))))) else (bif Nat.blt t 26 then (bif Nat.blt t 22 then (bif Nat.blt t 20 then (bif Nat.blt t 19 then (bif Nat.beq t 18 then jde_18 pc else none) else (bif Nat.beq t 19 then jde_19 pc else none)) else (bif Nat.blt t 21 then (bif Nat.beq t 20 then jde_20 pc else none) else (bif Nat.beq t 21 then jde_21 pc else none))) else (bif Nat.blt t 24 then (bif Nat.blt t 23 then (bif Nat.beq t 22 then jde_22 pc else none) else (bif Nat.beq t 23 then jde_23 pc else none)) else (bif Nat.blt t 25 then (bif Nat.beq t 24 then jde_24 pc else none) else (bif Nat.beq t 25 then jde_25 pc else none)))) else (bif Nat.blt t 30 then (bif Nat.blt t 28 then (bif Nat.blt t 27 then (bif Nat.beq t 26 then jde_26 pc else none) else (bif Nat.beq t 27 then jde_27 pc else none)) else (bif Nat.blt t 29 then (bif Nat.beq t 28 then jde_28 pc else none) else (bif Nat.beq t 29 then jde_29 pc else none))) else (bif Nat.blt t 32 then (bif Nat.blt t 31 then (bif Nat.beq t 30 then jde_30 pc else none) else (bif Nat.beq t 31 then jde_31 pc else none)) else (bif Nat.blt t 33 then (bif Nat.beq t 32 then jde_32 pc else none) else (bif Nat.blt t 34 then (bif Nat.beq t 33 then jde_33 pc else none) else (bif Nat.beq t 34 then jde_34 pc else none))))))) else (bif Nat.blt t 52 then (bif Nat.blt t 43 then (bif Nat.blt t 39 then (bif Nat.blt t 37 then (bif Nat.blt t 36 then (bif Nat.beq t 35 then jde_35 pc else none) else (bif Nat.beq t 36 then jde_36 pc else none)) else (bif Nat.blt t 38 then (bif Nat.beq t 37 then jde_37 pc else none) else (bif Nat.beq t 38 then jde_38 pc else none))) else (bif Nat.blt t 41 then (bif Nat.blt t 40 then (bif Nat.beq t 39 then jde_39 pc else none) else (bif Nat.beq t 40 then jde_40 pc else none)) else (bif Nat.blt t 42 then (bif Nat.beq t 41 then jde_41 pc else none) else (bif Nat.beq t 42 then jde_42 pc else none)))) else (bif Nat.blt t 47 then (bif Nat.blt t 45 then (bif Nat.blt t 44 then (bif Nat.beq t 43 then jde_43 pc else none) else (bif Nat.beq t 44 then jde_44 pc else none)) else (bif Nat.blt t 46 then (bif Nat.beq t 45 then jde_45 pc else none) else (bif Nat.beq t 46 then jde_46 pc else none))) else (bif Nat.blt t 49 then (bif Nat.blt t 48 then (bif Nat.beq t 47 then jde_47 pc else none) else (bif Nat.beq t 48 then jde_48 pc else none)) else (bif Nat.blt t 50 then (bif Nat.beq t 49 then jde_49 pc else none) else (bif Nat.blt t 51 then (bif Nat.beq t 50 then jde_50 pc else none) else (bif Nat.beq t 51 then jde_51 pc else none)))))) else (bif Nat.blt t 60 then (bif Nat.blt t 56 then (bif Nat.blt t 54 then (bif Nat.blt t 53 then (bif Nat.beq t 52 then jde_52 pc else none) else (bif Nat.beq t 53 then jde_53 pc else none)) else (bif Nat.blt t 55 then (bif Nat.beq t 54 then jde_54 pc else none) else (bif Nat.beq t 55 then jde_55 pc else none))) else (bif Nat.blt t 58 then (bif Nat.blt t 57 then (bif Nat.beq t 56 then jde_56 pc else none) else (bif Nat.beq t 57 then jde_57 pc else none)) else (bif Nat.blt t 59 then (bif Nat.beq t 58 then jde_58 pc else none) else (bif Nat.beq t 59 then jde_59 pc else none)))) else (bif Nat.blt t 64 then (bif Nat.blt t 62 then (bif Nat.blt t 61 then (bif Nat.beq t 60 then jde_60 pc else none) else (bif Nat.beq t 61 then jde_61 pc else none)) else (bif Nat.blt t 63 then (bif Nat.beq t 62 then jde_62 pc else none) else (bif Nat.beq t 63 then jde_63 pc else none))) else (bif Nat.blt t 66 then (bif Nat.blt t 65 then (bif Nat.beq t 64 then jde_64 pc else none) else (bif Nat.beq t 65 then jde_65 pc else none)) else (bif Nat.blt t 67 then (bif Nat.beq t 66 then jde_66 pc else none) else (bif Nat.blt t 68 then (bif Nat.beq t 67 then jde_67 pc else none) else (bif Nat.beq t 68 then jde_68 pc else none)))))))) else (bif Nat.blt t 103 then (bif Nat.blt t 86 then (bif Nat.blt t 77 then (bif Nat.blt t 73 then (bif Nat.blt t 71 then (bif Nat.blt t 70 then (bif Nat.beq t 69 then jde_69 pc else none) else (bif Nat.beq t 70 then jde_70 pc else none)) else (bif Nat.blt t 72 then (bif Nat.beq t 71 then jde_71 pc else none) else (bif Nat.beq t 72 then jde_72 pc else none))) else (bif Nat.blt t 75 then (bif Nat.blt t 74 then (bif Nat.beq t 73 then jde_73 pc else none) else (bif Nat.beq t 74 then jde_74 pc else none)) else (bif Nat.blt t 76 then (bif Nat.beq t 75 then jde_75 pc else none) else (bif Nat.beq t 76 then jde_76 pc else none)))) else (bif Nat.blt t 81 then (bif Nat.blt t 79 then (bif Nat.blt t 78 then (bif Nat.beq t 77 then jde_77 pc else none) else (bif Nat.beq t 78 then jde_78 pc else none)) else (bif Nat.blt t 80 then (bif Nat.beq t 79 then jde_79 pc else none) else (bif Nat.beq t 80 then jde_80 pc else none))) else (bif Nat.blt t 83 then (bif Nat.blt t 82 then (bif Nat.beq t 81 then jde_81 pc else none) else (bif Nat.beq t 82 then jde_82 pc else none)) else (bif Nat.blt t 84 then (bif Nat.beq t 83 then jde_83 pc else none) else (bif Nat.blt t 85 then (bif Nat.beq t 84 then jde_84 pc else none) else (bif Nat.beq t 85 then jde_85 pc else none)))))) else (bif Nat.blt t 94 then (bif Nat.blt t 90 then (bif Nat.blt t 88 then (bif Nat.blt t 87 then (bif Nat.beq t 86 then jde_86 pc else none) else (bif Nat.beq t 87 then jde_87 pc else none)) else (bif Nat.blt t 89 then (bif Nat.beq t 88 then jde_88 pc else none) else (bif Nat.beq t 89 then jde_89 pc else none))) else (bif Nat.blt t 92 then (bif Nat.blt t 91 then (bif Nat.beq t 90 then jde_90 pc else none) else (bif Nat.beq t 91 then jde_91 pc else none)) else (bif Nat.blt t 93 then (bif Nat.beq t 92 then jde_92 pc else none) else (bif Nat.beq t 93 then jde_93 pc else none)))) else (bif Nat.blt t 98 then (bif Nat.blt t 96 then (bif Nat.blt t 95 then (bif Nat.beq t 94 then jde_94 pc else none) else (bif Nat.beq t 95 then jde_95 pc else none)) else (bif Nat.blt t 97 then (bif Nat.beq t 96 then jde_96 pc else none) else (bif Nat.beq t 97 then jde_97 pc else none))) else (bif Nat.blt t 100 then (bif Nat.blt t 99 then (bif Nat.beq t 98 then jde_98 pc else none) else (bif Nat.beq t 99 then jde_99 pc else none)) else (bif Nat.blt t 101 then (bif Nat.beq t 100 then jde_100 pc else none) else (bif Nat.blt t 102 then (bif Nat.beq t 101 then jde_101 pc else none) else (bif Nat.beq t 102 then jde_102 pc else none))))))) else (bif Nat.blt t 120 then (bif Nat.blt t 111 then (bif Nat.blt t 107 then (bif Nat.blt t 105 then (bif Nat.blt t 104 then (bif Nat.beq t 103 then jde_103 pc else none) else (bif Nat.beq t 104 then jde_104 pc else none)) else (bif Nat.blt t 106 then (bif Nat.beq t 105 then jde_105 pc else none) else (bif Nat.beq t 106 then jde_106 pc else none))) else (bif Nat.blt t 109 then (bif Nat.blt t 108 then (bif Nat.beq t 107 then jde_107 pc else none) else (bif Nat.beq t 108 then jde_108 pc else none)) else (bif Nat.blt t 110 then (bif Nat.beq t 109 then jde_109 pc else none) else (bif Nat.beq t 110 then jde_110 pc else none)))) else (bif Nat.blt t 115 then (bif Nat.blt t 113 then (bif Nat.blt t 112 then (bif Nat.beq t 111 then jde_111 pc else none) else (bif Nat.beq t 112 then jde_112 pc else none)) else (bif Nat.blt t 114 then (bif Nat.beq t 113 then jde_113 pc else none) else (bif Nat.beq t 114 then jde_114 pc else none))) else (bif Nat.blt t 117 then (bif Nat.blt t 116 then (bif Nat.beq t 115 then jde_115 pc else none) else (bif Nat.beq t 116 then jde_116 pc else none)) else (bif Nat.blt t 118 then (bif Nat.beq t 117 then jde_117 pc else none) else (bif Nat.blt t 119 then (bif Nat.beq t 118 then jde_118 pc else none) else (bif Nat.beq t 119 then jde_119 pc else none)))))) else (bif Nat.blt t 129 then (bif Nat.blt t 124 then (bif Nat.blt t 122 then (bif Nat.blt t 121 then (bif Nat.beq t 120 then jde_120 pc else none) else (bif Nat.beq t 121 then jde_121 pc else none)) else (bif Nat.blt t 123 then (bif Nat.beq t 122 then jde_122 pc else none) else (bif Nat.beq t 123 then jde_123 pc else none))) else (bif Nat.blt t 126 then (bif Nat.blt t 125 then (bif Nat.beq t 124 then jde_124 pc else none) else (bif Nat.beq t 125 then jde_125 pc else none)) else (bif Nat.blt t 127 then (bif Nat.beq t 126 then jde_126 pc else none) else (bif Nat.blt t 128 then (bif Nat.beq t 127 then jde_127 pc else none) else (bif Nat.beq t 128 then jde_128 pc else none))))) else (bif Nat.blt t 133 then (bif Nat.blt t 131 then (bif Nat.blt t 130 then (bif Nat.beq t 129 then jde_129 pc else none) else (bif Nat.beq t 130 then jde_130 pc else none)) else (bif Nat.blt t 132 then (bif Nat.beq t 131 then jde_131 pc else none) else (bif Nat.beq t 132 then jde_132 pc else none))) else (bif Nat.blt t 135 then (bif Nat.blt t 134 then (bif Nat.beq t 133 then jde_133 pc else none) else (bif Nat.beq t 134 then jde_134 pc else none)) else (bif Nat.blt t 136 then (bif Nat.beq t 135 then jde_135 pc else none) else (bif Nat.blt t 137 then (bif Nat.beq t 136 then jde_136 pc else none) else (bif Nat.beq t 137 then jde_137 pc else none)))))))))
def jde_ok (t : Nat) (M : jm_M) : Prop := ∀ pc r, jde t pc = some r → decode M.2.1 pc = .ok r
theorem jde_ok_0 (M : jm_M) : jde_ok 0 M := fun pc r h => by cases h
theorem jde_ok_1 : jde_ok 1 mL_law := fun pc r h => jde_1_ok pc r h
theorem jde_ok_2 : jde_ok 2 mP_init := fun pc r h => jde_2_ok pc r h
theorem jde_ok_3 : jde_ok 3 mP_feed := fun pc r h => jde_3_ok pc r h
theorem jde_ok_4 : jde_ok 4 mP_improve := fun pc r h => jde_4_ok pc r h
theorem jde_ok_5 : jde_ok 5 mP_lower := fun pc r h => jde_5_ok pc r h
theorem jde_ok_6 : jde_ok 6 mP_read := fun pc r h => jde_6_ok pc r h
theorem jde_ok_7 : jde_ok 7 mCo_init := fun pc r h => jde_7_ok pc r h
theorem jde_ok_8 : jde_ok 8 mCo_add := fun pc r h => jde_8_ok pc r h
theorem jde_ok_9 : jde_ok 9 mCo_begin := fun pc r h => jde_9_ok pc r h
theorem jde_ok_10 : jde_ok 10 mCo_copyFrom := fun pc r h => jde_10_ok pc r h
theorem jde_ok_11 : jde_ok 11 mCo_defines := fun pc r h => jde_11_ok pc r h
theorem jde_ok_12 : jde_ok 12 mCo_findLeaders := fun pc r h => jde_12_ok pc r h
theorem jde_ok_13 : jde_ok 13 mCo_findReached := fun pc r h => jde_13_ok pc r h
theorem jde_ok_14 : jde_ok 14 mCo_fits := fun pc r h => jde_14_ok pc r h
theorem jde_ok_15 : jde_ok 15 mCo_goesOn := fun pc r h => jde_15_ok pc r h
theorem jde_ok_16 : jde_ok 16 mCo_isWorkedOut := fun pc r h => jde_16_ok pc r h
theorem jde_ok_17 : jde_ok 17 mCo_lastOf := fun pc r h => jde_17_ok pc r h
theorem jde_ok_18 : jde_ok 18 mCo_leaps := fun pc r h => jde_18_ok pc r h
theorem jde_ok_19 : jde_ok 19 mCo_leapsInside := fun pc r h => jde_19_ok pc r h
theorem jde_ok_20 : jde_ok 20 mCo_leaveOut := fun pc r h => jde_20_ok pc r h
theorem jde_ok_21 : jde_ok 21 mCo_put := fun pc r h => jde_21_ok pc r h
theorem jde_ok_22 : jde_ok 22 mCo_sweep := fun pc r h => jde_22_ok pc r h
theorem jde_ok_23 : jde_ok 23 mCo_usesA := fun pc r h => jde_23_ok pc r h
theorem jde_ok_24 : jde_ok 24 mCo_usesB := fun pc r h => jde_24_ok pc r h
theorem jde_ok_25 : jde_ok 25 mHo_init := fun pc r h => jde_25_ok pc r h
theorem jde_ok_26 : jde_ok 26 mHo_begin := fun pc r h => jde_26_ok pc r h
theorem jde_ok_27 : jde_ok 27 mHo_find := fun pc r h => jde_27_ok pc r h
theorem jde_ok_28 : jde_ok 28 mHo_flow := fun pc r h => jde_28_ok pc r h
theorem jde_ok_29 : jde_ok 29 mHo_follow := fun pc r h => jde_29_ok pc r h
theorem jde_ok_30 : jde_ok 30 mHo_pass := fun pc r h => jde_30_ok pc r h
theorem jde_ok_31 : jde_ok 31 mIm_init := fun pc r h => jde_31_ok pc r h
theorem jde_ok_32 : jde_ok 32 mIm_goThrough := fun pc r h => jde_32_ok pc r h
theorem jde_ok_33 : jde_ok 33 mIm_leaveDead := fun pc r h => jde_33_ok pc r h
theorem jde_ok_34 : jde_ok 34 mIm_leaveUnreached := fun pc r h => jde_34_ok pc r h
theorem jde_ok_35 : jde_ok 35 mIm_mendJumps := fun pc r h => jde_35_ok pc r h
theorem jde_ok_36 : jde_ok 36 mIm_press := fun pc r h => jde_36_ok pc r h
theorem jde_ok_37 : jde_ok 37 mIm_putConstant := fun pc r h => jde_37_ok pc r h
theorem jde_ok_38 : jde_ok 38 mIm_putConstants := fun pc r h => jde_38_ok pc r h
theorem jde_ok_39 : jde_ok 39 mIm_putCopies := fun pc r h => jde_39_ok pc r h
theorem jde_ok_40 : jde_ok 40 mIm_putCopy := fun pc r h => jde_40_ok pc r h
theorem jde_ok_41 : jde_ok 41 mIm_settleTests := fun pc r h => jde_41_ok pc r h
theorem jde_ok_42 : jde_ok 42 mKn_init := fun pc r h => jde_42_ok pc r h
theorem jde_ok_43 : jde_ok 43 mKn_begin := fun pc r h => jde_43_ok pc r h
theorem jde_ok_44 : jde_ok 44 mKn_first := fun pc r h => jde_44_ok pc r h
theorem jde_ok_45 : jde_ok 45 mKn_flow := fun pc r h => jde_45_ok pc r h
theorem jde_ok_46 : jde_ok 46 mKn_follow := fun pc r h => jde_46_ok pc r h
theorem jde_ok_47 : jde_ok 47 mKn_learn := fun pc r h => jde_47_ok pc r h
theorem jde_ok_48 : jde_ok 48 mKn_pass := fun pc r h => jde_48_ok pc r h
theorem jde_ok_49 : jde_ok 49 mKn_second := fun pc r h => jde_49_ok pc r h
theorem jde_ok_50 : jde_ok 50 mLi_init := fun pc r h => jde_50_ok pc r h
theorem jde_ok_51 : jde_ok 51 mLi_find := fun pc r h => jde_51_ok pc r h
theorem jde_ok_52 : jde_ok 52 mLi_giveColours := fun pc r h => jde_52_ok pc r h
theorem jde_ok_53 : jde_ok 53 mLi_join := fun pc r h => jde_53_ok pc r h
theorem jde_ok_54 : jde_ok 54 mLi_look := fun pc r h => jde_54_ok pc r h
theorem jde_ok_55 : jde_ok 55 mMa_init := fun pc r h => jde_55_ok pc r h
theorem jde_ok_56 : jde_ok 56 mMa_arrive := fun pc r h => jde_56_ok pc r h
theorem jde_ok_57 : jde_ok 57 mMa_leap := fun pc r h => jde_57_ok pc r h
theorem jde_ok_58 : jde_ok 58 mMa_make := fun pc r h => jde_58_ok pc r h
theorem jde_ok_59 : jde_ok 59 mMa_pop := fun pc r h => jde_59_ok pc r h
theorem jde_ok_60 : jde_ok 60 mMa_push := fun pc r h => jde_60_ok pc r h
theorem jde_ok_61 : jde_ok 61 mMa_takeStep := fun pc r h => jde_61_ok pc r h
theorem jde_ok_62 : jde_ok 62 mMa_test := fun pc r h => jde_62_ok pc r h
theorem jde_ok_63 : jde_ok 63 mNa_init := fun pc r h => jde_63_ok pc r h
theorem jde_ok_64 : jde_ok 64 mNa_forget := fun pc r h => jde_64_ok pc r h
theorem jde_ok_65 : jde_ok 65 mRe_init := fun pc r h => jde_65_ok pc r h
theorem jde_ok_66 : jde_ok 66 mRe_begin := fun pc r h => jde_66_ok pc r h
theorem jde_ok_67 : jde_ok 67 mRe_beginStatements := fun pc r h => jde_67_ok pc r h
theorem jde_ok_68 : jde_ok 68 mRe_closeRound := fun pc r h => jde_68_ok pc r h
theorem jde_ok_69 : jde_ok 69 mRe_expect := fun pc r h => jde_69_ok pc r h
theorem jde_ok_70 : jde_ok 70 mRe_finish := fun pc r h => jde_70_ok pc r h
theorem jde_ok_71 : jde_ok 71 mRe_go := fun pc r h => jde_71_ok pc r h
theorem jde_ok_72 : jde_ok 72 mRe_hasMore := fun pc r h => jde_72_ok pc r h
theorem jde_ok_73 : jde_ok 73 mRe_isAtDecl := fun pc r h => jde_73_ok pc r h
theorem jde_ok_74 : jde_ok 74 mRe_isBinary := fun pc r h => jde_74_ok pc r h
theorem jde_ok_75 : jde_ok 75 mRe_kind := fun pc r h => jde_75_ok pc r h
theorem jde_ok_76 : jde_ok 76 mRe_openOne := fun pc r h => jde_76_ok pc r h
theorem jde_ok_77 : jde_ok 77 mRe_openRound := fun pc r h => jde_77_ok pc r h
theorem jde_ok_78 : jde_ok 78 mRe_pend := fun pc r h => jde_78_ok pc r h
theorem jde_ok_79 : jde_ok 79 mRe_settle := fun pc r h => jde_79_ok pc r h
theorem jde_ok_80 : jde_ok 80 mRe_statement := fun pc r h => jde_80_ok pc r h
theorem jde_ok_81 : jde_ok 81 mRe_takeBlock := fun pc r h => jde_81_ok pc r h
theorem jde_ok_82 : jde_ok 82 mRe_takeClosing := fun pc r h => jde_82_ok pc r h
theorem jde_ok_83 : jde_ok 83 mRe_takeDo := fun pc r h => jde_83_ok pc r h
theorem jde_ok_84 : jde_ok 84 mRe_takeExpr := fun pc r h => jde_84_ok pc r h
theorem jde_ok_85 : jde_ok 85 mRe_takeItems := fun pc r h => jde_85_ok pc r h
theorem jde_ok_86 : jde_ok 86 mRe_takeLeave := fun pc r h => jde_86_ok pc r h
theorem jde_ok_87 : jde_ok 87 mRe_takeOperand := fun pc r h => jde_87_ok pc r h
theorem jde_ok_88 : jde_ok 88 mRe_takeSimple := fun pc r h => jde_88_ok pc r h
theorem jde_ok_89 : jde_ok 89 mRu_init := fun pc r h => jde_89_ok pc r h
theorem jde_ok_90 : jde_ok 90 mSc_init := fun pc r h => jde_90_ok pc r h
theorem jde_ok_91 : jde_ok 91 mSc_add := fun pc r h => jde_91_ok pc r h
theorem jde_ok_92 : jde_ok 92 mSc_aim := fun pc r h => jde_92_ok pc r h
theorem jde_ok_93 : jde_ok 93 mSc_forget := fun pc r h => jde_93_ok pc r h
theorem jde_ok_94 : jde_ok 94 mWo_init := fun pc r h => jde_94_ok pc r h
theorem jde_ok_95 : jde_ok 95 mWo_add := fun pc r h => jde_95_ok pc r h
theorem jde_ok_96 : jde_ok 96 mWo_isFigure := fun pc r h => jde_96_ok pc r h
theorem jde_ok_97 : jde_ok 97 mWo_isLetter := fun pc r h => jde_97_ok pc r h
theorem jde_ok_98 : jde_ok 98 mWo_longSign := fun pc r h => jde_98_ok pc r h
theorem jde_ok_99 : jde_ok 99 mWo_shortSign := fun pc r h => jde_99_ok pc r h
theorem jde_ok_100 : jde_ok 100 mWo_split := fun pc r h => jde_100_ok pc r h
theorem jde_ok_101 : jde_ok 101 mWo_takeName := fun pc r h => jde_101_ok pc r h
theorem jde_ok_102 : jde_ok 102 mWo_takeNumber := fun pc r h => jde_102_ok pc r h
theorem jde_ok_103 : jde_ok 103 mWo_takeSign := fun pc r h => jde_103_ok pc r h
theorem jde_ok_104 : jde_ok 104 mL_feed.1 := fun pc r h => jde_104_ok pc r h
theorem jde_ok_105 : jde_ok 105 mL_improve.1 := fun pc r h => jde_105_ok pc r h
theorem jde_ok_106 : jde_ok 106 mL_lower.1 := fun pc r h => jde_106_ok pc r h
theorem jde_ok_107 : jde_ok 107 mM_init := fun pc r h => jde_107_ok pc r h
theorem jde_ok_108 : jde_ok 108 mM_beginBlock := fun pc r h => jde_108_ok pc r h
theorem jde_ok_109 : jde_ok 109 mM_begun := fun pc r h => jde_109_ok pc r h
theorem jde_ok_110 : jde_ok 110 mM_byteAt := fun pc r h => jde_110_ok pc r h
theorem jde_ok_111 : jde_ok 111 mM_cutWords := fun pc r h => jde_111_ok pc r h
theorem jde_ok_112 : jde_ok 112 mM_fail := fun pc r h => jde_112_ok pc r h
theorem jde_ok_113 : jde_ok 113 mM_feed := fun pc r h => jde_113_ok pc r h
theorem jde_ok_114 : jde_ok 114 mM_goOver := fun pc r h => jde_114_ok pc r h
theorem jde_ok_115 : jde_ok 115 mM_improve := fun pc r h => jde_115_ok pc r h
theorem jde_ok_116 : jde_ok 116 mM_isFigure := fun pc r h => jde_116_ok pc r h
theorem jde_ok_117 : jde_ok 117 mM_isFine := fun pc r h => jde_117_ok pc r h
theorem jde_ok_118 : jde_ok 118 mM_isSign := fun pc r h => jde_118_ok pc r h
theorem jde_ok_119 : jde_ok 119 mM_isSmall := fun pc r h => jde_119_ok pc r h
theorem jde_ok_120 : jde_ok 120 mM_keyOf := fun pc r h => jde_120_ok pc r h
theorem jde_ok_121 : jde_ok 121 mM_loop := fun pc r h => jde_121_ok pc r h
theorem jde_ok_122 : jde_ok 122 mM_lower := fun pc r h => jde_122_ok pc r h
theorem jde_ok_123 : jde_ok 123 mM_opens := fun pc r h => jde_123_ok pc r h
theorem jde_ok_124 : jde_ok 124 mM_pairOf := fun pc r h => jde_124_ok pc r h
theorem jde_ok_125 : jde_ok 125 mM_push := fun pc r h => jde_125_ok pc r h
theorem jde_ok_126 : jde_ok 126 mM_read := fun pc r h => jde_126_ok pc r h
theorem jde_ok_127 : jde_ok 127 mM_readDecl := fun pc r h => jde_127_ok pc r h
theorem jde_ok_128 : jde_ok 128 mM_readLeave := fun pc r h => jde_128_ok pc r h
theorem jde_ok_129 : jde_ok 129 mM_readStatement := fun pc r h => jde_129_ok pc r h
theorem jde_ok_130 : jde_ok 130 mM_statementDone := fun pc r h => jde_130_ok pc r h
theorem jde_ok_131 : jde_ok 131 mM_step := fun pc r h => jde_131_ok pc r h
theorem jde_ok_132 : jde_ok 132 mM_take := fun pc r h => jde_132_ok pc r h
theorem jde_ok_133 : jde_ok 133 mM_takeOpen := fun pc r h => jde_133_ok pc r h
theorem jde_ok_134 : jde_ok 134 mM_thrown := fun pc r h => jde_134_ok pc r h
theorem jde_ok_135 : jde_ok 135 mM_top := fun pc r h => jde_135_ok pc r h
theorem jde_ok_136 : jde_ok 136 mArr_fill3 := fun pc r h => jde_136_ok pc r h
theorem jde_ok_137 : jde_ok 137 mArr_rangeCheck := fun pc r h => jde_137_ok pc r h
def jdI_l : List (Nat × Nat × Nat) := [(0, 103, 73), (0, 121, 67), (0, 124, 72), (0, 127, 80), (0, 130, 70), (0, 152, 58), (0, 156, 51), (0, 165, 36), (0, 17, 65), (0, 24, 90), (0, 38, 55), (0, 45, 7), (0, 52, 50), (0, 59, 42), (0, 66, 31), (0, 78, 89), (0, 99, 66), (11, 32, 97), (11, 36, 101), (11, 40, 96), (11, 43, 102), (11, 46, 103), (11, 49, 95), (11, 65, 98), (11, 69, 99), (12, 231, 117), (12, 265, 119), (12, 268, 110), (12, 272, 116), (12, 275, 120), (12, 287, 124), (12, 291, 118), (12, 313, 112), (12, 345, 123), (12, 349, 132), (12, 361, 131), (12, 367, 133), (12, 376, 125), (12, 380, 108), (12, 402, 135), (12, 416, 109), (12, 419, 128), (12, 443, 121), (12, 470, 127), (12, 473, 129), (12, 482, 130), (12, 485, 111), (12, 491, 114), (13, 17, 5), (13, 21, 4), (13, 58, 2), (13, 61, 107), (13, 69, 113), (13, 70, 6), (13, 73, 126), (13, 7, 3), (13, 81, 122), (13, 84, 115), (13, 85, 134), (14, 13, 137), (1, 63, 9), (1, 67, 21), (1, 71, 18), (1, 75, 19), (1, 78, 15), (2, 105, 26), (2, 109, 17), (2, 113, 30), (2, 117, 19), (2, 120, 28), (2, 123, 15), (2, 132, 11), (2, 40, 13), (2, 45, 12), (2, 55, 136), (2, 67, 16), (2, 81, 29), (3, 103, 49), (3, 106, 24), (3, 115, 16), (3, 11, 25), (3, 132, 27), (3, 133, 26), (3, 137, 40), (3, 140, 30), (3, 141, 22), (3, 153, 20), (3, 166, 41), (3, 169, 34), (3, 172, 32), (3, 175, 18), (3, 178, 13), (3, 181, 19), (3, 20, 50), (3, 29, 10), (3, 40, 38), (3, 44, 39), (3, 47, 33), (3, 50, 35), (3, 53, 51), (3, 56, 52), (3, 59, 47), (3, 71, 43), (3, 78, 37), (3, 82, 48), (3, 86, 44), (3, 90, 23), (4, 104, 11), (4, 30, 12), (4, 48, 45), (4, 53, 46), (4, 56, 43), (4, 60, 17), (4, 64, 48), (4, 70, 15), (4, 92, 23), (4, 98, 24), (5, 45, 54), (5, 49, 15), (5, 53, 53), (5, 57, 19), (5, 63, 11), (5, 68, 23), (5, 74, 24), (6, 109, 8), (6, 119, 60), (6, 141, 59), (6, 144, 62), (6, 153, 57), (6, 49, 9), (6, 81, 14), (6, 89, 56), (6, 98, 61), (8, 100, 75), (8, 107, 71), (8, 11, 94), (8, 138, 69), (8, 150, 76), (8, 172, 85), (8, 187, 77), (8, 190, 68), (8, 196, 81), (8, 209, 83), (8, 20, 63), (8, 218, 88), (8, 221, 80), (8, 224, 84), (8, 230, 92), (8, 233, 86), (8, 253, 78), (8, 257, 87), (8, 261, 74), (8, 268, 79), (8, 274, 82), (8, 41, 100), (8, 45, 64), (8, 52, 93), (8, 90, 91)]
def jdI_P (r : Nat × Nat × Nat) : Prop := ∀ N k, jp_M r.1 r.2.1 = some (N, k) → jde_ok r.2.2 N
theorem jdI_0_103 : jdI_P (0, 103, 73) := by
  intro N k h
  have e : ∃ j, jp_M 0 103 = some (mRe_isAtDecl, j) := ⟨_, rfl⟩
  obtain ⟨j, e⟩ := e
  have h2 := e.symm.trans h
  cases h2
  exact jde_ok_73
theorem jdI_0_121 : jdI_P (0, 121, 67) := by
  intro N k h
  have e : ∃ j, jp_M 0 121 = some (mRe_beginStatements, j) := ⟨_, rfl⟩
  obtain ⟨j, e⟩ := e
  have h2 := e.symm.trans h
  cases h2
  exact jde_ok_67
theorem jdI_0_124 : jdI_P (0, 124, 72) := by
  intro N k h
  have e : ∃ j, jp_M 0 124 = some (mRe_hasMore, j) := ⟨_, rfl⟩
  obtain ⟨j, e⟩ := e
  have h2 := e.symm.trans h
  cases h2
  exact jde_ok_72
theorem jdI_0_127 : jdI_P (0, 127, 80) := by
  intro N k h
  have e : ∃ j, jp_M 0 127 = some (mRe_statement, j) := ⟨_, rfl⟩
  obtain ⟨j, e⟩ := e
  have h2 := e.symm.trans h
  cases h2
  exact jde_ok_80
theorem jdI_0_130 : jdI_P (0, 130, 70) := by
  intro N k h
  have e : ∃ j, jp_M 0 130 = some (mRe_finish, j) := ⟨_, rfl⟩
  obtain ⟨j, e⟩ := e
  have h2 := e.symm.trans h
  cases h2
  exact jde_ok_70
theorem jdI_0_152 : jdI_P (0, 152, 58) := by
  intro N k h
  have e : ∃ j, jp_M 0 152 = some (mMa_make, j) := ⟨_, rfl⟩
  obtain ⟨j, e⟩ := e
  have h2 := e.symm.trans h
  cases h2
  exact jde_ok_58
theorem jdI_0_156 : jdI_P (0, 156, 51) := by
  intro N k h
  have e : ∃ j, jp_M 0 156 = some (mLi_find, j) := ⟨_, rfl⟩
  obtain ⟨j, e⟩ := e
  have h2 := e.symm.trans h
  cases h2
  exact jde_ok_51
theorem jdI_0_165 : jdI_P (0, 165, 36) := by
  intro N k h
  have e : ∃ j, jp_M 0 165 = some (mIm_press, j) := ⟨_, rfl⟩
  obtain ⟨j, e⟩ := e
  have h2 := e.symm.trans h
  cases h2
  exact jde_ok_36
theorem jdI_0_17 : jdI_P (0, 17, 65) := by
  intro N k h
  have e : ∃ j, jp_M 0 17 = some (mRe_init, j) := ⟨_, rfl⟩
  obtain ⟨j, e⟩ := e
  have h2 := e.symm.trans h
  cases h2
  exact jde_ok_65
theorem jdI_0_24 : jdI_P (0, 24, 90) := by
  intro N k h
  have e : ∃ j, jp_M 0 24 = some (mSc_init, j) := ⟨_, rfl⟩
  obtain ⟨j, e⟩ := e
  have h2 := e.symm.trans h
  cases h2
  exact jde_ok_90
theorem jdI_0_38 : jdI_P (0, 38, 55) := by
  intro N k h
  have e : ∃ j, jp_M 0 38 = some (mMa_init, j) := ⟨_, rfl⟩
  obtain ⟨j, e⟩ := e
  have h2 := e.symm.trans h
  cases h2
  exact jde_ok_55
theorem jdI_0_45 : jdI_P (0, 45, 7) := by
  intro N k h
  have e : ∃ j, jp_M 0 45 = some (mCo_init, j) := ⟨_, rfl⟩
  obtain ⟨j, e⟩ := e
  have h2 := e.symm.trans h
  cases h2
  exact jde_ok_7
theorem jdI_0_52 : jdI_P (0, 52, 50) := by
  intro N k h
  have e : ∃ j, jp_M 0 52 = some (mLi_init, j) := ⟨_, rfl⟩
  obtain ⟨j, e⟩ := e
  have h2 := e.symm.trans h
  cases h2
  exact jde_ok_50
theorem jdI_0_59 : jdI_P (0, 59, 42) := by
  intro N k h
  have e : ∃ j, jp_M 0 59 = some (mKn_init, j) := ⟨_, rfl⟩
  obtain ⟨j, e⟩ := e
  have h2 := e.symm.trans h
  cases h2
  exact jde_ok_42
theorem jdI_0_66 : jdI_P (0, 66, 31) := by
  intro N k h
  have e : ∃ j, jp_M 0 66 = some (mIm_init, j) := ⟨_, rfl⟩
  obtain ⟨j, e⟩ := e
  have h2 := e.symm.trans h
  cases h2
  exact jde_ok_31
theorem jdI_0_78 : jdI_P (0, 78, 89) := by
  intro N k h
  have e : ∃ j, jp_M 0 78 = some (mRu_init, j) := ⟨_, rfl⟩
  obtain ⟨j, e⟩ := e
  have h2 := e.symm.trans h
  cases h2
  exact jde_ok_89
theorem jdI_0_99 : jdI_P (0, 99, 66) := by
  intro N k h
  have e : ∃ j, jp_M 0 99 = some (mRe_begin, j) := ⟨_, rfl⟩
  obtain ⟨j, e⟩ := e
  have h2 := e.symm.trans h
  cases h2
  exact jde_ok_66
theorem jdI_11_32 : jdI_P (11, 32, 97) := by
  intro N k h
  have e : ∃ j, jp_M 11 32 = some (mWo_isLetter, j) := ⟨_, rfl⟩
  obtain ⟨j, e⟩ := e
  have h2 := e.symm.trans h
  cases h2
  exact jde_ok_97
theorem jdI_11_36 : jdI_P (11, 36, 101) := by
  intro N k h
  have e : ∃ j, jp_M 11 36 = some (mWo_takeName, j) := ⟨_, rfl⟩
  obtain ⟨j, e⟩ := e
  have h2 := e.symm.trans h
  cases h2
  exact jde_ok_101
theorem jdI_11_40 : jdI_P (11, 40, 96) := by
  intro N k h
  have e : ∃ j, jp_M 11 40 = some (mWo_isFigure, j) := ⟨_, rfl⟩
  obtain ⟨j, e⟩ := e
  have h2 := e.symm.trans h
  cases h2
  exact jde_ok_96
theorem jdI_11_43 : jdI_P (11, 43, 102) := by
  intro N k h
  have e : ∃ j, jp_M 11 43 = some (mWo_takeNumber, j) := ⟨_, rfl⟩
  obtain ⟨j, e⟩ := e
  have h2 := e.symm.trans h
  cases h2
  exact jde_ok_102
theorem jdI_11_46 : jdI_P (11, 46, 103) := by
  intro N k h
  have e : ∃ j, jp_M 11 46 = some (mWo_takeSign, j) := ⟨_, rfl⟩
  obtain ⟨j, e⟩ := e
  have h2 := e.symm.trans h
  cases h2
  exact jde_ok_103
theorem jdI_11_49 : jdI_P (11, 49, 95) := by
  intro N k h
  have e : ∃ j, jp_M 11 49 = some (mWo_add, j) := ⟨_, rfl⟩
  obtain ⟨j, e⟩ := e
  have h2 := e.symm.trans h
  cases h2
  exact jde_ok_95
theorem jdI_11_65 : jdI_P (11, 65, 98) := by
  intro N k h
  have e : ∃ j, jp_M 11 65 = some (mWo_longSign, j) := ⟨_, rfl⟩
  obtain ⟨j, e⟩ := e
  have h2 := e.symm.trans h
  cases h2
  exact jde_ok_98
theorem jdI_11_69 : jdI_P (11, 69, 99) := by
  intro N k h
  have e : ∃ j, jp_M 11 69 = some (mWo_shortSign, j) := ⟨_, rfl⟩
  obtain ⟨j, e⟩ := e
  have h2 := e.symm.trans h
  cases h2
  exact jde_ok_99
theorem jdI_12_231 : jdI_P (12, 231, 117) := by
  intro N k h
  have e : ∃ j, jp_M 12 231 = some (mM_isFine, j) := ⟨_, rfl⟩
  obtain ⟨j, e⟩ := e
  have h2 := e.symm.trans h
  cases h2
  exact jde_ok_117
theorem jdI_12_265 : jdI_P (12, 265, 119) := by
  intro N k h
  have e : ∃ j, jp_M 12 265 = some (mM_isSmall, j) := ⟨_, rfl⟩
  obtain ⟨j, e⟩ := e
  have h2 := e.symm.trans h
  cases h2
  exact jde_ok_119
theorem jdI_12_268 : jdI_P (12, 268, 110) := by
  intro N k h
  have e : ∃ j, jp_M 12 268 = some (mM_byteAt, j) := ⟨_, rfl⟩
  obtain ⟨j, e⟩ := e
  have h2 := e.symm.trans h
  cases h2
  exact jde_ok_110
theorem jdI_12_272 : jdI_P (12, 272, 116) := by
  intro N k h
  have e : ∃ j, jp_M 12 272 = some (mM_isFigure, j) := ⟨_, rfl⟩
  obtain ⟨j, e⟩ := e
  have h2 := e.symm.trans h
  cases h2
  exact jde_ok_116
theorem jdI_12_275 : jdI_P (12, 275, 120) := by
  intro N k h
  have e : ∃ j, jp_M 12 275 = some (mM_keyOf, j) := ⟨_, rfl⟩
  obtain ⟨j, e⟩ := e
  have h2 := e.symm.trans h
  cases h2
  exact jde_ok_120
theorem jdI_12_287 : jdI_P (12, 287, 124) := by
  intro N k h
  have e : ∃ j, jp_M 12 287 = some (mM_pairOf, j) := ⟨_, rfl⟩
  obtain ⟨j, e⟩ := e
  have h2 := e.symm.trans h
  cases h2
  exact jde_ok_124
theorem jdI_12_291 : jdI_P (12, 291, 118) := by
  intro N k h
  have e : ∃ j, jp_M 12 291 = some (mM_isSign, j) := ⟨_, rfl⟩
  obtain ⟨j, e⟩ := e
  have h2 := e.symm.trans h
  cases h2
  exact jde_ok_118
theorem jdI_12_313 : jdI_P (12, 313, 112) := by
  intro N k h
  have e : ∃ j, jp_M 12 313 = some (mM_fail, j) := ⟨_, rfl⟩
  obtain ⟨j, e⟩ := e
  have h2 := e.symm.trans h
  cases h2
  exact jde_ok_112
theorem jdI_12_345 : jdI_P (12, 345, 123) := by
  intro N k h
  have e : ∃ j, jp_M 12 345 = some (mM_opens, j) := ⟨_, rfl⟩
  obtain ⟨j, e⟩ := e
  have h2 := e.symm.trans h
  cases h2
  exact jde_ok_123
theorem jdI_12_349 : jdI_P (12, 349, 132) := by
  intro N k h
  have e : ∃ j, jp_M 12 349 = some (mM_take, j) := ⟨_, rfl⟩
  obtain ⟨j, e⟩ := e
  have h2 := e.symm.trans h
  cases h2
  exact jde_ok_132
theorem jdI_12_361 : jdI_P (12, 361, 131) := by
  intro N k h
  have e : ∃ j, jp_M 12 361 = some (mM_step, j) := ⟨_, rfl⟩
  obtain ⟨j, e⟩ := e
  have h2 := e.symm.trans h
  cases h2
  exact jde_ok_131
theorem jdI_12_367 : jdI_P (12, 367, 133) := by
  intro N k h
  have e : ∃ j, jp_M 12 367 = some (mM_takeOpen, j) := ⟨_, rfl⟩
  obtain ⟨j, e⟩ := e
  have h2 := e.symm.trans h
  cases h2
  exact jde_ok_133
theorem jdI_12_376 : jdI_P (12, 376, 125) := by
  intro N k h
  have e : ∃ j, jp_M 12 376 = some (mM_push, j) := ⟨_, rfl⟩
  obtain ⟨j, e⟩ := e
  have h2 := e.symm.trans h
  cases h2
  exact jde_ok_125
theorem jdI_12_380 : jdI_P (12, 380, 108) := by
  intro N k h
  have e : ∃ j, jp_M 12 380 = some (mM_beginBlock, j) := ⟨_, rfl⟩
  obtain ⟨j, e⟩ := e
  have h2 := e.symm.trans h
  cases h2
  exact jde_ok_108
theorem jdI_12_402 : jdI_P (12, 402, 135) := by
  intro N k h
  have e : ∃ j, jp_M 12 402 = some (mM_top, j) := ⟨_, rfl⟩
  obtain ⟨j, e⟩ := e
  have h2 := e.symm.trans h
  cases h2
  exact jde_ok_135
theorem jdI_12_416 : jdI_P (12, 416, 109) := by
  intro N k h
  have e : ∃ j, jp_M 12 416 = some (mM_begun, j) := ⟨_, rfl⟩
  obtain ⟨j, e⟩ := e
  have h2 := e.symm.trans h
  cases h2
  exact jde_ok_109
theorem jdI_12_419 : jdI_P (12, 419, 128) := by
  intro N k h
  have e : ∃ j, jp_M 12 419 = some (mM_readLeave, j) := ⟨_, rfl⟩
  obtain ⟨j, e⟩ := e
  have h2 := e.symm.trans h
  cases h2
  exact jde_ok_128
theorem jdI_12_443 : jdI_P (12, 443, 121) := by
  intro N k h
  have e : ∃ j, jp_M 12 443 = some (mM_loop, j) := ⟨_, rfl⟩
  obtain ⟨j, e⟩ := e
  have h2 := e.symm.trans h
  cases h2
  exact jde_ok_121
theorem jdI_12_470 : jdI_P (12, 470, 127) := by
  intro N k h
  have e : ∃ j, jp_M 12 470 = some (mM_readDecl, j) := ⟨_, rfl⟩
  obtain ⟨j, e⟩ := e
  have h2 := e.symm.trans h
  cases h2
  exact jde_ok_127
theorem jdI_12_473 : jdI_P (12, 473, 129) := by
  intro N k h
  have e : ∃ j, jp_M 12 473 = some (mM_readStatement, j) := ⟨_, rfl⟩
  obtain ⟨j, e⟩ := e
  have h2 := e.symm.trans h
  cases h2
  exact jde_ok_129
theorem jdI_12_482 : jdI_P (12, 482, 130) := by
  intro N k h
  have e : ∃ j, jp_M 12 482 = some (mM_statementDone, j) := ⟨_, rfl⟩
  obtain ⟨j, e⟩ := e
  have h2 := e.symm.trans h
  cases h2
  exact jde_ok_130
theorem jdI_12_485 : jdI_P (12, 485, 111) := by
  intro N k h
  have e : ∃ j, jp_M 12 485 = some (mM_cutWords, j) := ⟨_, rfl⟩
  obtain ⟨j, e⟩ := e
  have h2 := e.symm.trans h
  cases h2
  exact jde_ok_111
theorem jdI_12_491 : jdI_P (12, 491, 114) := by
  intro N k h
  have e : ∃ j, jp_M 12 491 = some (mM_goOver, j) := ⟨_, rfl⟩
  obtain ⟨j, e⟩ := e
  have h2 := e.symm.trans h
  cases h2
  exact jde_ok_114
theorem jdI_13_17 : jdI_P (13, 17, 5) := by
  intro N k h
  have e : ∃ j, jp_M 13 17 = some (mP_lower, j) := ⟨_, rfl⟩
  obtain ⟨j, e⟩ := e
  have h2 := e.symm.trans h
  cases h2
  exact jde_ok_5
theorem jdI_13_21 : jdI_P (13, 21, 4) := by
  intro N k h
  have e : ∃ j, jp_M 13 21 = some (mP_improve, j) := ⟨_, rfl⟩
  obtain ⟨j, e⟩ := e
  have h2 := e.symm.trans h
  cases h2
  exact jde_ok_4
theorem jdI_13_58 : jdI_P (13, 58, 2) := by
  intro N k h
  have e : ∃ j, jp_M 13 58 = some (mP_init, j) := ⟨_, rfl⟩
  obtain ⟨j, e⟩ := e
  have h2 := e.symm.trans h
  cases h2
  exact jde_ok_2
theorem jdI_13_61 : jdI_P (13, 61, 107) := by
  intro N k h
  have e : ∃ j, jp_M 13 61 = some (mM_init, j) := ⟨_, rfl⟩
  obtain ⟨j, e⟩ := e
  have h2 := e.symm.trans h
  cases h2
  exact jde_ok_107
theorem jdI_13_69 : jdI_P (13, 69, 113) := by
  intro N k h
  have e : ∃ j, jp_M 13 69 = some (mM_feed, j) := ⟨_, rfl⟩
  obtain ⟨j, e⟩ := e
  have h2 := e.symm.trans h
  cases h2
  exact jde_ok_113
theorem jdI_13_70 : jdI_P (13, 70, 6) := by
  intro N k h
  have e : ∃ j, jp_M 13 70 = some (mP_read, j) := ⟨_, rfl⟩
  obtain ⟨j, e⟩ := e
  have h2 := e.symm.trans h
  cases h2
  exact jde_ok_6
theorem jdI_13_73 : jdI_P (13, 73, 126) := by
  intro N k h
  have e : ∃ j, jp_M 13 73 = some (mM_read, j) := ⟨_, rfl⟩
  obtain ⟨j, e⟩ := e
  have h2 := e.symm.trans h
  cases h2
  exact jde_ok_126
theorem jdI_13_7 : jdI_P (13, 7, 3) := by
  intro N k h
  have e : ∃ j, jp_M 13 7 = some (mP_feed, j) := ⟨_, rfl⟩
  obtain ⟨j, e⟩ := e
  have h2 := e.symm.trans h
  cases h2
  exact jde_ok_3
theorem jdI_13_81 : jdI_P (13, 81, 122) := by
  intro N k h
  have e : ∃ j, jp_M 13 81 = some (mM_lower, j) := ⟨_, rfl⟩
  obtain ⟨j, e⟩ := e
  have h2 := e.symm.trans h
  cases h2
  exact jde_ok_122
theorem jdI_13_84 : jdI_P (13, 84, 115) := by
  intro N k h
  have e : ∃ j, jp_M 13 84 = some (mM_improve, j) := ⟨_, rfl⟩
  obtain ⟨j, e⟩ := e
  have h2 := e.symm.trans h
  cases h2
  exact jde_ok_115
theorem jdI_13_85 : jdI_P (13, 85, 134) := by
  intro N k h
  have e : ∃ j, jp_M 13 85 = some (mM_thrown, j) := ⟨_, rfl⟩
  obtain ⟨j, e⟩ := e
  have h2 := e.symm.trans h
  cases h2
  exact jde_ok_134
theorem jdI_14_13 : jdI_P (14, 13, 137) := by
  intro N k h
  have e : ∃ j, jp_M 14 13 = some (mArr_rangeCheck, j) := ⟨_, rfl⟩
  obtain ⟨j, e⟩ := e
  have h2 := e.symm.trans h
  cases h2
  exact jde_ok_137
theorem jdI_1_63 : jdI_P (1, 63, 9) := by
  intro N k h
  have e : ∃ j, jp_M 1 63 = some (mCo_begin, j) := ⟨_, rfl⟩
  obtain ⟨j, e⟩ := e
  have h2 := e.symm.trans h
  cases h2
  exact jde_ok_9
theorem jdI_1_67 : jdI_P (1, 67, 21) := by
  intro N k h
  have e : ∃ j, jp_M 1 67 = some (mCo_put, j) := ⟨_, rfl⟩
  obtain ⟨j, e⟩ := e
  have h2 := e.symm.trans h
  cases h2
  exact jde_ok_21
theorem jdI_1_71 : jdI_P (1, 71, 18) := by
  intro N k h
  have e : ∃ j, jp_M 1 71 = some (mCo_leaps, j) := ⟨_, rfl⟩
  obtain ⟨j, e⟩ := e
  have h2 := e.symm.trans h
  cases h2
  exact jde_ok_18
theorem jdI_1_75 : jdI_P (1, 75, 19) := by
  intro N k h
  have e : ∃ j, jp_M 1 75 = some (mCo_leapsInside, j) := ⟨_, rfl⟩
  obtain ⟨j, e⟩ := e
  have h2 := e.symm.trans h
  cases h2
  exact jde_ok_19
theorem jdI_1_78 : jdI_P (1, 78, 15) := by
  intro N k h
  have e : ∃ j, jp_M 1 78 = some (mCo_goesOn, j) := ⟨_, rfl⟩
  obtain ⟨j, e⟩ := e
  have h2 := e.symm.trans h
  cases h2
  exact jde_ok_15
theorem jdI_2_105 : jdI_P (2, 105, 26) := by
  intro N k h
  have e : ∃ j, jp_M 2 105 = some (mHo_begin, j) := ⟨_, rfl⟩
  obtain ⟨j, e⟩ := e
  have h2 := e.symm.trans h
  cases h2
  exact jde_ok_26
theorem jdI_2_109 : jdI_P (2, 109, 17) := by
  intro N k h
  have e : ∃ j, jp_M 2 109 = some (mCo_lastOf, j) := ⟨_, rfl⟩
  obtain ⟨j, e⟩ := e
  have h2 := e.symm.trans h
  cases h2
  exact jde_ok_17
theorem jdI_2_113 : jdI_P (2, 113, 30) := by
  intro N k h
  have e : ∃ j, jp_M 2 113 = some (mHo_pass, j) := ⟨_, rfl⟩
  obtain ⟨j, e⟩ := e
  have h2 := e.symm.trans h
  cases h2
  exact jde_ok_30
theorem jdI_2_117 : jdI_P (2, 117, 19) := by
  intro N k h
  have e : ∃ j, jp_M 2 117 = some (mCo_leapsInside, j) := ⟨_, rfl⟩
  obtain ⟨j, e⟩ := e
  have h2 := e.symm.trans h
  cases h2
  exact jde_ok_19
theorem jdI_2_120 : jdI_P (2, 120, 28) := by
  intro N k h
  have e : ∃ j, jp_M 2 120 = some (mHo_flow, j) := ⟨_, rfl⟩
  obtain ⟨j, e⟩ := e
  have h2 := e.symm.trans h
  cases h2
  exact jde_ok_28
theorem jdI_2_123 : jdI_P (2, 123, 15) := by
  intro N k h
  have e : ∃ j, jp_M 2 123 = some (mCo_goesOn, j) := ⟨_, rfl⟩
  obtain ⟨j, e⟩ := e
  have h2 := e.symm.trans h
  cases h2
  exact jde_ok_15
theorem jdI_2_132 : jdI_P (2, 132, 11) := by
  intro N k h
  have e : ∃ j, jp_M 2 132 = some (mCo_defines, j) := ⟨_, rfl⟩
  obtain ⟨j, e⟩ := e
  have h2 := e.symm.trans h
  cases h2
  exact jde_ok_11
theorem jdI_2_40 : jdI_P (2, 40, 13) := by
  intro N k h
  have e : ∃ j, jp_M 2 40 = some (mCo_findReached, j) := ⟨_, rfl⟩
  obtain ⟨j, e⟩ := e
  have h2 := e.symm.trans h
  cases h2
  exact jde_ok_13
theorem jdI_2_45 : jdI_P (2, 45, 12) := by
  intro N k h
  have e : ∃ j, jp_M 2 45 = some (mCo_findLeaders, j) := ⟨_, rfl⟩
  obtain ⟨j, e⟩ := e
  have h2 := e.symm.trans h
  cases h2
  exact jde_ok_12
theorem jdI_2_55 : jdI_P (2, 55, 136) := by
  intro N k h
  have e : ∃ j, jp_M 2 55 = some (mArr_fill3, j) := ⟨_, rfl⟩
  obtain ⟨j, e⟩ := e
  have h2 := e.symm.trans h
  cases h2
  exact jde_ok_136
theorem jdI_2_67 : jdI_P (2, 67, 16) := by
  intro N k h
  have e : ∃ j, jp_M 2 67 = some (mCo_isWorkedOut, j) := ⟨_, rfl⟩
  obtain ⟨j, e⟩ := e
  have h2 := e.symm.trans h
  cases h2
  exact jde_ok_16
theorem jdI_2_81 : jdI_P (2, 81, 29) := by
  intro N k h
  have e : ∃ j, jp_M 2 81 = some (mHo_follow, j) := ⟨_, rfl⟩
  obtain ⟨j, e⟩ := e
  have h2 := e.symm.trans h
  cases h2
  exact jde_ok_29
theorem jdI_3_103 : jdI_P (3, 103, 49) := by
  intro N k h
  have e : ∃ j, jp_M 3 103 = some (mKn_second, j) := ⟨_, rfl⟩
  obtain ⟨j, e⟩ := e
  have h2 := e.symm.trans h
  cases h2
  exact jde_ok_49
theorem jdI_3_106 : jdI_P (3, 106, 24) := by
  intro N k h
  have e : ∃ j, jp_M 3 106 = some (mCo_usesB, j) := ⟨_, rfl⟩
  obtain ⟨j, e⟩ := e
  have h2 := e.symm.trans h
  cases h2
  exact jde_ok_24
theorem jdI_3_115 : jdI_P (3, 115, 16) := by
  intro N k h
  have e : ∃ j, jp_M 3 115 = some (mCo_isWorkedOut, j) := ⟨_, rfl⟩
  obtain ⟨j, e⟩ := e
  have h2 := e.symm.trans h
  cases h2
  exact jde_ok_16
theorem jdI_3_11 : jdI_P (3, 11, 25) := by
  intro N k h
  have e : ∃ j, jp_M 3 11 = some (mHo_init, j) := ⟨_, rfl⟩
  obtain ⟨j, e⟩ := e
  have h2 := e.symm.trans h
  cases h2
  exact jde_ok_25
theorem jdI_3_132 : jdI_P (3, 132, 27) := by
  intro N k h
  have e : ∃ j, jp_M 3 132 = some (mHo_find, j) := ⟨_, rfl⟩
  obtain ⟨j, e⟩ := e
  have h2 := e.symm.trans h
  cases h2
  exact jde_ok_27
theorem jdI_3_133 : jdI_P (3, 133, 26) := by
  intro N k h
  have e : ∃ j, jp_M 3 133 = some (mHo_begin, j) := ⟨_, rfl⟩
  obtain ⟨j, e⟩ := e
  have h2 := e.symm.trans h
  cases h2
  exact jde_ok_26
theorem jdI_3_137 : jdI_P (3, 137, 40) := by
  intro N k h
  have e : ∃ j, jp_M 3 137 = some (mIm_putCopy, j) := ⟨_, rfl⟩
  obtain ⟨j, e⟩ := e
  have h2 := e.symm.trans h
  cases h2
  exact jde_ok_40
theorem jdI_3_140 : jdI_P (3, 140, 30) := by
  intro N k h
  have e : ∃ j, jp_M 3 140 = some (mHo_pass, j) := ⟨_, rfl⟩
  obtain ⟨j, e⟩ := e
  have h2 := e.symm.trans h
  cases h2
  exact jde_ok_30
theorem jdI_3_141 : jdI_P (3, 141, 22) := by
  intro N k h
  have e : ∃ j, jp_M 3 141 = some (mCo_sweep, j) := ⟨_, rfl⟩
  obtain ⟨j, e⟩ := e
  have h2 := e.symm.trans h
  cases h2
  exact jde_ok_22
theorem jdI_3_153 : jdI_P (3, 153, 20) := by
  intro N k h
  have e : ∃ j, jp_M 3 153 = some (mCo_leaveOut, j) := ⟨_, rfl⟩
  obtain ⟨j, e⟩ := e
  have h2 := e.symm.trans h
  cases h2
  exact jde_ok_20
theorem jdI_3_166 : jdI_P (3, 166, 41) := by
  intro N k h
  have e : ∃ j, jp_M 3 166 = some (mIm_settleTests, j) := ⟨_, rfl⟩
  obtain ⟨j, e⟩ := e
  have h2 := e.symm.trans h
  cases h2
  exact jde_ok_41
theorem jdI_3_169 : jdI_P (3, 169, 34) := by
  intro N k h
  have e : ∃ j, jp_M 3 169 = some (mIm_leaveUnreached, j) := ⟨_, rfl⟩
  obtain ⟨j, e⟩ := e
  have h2 := e.symm.trans h
  cases h2
  exact jde_ok_34
theorem jdI_3_172 : jdI_P (3, 172, 32) := by
  intro N k h
  have e : ∃ j, jp_M 3 172 = some (mIm_goThrough, j) := ⟨_, rfl⟩
  obtain ⟨j, e⟩ := e
  have h2 := e.symm.trans h
  cases h2
  exact jde_ok_32
theorem jdI_3_175 : jdI_P (3, 175, 18) := by
  intro N k h
  have e : ∃ j, jp_M 3 175 = some (mCo_leaps, j) := ⟨_, rfl⟩
  obtain ⟨j, e⟩ := e
  have h2 := e.symm.trans h
  cases h2
  exact jde_ok_18
theorem jdI_3_178 : jdI_P (3, 178, 13) := by
  intro N k h
  have e : ∃ j, jp_M 3 178 = some (mCo_findReached, j) := ⟨_, rfl⟩
  obtain ⟨j, e⟩ := e
  have h2 := e.symm.trans h
  cases h2
  exact jde_ok_13
theorem jdI_3_181 : jdI_P (3, 181, 19) := by
  intro N k h
  have e : ∃ j, jp_M 3 181 = some (mCo_leapsInside, j) := ⟨_, rfl⟩
  obtain ⟨j, e⟩ := e
  have h2 := e.symm.trans h
  cases h2
  exact jde_ok_19
theorem jdI_3_20 : jdI_P (3, 20, 50) := by
  intro N k h
  have e : ∃ j, jp_M 3 20 = some (mLi_init, j) := ⟨_, rfl⟩
  obtain ⟨j, e⟩ := e
  have h2 := e.symm.trans h
  cases h2
  exact jde_ok_50
theorem jdI_3_29 : jdI_P (3, 29, 10) := by
  intro N k h
  have e : ∃ j, jp_M 3 29 = some (mCo_copyFrom, j) := ⟨_, rfl⟩
  obtain ⟨j, e⟩ := e
  have h2 := e.symm.trans h
  cases h2
  exact jde_ok_10
theorem jdI_3_40 : jdI_P (3, 40, 38) := by
  intro N k h
  have e : ∃ j, jp_M 3 40 = some (mIm_putConstants, j) := ⟨_, rfl⟩
  obtain ⟨j, e⟩ := e
  have h2 := e.symm.trans h
  cases h2
  exact jde_ok_38
theorem jdI_3_44 : jdI_P (3, 44, 39) := by
  intro N k h
  have e : ∃ j, jp_M 3 44 = some (mIm_putCopies, j) := ⟨_, rfl⟩
  obtain ⟨j, e⟩ := e
  have h2 := e.symm.trans h
  cases h2
  exact jde_ok_39
theorem jdI_3_47 : jdI_P (3, 47, 33) := by
  intro N k h
  have e : ∃ j, jp_M 3 47 = some (mIm_leaveDead, j) := ⟨_, rfl⟩
  obtain ⟨j, e⟩ := e
  have h2 := e.symm.trans h
  cases h2
  exact jde_ok_33
theorem jdI_3_50 : jdI_P (3, 50, 35) := by
  intro N k h
  have e : ∃ j, jp_M 3 50 = some (mIm_mendJumps, j) := ⟨_, rfl⟩
  obtain ⟨j, e⟩ := e
  have h2 := e.symm.trans h
  cases h2
  exact jde_ok_35
theorem jdI_3_53 : jdI_P (3, 53, 51) := by
  intro N k h
  have e : ∃ j, jp_M 3 53 = some (mLi_find, j) := ⟨_, rfl⟩
  obtain ⟨j, e⟩ := e
  have h2 := e.symm.trans h
  cases h2
  exact jde_ok_51
theorem jdI_3_56 : jdI_P (3, 56, 52) := by
  intro N k h
  have e : ∃ j, jp_M 3 56 = some (mLi_giveColours, j) := ⟨_, rfl⟩
  obtain ⟨j, e⟩ := e
  have h2 := e.symm.trans h
  cases h2
  exact jde_ok_52
theorem jdI_3_59 : jdI_P (3, 59, 47) := by
  intro N k h
  have e : ∃ j, jp_M 3 59 = some (mKn_learn, j) := ⟨_, rfl⟩
  obtain ⟨j, e⟩ := e
  have h2 := e.symm.trans h
  cases h2
  exact jde_ok_47
theorem jdI_3_71 : jdI_P (3, 71, 43) := by
  intro N k h
  have e : ∃ j, jp_M 3 71 = some (mKn_begin, j) := ⟨_, rfl⟩
  obtain ⟨j, e⟩ := e
  have h2 := e.symm.trans h
  cases h2
  exact jde_ok_43
theorem jdI_3_78 : jdI_P (3, 78, 37) := by
  intro N k h
  have e : ∃ j, jp_M 3 78 = some (mIm_putConstant, j) := ⟨_, rfl⟩
  obtain ⟨j, e⟩ := e
  have h2 := e.symm.trans h
  cases h2
  exact jde_ok_37
theorem jdI_3_82 : jdI_P (3, 82, 48) := by
  intro N k h
  have e : ∃ j, jp_M 3 82 = some (mKn_pass, j) := ⟨_, rfl⟩
  obtain ⟨j, e⟩ := e
  have h2 := e.symm.trans h
  cases h2
  exact jde_ok_48
theorem jdI_3_86 : jdI_P (3, 86, 44) := by
  intro N k h
  have e : ∃ j, jp_M 3 86 = some (mKn_first, j) := ⟨_, rfl⟩
  obtain ⟨j, e⟩ := e
  have h2 := e.symm.trans h
  cases h2
  exact jde_ok_44
theorem jdI_3_90 : jdI_P (3, 90, 23) := by
  intro N k h
  have e : ∃ j, jp_M 3 90 = some (mCo_usesA, j) := ⟨_, rfl⟩
  obtain ⟨j, e⟩ := e
  have h2 := e.symm.trans h
  cases h2
  exact jde_ok_23
theorem jdI_4_104 : jdI_P (4, 104, 11) := by
  intro N k h
  have e : ∃ j, jp_M 4 104 = some (mCo_defines, j) := ⟨_, rfl⟩
  obtain ⟨j, e⟩ := e
  have h2 := e.symm.trans h
  cases h2
  exact jde_ok_11
theorem jdI_4_30 : jdI_P (4, 30, 12) := by
  intro N k h
  have e : ∃ j, jp_M 4 30 = some (mCo_findLeaders, j) := ⟨_, rfl⟩
  obtain ⟨j, e⟩ := e
  have h2 := e.symm.trans h
  cases h2
  exact jde_ok_12
theorem jdI_4_48 : jdI_P (4, 48, 45) := by
  intro N k h
  have e : ∃ j, jp_M 4 48 = some (mKn_flow, j) := ⟨_, rfl⟩
  obtain ⟨j, e⟩ := e
  have h2 := e.symm.trans h
  cases h2
  exact jde_ok_45
theorem jdI_4_53 : jdI_P (4, 53, 46) := by
  intro N k h
  have e : ∃ j, jp_M 4 53 = some (mKn_follow, j) := ⟨_, rfl⟩
  obtain ⟨j, e⟩ := e
  have h2 := e.symm.trans h
  cases h2
  exact jde_ok_46
theorem jdI_4_56 : jdI_P (4, 56, 43) := by
  intro N k h
  have e : ∃ j, jp_M 4 56 = some (mKn_begin, j) := ⟨_, rfl⟩
  obtain ⟨j, e⟩ := e
  have h2 := e.symm.trans h
  cases h2
  exact jde_ok_43
theorem jdI_4_60 : jdI_P (4, 60, 17) := by
  intro N k h
  have e : ∃ j, jp_M 4 60 = some (mCo_lastOf, j) := ⟨_, rfl⟩
  obtain ⟨j, e⟩ := e
  have h2 := e.symm.trans h
  cases h2
  exact jde_ok_17
theorem jdI_4_64 : jdI_P (4, 64, 48) := by
  intro N k h
  have e : ∃ j, jp_M 4 64 = some (mKn_pass, j) := ⟨_, rfl⟩
  obtain ⟨j, e⟩ := e
  have h2 := e.symm.trans h
  cases h2
  exact jde_ok_48
theorem jdI_4_70 : jdI_P (4, 70, 15) := by
  intro N k h
  have e : ∃ j, jp_M 4 70 = some (mCo_goesOn, j) := ⟨_, rfl⟩
  obtain ⟨j, e⟩ := e
  have h2 := e.symm.trans h
  cases h2
  exact jde_ok_15
theorem jdI_4_92 : jdI_P (4, 92, 23) := by
  intro N k h
  have e : ∃ j, jp_M 4 92 = some (mCo_usesA, j) := ⟨_, rfl⟩
  obtain ⟨j, e⟩ := e
  have h2 := e.symm.trans h
  cases h2
  exact jde_ok_23
theorem jdI_4_98 : jdI_P (4, 98, 24) := by
  intro N k h
  have e : ∃ j, jp_M 4 98 = some (mCo_usesB, j) := ⟨_, rfl⟩
  obtain ⟨j, e⟩ := e
  have h2 := e.symm.trans h
  cases h2
  exact jde_ok_24
theorem jdI_5_45 : jdI_P (5, 45, 54) := by
  intro N k h
  have e : ∃ j, jp_M 5 45 = some (mLi_look, j) := ⟨_, rfl⟩
  obtain ⟨j, e⟩ := e
  have h2 := e.symm.trans h
  cases h2
  exact jde_ok_54
theorem jdI_5_49 : jdI_P (5, 49, 15) := by
  intro N k h
  have e : ∃ j, jp_M 5 49 = some (mCo_goesOn, j) := ⟨_, rfl⟩
  obtain ⟨j, e⟩ := e
  have h2 := e.symm.trans h
  cases h2
  exact jde_ok_15
theorem jdI_5_53 : jdI_P (5, 53, 53) := by
  intro N k h
  have e : ∃ j, jp_M 5 53 = some (mLi_join, j) := ⟨_, rfl⟩
  obtain ⟨j, e⟩ := e
  have h2 := e.symm.trans h
  cases h2
  exact jde_ok_53
theorem jdI_5_57 : jdI_P (5, 57, 19) := by
  intro N k h
  have e : ∃ j, jp_M 5 57 = some (mCo_leapsInside, j) := ⟨_, rfl⟩
  obtain ⟨j, e⟩ := e
  have h2 := e.symm.trans h
  cases h2
  exact jde_ok_19
theorem jdI_5_63 : jdI_P (5, 63, 11) := by
  intro N k h
  have e : ∃ j, jp_M 5 63 = some (mCo_defines, j) := ⟨_, rfl⟩
  obtain ⟨j, e⟩ := e
  have h2 := e.symm.trans h
  cases h2
  exact jde_ok_11
theorem jdI_5_68 : jdI_P (5, 68, 23) := by
  intro N k h
  have e : ∃ j, jp_M 5 68 = some (mCo_usesA, j) := ⟨_, rfl⟩
  obtain ⟨j, e⟩ := e
  have h2 := e.symm.trans h
  cases h2
  exact jde_ok_23
theorem jdI_5_74 : jdI_P (5, 74, 24) := by
  intro N k h
  have e : ∃ j, jp_M 5 74 = some (mCo_usesB, j) := ⟨_, rfl⟩
  obtain ⟨j, e⟩ := e
  have h2 := e.symm.trans h
  cases h2
  exact jde_ok_24
theorem jdI_6_109 : jdI_P (6, 109, 8) := by
  intro N k h
  have e : ∃ j, jp_M 6 109 = some (mCo_add, j) := ⟨_, rfl⟩
  obtain ⟨j, e⟩ := e
  have h2 := e.symm.trans h
  cases h2
  exact jde_ok_8
theorem jdI_6_119 : jdI_P (6, 119, 60) := by
  intro N k h
  have e : ∃ j, jp_M 6 119 = some (mMa_push, j) := ⟨_, rfl⟩
  obtain ⟨j, e⟩ := e
  have h2 := e.symm.trans h
  cases h2
  exact jde_ok_60
theorem jdI_6_141 : jdI_P (6, 141, 59) := by
  intro N k h
  have e : ∃ j, jp_M 6 141 = some (mMa_pop, j) := ⟨_, rfl⟩
  obtain ⟨j, e⟩ := e
  have h2 := e.symm.trans h
  cases h2
  exact jde_ok_59
theorem jdI_6_144 : jdI_P (6, 144, 62) := by
  intro N k h
  have e : ∃ j, jp_M 6 144 = some (mMa_test, j) := ⟨_, rfl⟩
  obtain ⟨j, e⟩ := e
  have h2 := e.symm.trans h
  cases h2
  exact jde_ok_62
theorem jdI_6_153 : jdI_P (6, 153, 57) := by
  intro N k h
  have e : ∃ j, jp_M 6 153 = some (mMa_leap, j) := ⟨_, rfl⟩
  obtain ⟨j, e⟩ := e
  have h2 := e.symm.trans h
  cases h2
  exact jde_ok_57
theorem jdI_6_49 : jdI_P (6, 49, 9) := by
  intro N k h
  have e : ∃ j, jp_M 6 49 = some (mCo_begin, j) := ⟨_, rfl⟩
  obtain ⟨j, e⟩ := e
  have h2 := e.symm.trans h
  cases h2
  exact jde_ok_9
theorem jdI_6_81 : jdI_P (6, 81, 14) := by
  intro N k h
  have e : ∃ j, jp_M 6 81 = some (mCo_fits, j) := ⟨_, rfl⟩
  obtain ⟨j, e⟩ := e
  have h2 := e.symm.trans h
  cases h2
  exact jde_ok_14
theorem jdI_6_89 : jdI_P (6, 89, 56) := by
  intro N k h
  have e : ∃ j, jp_M 6 89 = some (mMa_arrive, j) := ⟨_, rfl⟩
  obtain ⟨j, e⟩ := e
  have h2 := e.symm.trans h
  cases h2
  exact jde_ok_56
theorem jdI_6_98 : jdI_P (6, 98, 61) := by
  intro N k h
  have e : ∃ j, jp_M 6 98 = some (mMa_takeStep, j) := ⟨_, rfl⟩
  obtain ⟨j, e⟩ := e
  have h2 := e.symm.trans h
  cases h2
  exact jde_ok_61
theorem jdI_8_100 : jdI_P (8, 100, 75) := by
  intro N k h
  have e : ∃ j, jp_M 8 100 = some (mRe_kind, j) := ⟨_, rfl⟩
  obtain ⟨j, e⟩ := e
  have h2 := e.symm.trans h
  cases h2
  exact jde_ok_75
theorem jdI_8_107 : jdI_P (8, 107, 71) := by
  intro N k h
  have e : ∃ j, jp_M 8 107 = some (mRe_go, j) := ⟨_, rfl⟩
  obtain ⟨j, e⟩ := e
  have h2 := e.symm.trans h
  cases h2
  exact jde_ok_71
theorem jdI_8_11 : jdI_P (8, 11, 94) := by
  intro N k h
  have e : ∃ j, jp_M 8 11 = some (mWo_init, j) := ⟨_, rfl⟩
  obtain ⟨j, e⟩ := e
  have h2 := e.symm.trans h
  cases h2
  exact jde_ok_94
theorem jdI_8_138 : jdI_P (8, 138, 69) := by
  intro N k h
  have e : ∃ j, jp_M 8 138 = some (mRe_expect, j) := ⟨_, rfl⟩
  obtain ⟨j, e⟩ := e
  have h2 := e.symm.trans h
  cases h2
  exact jde_ok_69
theorem jdI_8_150 : jdI_P (8, 150, 76) := by
  intro N k h
  have e : ∃ j, jp_M 8 150 = some (mRe_openOne, j) := ⟨_, rfl⟩
  obtain ⟨j, e⟩ := e
  have h2 := e.symm.trans h
  cases h2
  exact jde_ok_76
theorem jdI_8_172 : jdI_P (8, 172, 85) := by
  intro N k h
  have e : ∃ j, jp_M 8 172 = some (mRe_takeItems, j) := ⟨_, rfl⟩
  obtain ⟨j, e⟩ := e
  have h2 := e.symm.trans h
  cases h2
  exact jde_ok_85
theorem jdI_8_187 : jdI_P (8, 187, 77) := by
  intro N k h
  have e : ∃ j, jp_M 8 187 = some (mRe_openRound, j) := ⟨_, rfl⟩
  obtain ⟨j, e⟩ := e
  have h2 := e.symm.trans h
  cases h2
  exact jde_ok_77
theorem jdI_8_190 : jdI_P (8, 190, 68) := by
  intro N k h
  have e : ∃ j, jp_M 8 190 = some (mRe_closeRound, j) := ⟨_, rfl⟩
  obtain ⟨j, e⟩ := e
  have h2 := e.symm.trans h
  cases h2
  exact jde_ok_68
theorem jdI_8_196 : jdI_P (8, 196, 81) := by
  intro N k h
  have e : ∃ j, jp_M 8 196 = some (mRe_takeBlock, j) := ⟨_, rfl⟩
  obtain ⟨j, e⟩ := e
  have h2 := e.symm.trans h
  cases h2
  exact jde_ok_81
theorem jdI_8_209 : jdI_P (8, 209, 83) := by
  intro N k h
  have e : ∃ j, jp_M 8 209 = some (mRe_takeDo, j) := ⟨_, rfl⟩
  obtain ⟨j, e⟩ := e
  have h2 := e.symm.trans h
  cases h2
  exact jde_ok_83
theorem jdI_8_20 : jdI_P (8, 20, 63) := by
  intro N k h
  have e : ∃ j, jp_M 8 20 = some (mNa_init, j) := ⟨_, rfl⟩
  obtain ⟨j, e⟩ := e
  have h2 := e.symm.trans h
  cases h2
  exact jde_ok_63
theorem jdI_8_218 : jdI_P (8, 218, 88) := by
  intro N k h
  have e : ∃ j, jp_M 8 218 = some (mRe_takeSimple, j) := ⟨_, rfl⟩
  obtain ⟨j, e⟩ := e
  have h2 := e.symm.trans h
  cases h2
  exact jde_ok_88
theorem jdI_8_221 : jdI_P (8, 221, 80) := by
  intro N k h
  have e : ∃ j, jp_M 8 221 = some (mRe_statement, j) := ⟨_, rfl⟩
  obtain ⟨j, e⟩ := e
  have h2 := e.symm.trans h
  cases h2
  exact jde_ok_80
theorem jdI_8_224 : jdI_P (8, 224, 84) := by
  intro N k h
  have e : ∃ j, jp_M 8 224 = some (mRe_takeExpr, j) := ⟨_, rfl⟩
  obtain ⟨j, e⟩ := e
  have h2 := e.symm.trans h
  cases h2
  exact jde_ok_84
theorem jdI_8_230 : jdI_P (8, 230, 92) := by
  intro N k h
  have e : ∃ j, jp_M 8 230 = some (mSc_aim, j) := ⟨_, rfl⟩
  obtain ⟨j, e⟩ := e
  have h2 := e.symm.trans h
  cases h2
  exact jde_ok_92
theorem jdI_8_233 : jdI_P (8, 233, 86) := by
  intro N k h
  have e : ∃ j, jp_M 8 233 = some (mRe_takeLeave, j) := ⟨_, rfl⟩
  obtain ⟨j, e⟩ := e
  have h2 := e.symm.trans h
  cases h2
  exact jde_ok_86
theorem jdI_8_253 : jdI_P (8, 253, 78) := by
  intro N k h
  have e : ∃ j, jp_M 8 253 = some (mRe_pend, j) := ⟨_, rfl⟩
  obtain ⟨j, e⟩ := e
  have h2 := e.symm.trans h
  cases h2
  exact jde_ok_78
theorem jdI_8_257 : jdI_P (8, 257, 87) := by
  intro N k h
  have e : ∃ j, jp_M 8 257 = some (mRe_takeOperand, j) := ⟨_, rfl⟩
  obtain ⟨j, e⟩ := e
  have h2 := e.symm.trans h
  cases h2
  exact jde_ok_87
theorem jdI_8_261 : jdI_P (8, 261, 74) := by
  intro N k h
  have e : ∃ j, jp_M 8 261 = some (mRe_isBinary, j) := ⟨_, rfl⟩
  obtain ⟨j, e⟩ := e
  have h2 := e.symm.trans h
  cases h2
  exact jde_ok_74
theorem jdI_8_268 : jdI_P (8, 268, 79) := by
  intro N k h
  have e : ∃ j, jp_M 8 268 = some (mRe_settle, j) := ⟨_, rfl⟩
  obtain ⟨j, e⟩ := e
  have h2 := e.symm.trans h
  cases h2
  exact jde_ok_79
theorem jdI_8_274 : jdI_P (8, 274, 82) := by
  intro N k h
  have e : ∃ j, jp_M 8 274 = some (mRe_takeClosing, j) := ⟨_, rfl⟩
  obtain ⟨j, e⟩ := e
  have h2 := e.symm.trans h
  cases h2
  exact jde_ok_82
theorem jdI_8_41 : jdI_P (8, 41, 100) := by
  intro N k h
  have e : ∃ j, jp_M 8 41 = some (mWo_split, j) := ⟨_, rfl⟩
  obtain ⟨j, e⟩ := e
  have h2 := e.symm.trans h
  cases h2
  exact jde_ok_100
theorem jdI_8_45 : jdI_P (8, 45, 64) := by
  intro N k h
  have e : ∃ j, jp_M 8 45 = some (mNa_forget, j) := ⟨_, rfl⟩
  obtain ⟨j, e⟩ := e
  have h2 := e.symm.trans h
  cases h2
  exact jde_ok_64
theorem jdI_8_52 : jdI_P (8, 52, 93) := by
  intro N k h
  have e : ∃ j, jp_M 8 52 = some (mSc_forget, j) := ⟨_, rfl⟩
  obtain ⟨j, e⟩ := e
  have h2 := e.symm.trans h
  cases h2
  exact jde_ok_93
theorem jdI_8_90 : jdI_P (8, 90, 91) := by
  intro N k h
  have e : ∃ j, jp_M 8 90 = some (mSc_add, j) := ⟨_, rfl⟩
  obtain ⟨j, e⟩ := e
  have h2 := e.symm.trans h
  cases h2
  exact jde_ok_91
theorem jdI_all : ∀ r ∈ jdI_l, jdI_P r := List.forall_mem_cons.mpr ⟨jdI_0_103, List.forall_mem_cons.mpr ⟨jdI_0_121, List.forall_mem_cons.mpr ⟨jdI_0_124, List.forall_mem_cons.mpr ⟨jdI_0_127, List.forall_mem_cons.mpr ⟨jdI_0_130, List.forall_mem_cons.mpr ⟨jdI_0_152, List.forall_mem_cons.mpr ⟨jdI_0_156, List.forall_mem_cons.mpr ⟨jdI_0_165, List.forall_mem_cons.mpr ⟨jdI_0_17, List.forall_mem_cons.mpr ⟨jdI_0_24, List.forall_mem_cons.mpr ⟨jdI_0_38, List.forall_mem_cons.mpr ⟨jdI_0_45, List.forall_mem_cons.mpr ⟨jdI_0_52, List.forall_mem_cons.mpr ⟨jdI_0_59, List.forall_mem_cons.mpr ⟨jdI_0_66, List.forall_mem_cons.mpr ⟨jdI_0_78, List.forall_mem_cons.mpr ⟨jdI_0_99, List.forall_mem_cons.mpr ⟨jdI_11_32, List.forall_mem_cons.mpr ⟨jdI_11_36, List.forall_mem_cons.mpr ⟨jdI_11_40, List.forall_mem_cons.mpr ⟨jdI_11_43, List.forall_mem_cons.mpr ⟨jdI_11_46, List.forall_mem_cons.mpr ⟨jdI_11_49, List.forall_mem_cons.mpr ⟨jdI_11_65, List.forall_mem_cons.mpr ⟨jdI_11_69, List.forall_mem_cons.mpr ⟨jdI_12_231, List.forall_mem_cons.mpr ⟨jdI_12_265, List.forall_mem_cons.mpr ⟨jdI_12_268, List.forall_mem_cons.mpr ⟨jdI_12_272, List.forall_mem_cons.mpr ⟨jdI_12_275, List.forall_mem_cons.mpr ⟨jdI_12_287, List.forall_mem_cons.mpr ⟨jdI_12_291, List.forall_mem_cons.mpr ⟨jdI_12_313, List.forall_mem_cons.mpr ⟨jdI_12_345, List.forall_mem_cons.mpr ⟨jdI_12_349, List.forall_mem_cons.mpr ⟨jdI_12_361, List.forall_mem_cons.mpr ⟨jdI_12_367, List.forall_mem_cons.mpr ⟨jdI_12_376, List.forall_mem_cons.mpr ⟨jdI_12_380, List.forall_mem_cons.mpr ⟨jdI_12_402, List.forall_mem_cons.mpr ⟨jdI_12_416, List.forall_mem_cons.mpr ⟨jdI_12_419, List.forall_mem_cons.mpr ⟨jdI_12_443, List.forall_mem_cons.mpr ⟨jdI_12_470, List.forall_mem_cons.mpr ⟨jdI_12_473, List.forall_mem_cons.mpr ⟨jdI_12_482, List.forall_mem_cons.mpr ⟨jdI_12_485, List.forall_mem_cons.mpr ⟨jdI_12_491, List.forall_mem_cons.mpr ⟨jdI_13_17, List.forall_mem_cons.mpr ⟨jdI_13_21, List.forall_mem_cons.mpr ⟨jdI_13_58, List.forall_mem_cons.mpr ⟨jdI_13_61, List.forall_mem_cons.mpr ⟨jdI_13_69, List.forall_mem_cons.mpr ⟨jdI_13_70, List.forall_mem_cons.mpr ⟨jdI_13_73, List.forall_mem_cons.mpr ⟨jdI_13_7, List.forall_mem_cons.mpr ⟨jdI_13_81, List.forall_mem_cons.mpr ⟨jdI_13_84, List.forall_mem_cons.mpr ⟨jdI_13_85, List.forall_mem_cons.mpr ⟨jdI_14_13, List.forall_mem_cons.mpr ⟨jdI_1_63, List.forall_mem_cons.mpr ⟨jdI_1_67, List.forall_mem_cons.mpr ⟨jdI_1_71, List.forall_mem_cons.mpr ⟨jdI_1_75, List.forall_mem_cons.mpr ⟨jdI_1_78, List.forall_mem_cons.mpr ⟨jdI_2_105, List.forall_mem_cons.mpr ⟨jdI_2_109, List.forall_mem_cons.mpr ⟨jdI_2_113, List.forall_mem_cons.mpr ⟨jdI_2_117, List.forall_mem_cons.mpr ⟨jdI_2_120, List.forall_mem_cons.mpr ⟨jdI_2_123, List.forall_mem_cons.mpr ⟨jdI_2_132, List.forall_mem_cons.mpr ⟨jdI_2_40, List.forall_mem_cons.mpr ⟨jdI_2_45, List.forall_mem_cons.mpr ⟨jdI_2_55, List.forall_mem_cons.mpr ⟨jdI_2_67, List.forall_mem_cons.mpr ⟨jdI_2_81, List.forall_mem_cons.mpr ⟨jdI_3_103, List.forall_mem_cons.mpr ⟨jdI_3_106, List.forall_mem_cons.mpr ⟨jdI_3_115, List.forall_mem_cons.mpr ⟨jdI_3_11, List.forall_mem_cons.mpr ⟨jdI_3_132, List.forall_mem_cons.mpr ⟨jdI_3_133, List.forall_mem_cons.mpr ⟨jdI_3_137, List.forall_mem_cons.mpr ⟨jdI_3_140, List.forall_mem_cons.mpr ⟨jdI_3_141, List.forall_mem_cons.mpr ⟨jdI_3_153, List.forall_mem_cons.mpr ⟨jdI_3_166, List.forall_mem_cons.mpr ⟨jdI_3_169, List.forall_mem_cons.mpr ⟨jdI_3_172, List.forall_mem_cons.mpr ⟨jdI_3_175, List.forall_mem_cons.mpr ⟨jdI_3_178, List.forall_mem_cons.mpr ⟨jdI_3_181, List.forall_mem_cons.mpr ⟨jdI_3_20, List.forall_mem_cons.mpr ⟨jdI_3_29, List.forall_mem_cons.mpr ⟨jdI_3_40, List.forall_mem_cons.mpr ⟨jdI_3_44, List.forall_mem_cons.mpr ⟨jdI_3_47, List.forall_mem_cons.mpr ⟨jdI_3_50, List.forall_mem_cons.mpr ⟨jdI_3_53, List.forall_mem_cons.mpr ⟨jdI_3_56, List.forall_mem_cons.mpr ⟨jdI_3_59, List.forall_mem_cons.mpr ⟨jdI_3_71, List.forall_mem_cons.mpr ⟨jdI_3_78, List.forall_mem_cons.mpr ⟨jdI_3_82, List.forall_mem_cons.mpr ⟨jdI_3_86, List.forall_mem_cons.mpr ⟨jdI_3_90, List.forall_mem_cons.mpr ⟨jdI_4_104, List.forall_mem_cons.mpr ⟨jdI_4_30, List.forall_mem_cons.mpr ⟨jdI_4_48, List.forall_mem_cons.mpr ⟨jdI_4_53, List.forall_mem_cons.mpr ⟨jdI_4_56, List.forall_mem_cons.mpr ⟨jdI_4_60, List.forall_mem_cons.mpr ⟨jdI_4_64, List.forall_mem_cons.mpr ⟨jdI_4_70, List.forall_mem_cons.mpr ⟨jdI_4_92, List.forall_mem_cons.mpr ⟨jdI_4_98, List.forall_mem_cons.mpr ⟨jdI_5_45, List.forall_mem_cons.mpr ⟨jdI_5_49, List.forall_mem_cons.mpr ⟨jdI_5_53, List.forall_mem_cons.mpr ⟨jdI_5_57, List.forall_mem_cons.mpr ⟨jdI_5_63, List.forall_mem_cons.mpr ⟨jdI_5_68, List.forall_mem_cons.mpr ⟨jdI_5_74, List.forall_mem_cons.mpr ⟨jdI_6_109, List.forall_mem_cons.mpr ⟨jdI_6_119, List.forall_mem_cons.mpr ⟨jdI_6_141, List.forall_mem_cons.mpr ⟨jdI_6_144, List.forall_mem_cons.mpr ⟨jdI_6_153, List.forall_mem_cons.mpr ⟨jdI_6_49, List.forall_mem_cons.mpr ⟨jdI_6_81, List.forall_mem_cons.mpr ⟨jdI_6_89, List.forall_mem_cons.mpr ⟨jdI_6_98, List.forall_mem_cons.mpr ⟨jdI_8_100, List.forall_mem_cons.mpr ⟨jdI_8_107, List.forall_mem_cons.mpr ⟨jdI_8_11, List.forall_mem_cons.mpr ⟨jdI_8_138, List.forall_mem_cons.mpr ⟨jdI_8_150, List.forall_mem_cons.mpr ⟨jdI_8_172, List.forall_mem_cons.mpr ⟨jdI_8_187, List.forall_mem_cons.mpr ⟨jdI_8_190, List.forall_mem_cons.mpr ⟨jdI_8_196, List.forall_mem_cons.mpr ⟨jdI_8_209, List.forall_mem_cons.mpr ⟨jdI_8_20, List.forall_mem_cons.mpr ⟨jdI_8_218, List.forall_mem_cons.mpr ⟨jdI_8_221, List.forall_mem_cons.mpr ⟨jdI_8_224, List.forall_mem_cons.mpr ⟨jdI_8_230, List.forall_mem_cons.mpr ⟨jdI_8_233, List.forall_mem_cons.mpr ⟨jdI_8_253, List.forall_mem_cons.mpr ⟨jdI_8_257, List.forall_mem_cons.mpr ⟨jdI_8_261, List.forall_mem_cons.mpr ⟨jdI_8_268, List.forall_mem_cons.mpr ⟨jdI_8_274, List.forall_mem_cons.mpr ⟨jdI_8_41, List.forall_mem_cons.mpr ⟨jdI_8_45, List.forall_mem_cons.mpr ⟨jdI_8_52, List.forall_mem_cons.mpr ⟨jdI_8_90, (fun _ h => by cases h)⟩⟩⟩⟩⟩⟩⟩⟩⟩⟩⟩⟩⟩⟩⟩⟩⟩⟩⟩⟩⟩⟩⟩⟩⟩⟩⟩⟩⟩⟩⟩⟩⟩⟩⟩⟩⟩⟩⟩⟩⟩⟩⟩⟩⟩⟩⟩⟩⟩⟩⟩⟩⟩⟩⟩⟩⟩⟩⟩⟩⟩⟩⟩⟩⟩⟩⟩⟩⟩⟩⟩⟩⟩⟩⟩⟩⟩⟩⟩⟩⟩⟩⟩⟩⟩⟩⟩⟩⟩⟩⟩⟩⟩⟩⟩⟩⟩⟩⟩⟩⟩⟩⟩⟩⟩⟩⟩⟩⟩⟩⟩⟩⟩⟩⟩⟩⟩⟩⟩⟩⟩⟩⟩⟩⟩⟩⟩⟩⟩⟩⟩⟩⟩⟩⟩⟩⟩⟩⟩⟩⟩⟩⟩⟩⟩⟩⟩⟩⟩⟩⟩⟩⟩⟩⟩⟩⟩⟩
def jdI (q i : Nat) : Nat := match jdI_l.find? (fun r => Nat.beq r.1 q && Nat.beq r.2.1 i) with
  | some r => r.2.2
  | none => 0
theorem jdI_ok {q i k : Nat} {N : jm_M} (h : jp_M q i = some (N, k)) : jde_ok (jdI q i) N := by
  unfold jdI
  split
  · rename_i r hr
    have h1 := List.find?_some hr
    simp only [Bool.and_eq_true] at h1
    have h2 := jdI_all r (List.mem_of_find?_eq_some hr)
    exact h2 N k (by rw [Nat.eq_of_beq_eq_true h1.1, Nat.eq_of_beq_eq_true h1.2]; exact h)
  · exact jde_ok_0 N
def jdV_l : List (Nat × Nat) := [(64, 104), (78, 106), (82, 105)]
def jdV_P (r : Nat × Nat) : Prop := ∀ N, jp_V r.1 = some N → jde_ok r.2 N.1
theorem jdV_64 : jdV_P (64, 104) := by
  intro N h
  have e : jp_V 64 = some mL_feed := rfl
  have h2 := e.symm.trans h
  cases h2
  exact jde_ok_104
theorem jdV_78 : jdV_P (78, 106) := by
  intro N h
  have e : jp_V 78 = some mL_lower := rfl
  have h2 := e.symm.trans h
  cases h2
  exact jde_ok_106
theorem jdV_82 : jdV_P (82, 105) := by
  intro N h
  have e : jp_V 82 = some mL_improve := rfl
  have h2 := e.symm.trans h
  cases h2
  exact jde_ok_105
theorem jdV_all : ∀ r ∈ jdV_l, jdV_P r := List.forall_mem_cons.mpr ⟨jdV_64, List.forall_mem_cons.mpr ⟨jdV_78, List.forall_mem_cons.mpr ⟨jdV_82, (fun _ h => by cases h)⟩⟩⟩
def jdV (i : Nat) : Nat := match jdV_l.find? (fun r => Nat.beq r.1 i) with
  | some r => r.2
  | none => 0
theorem jdV_ok {i : Nat} {N : jm_M × jm_Hh} (h : jp_V i = some N) : jde_ok (jdV i) N.1 := by
  unfold jdV
  split
  · rename_i r hr
    have h1 := List.find?_some hr
    have h2 := jdV_all r (List.mem_of_find?_eq_some hr)
    exact h2 N (by rw [Nat.eq_of_beq_eq_true h1]; exact h)
  · exact jde_ok_0 N.1
theorem js_inv_ix {M N : jm_M} {i : Instr} {len f : Nat} {st as r : List js_V} {D : js_S} (h : js_inv M i len st D = some (N, f, as, r)) : jde_ok (jdI (jm_q M) (js_ix i)) N := by
  have : ∃ k, jp_M (jm_q M) (js_ix i) = some (N, k) := by
    unfold js_inv at h
    split at h
    · rename_i idx
      split at h
      · rename_i N1 hN
        split at h
        · split at h
          · split at h
            · split at h
              · cases h
                exact ⟨_, hN⟩
              · cases h
            · cases h
          · cases h
        · cases h
      · cases h
    · rename_i idx
      split at h
      · rename_i N1 k1 hN
        split at h
        · cases h
          exact ⟨_, hN⟩
        · cases h
      · cases h
    · rename_i idx
      split at h
      · rename_i N1 k1 hN
        split at h
        · split at h
          · cases h
            exact ⟨_, hN⟩
          · cases h
        · cases h
      · cases h
    · cases h
  obtain ⟨k, hk⟩ := this
  exact jdI_ok hk
theorem js_winv_ix {M : jm_M} {N : jm_M × jm_Hh} {i : Instr} {len : Nat} {st as r : List js_V} (h : js_winv M i len st = some (N, as, r)) : jde_ok (jdV (js_ix i)) N.1 := by
  have : jp_V (js_ix i) = some N := by
    unfold js_winv at h
    split at h
    · rename_i idx
      split at h
      · split at h
        · rename_i N1 hN
          split at h
          · cases h
            exact hN
          · cases h
        · cases h
      · cases h
    · cases h
  exact jdV_ok this
