section
-- ===== PART A: goes FIRST, ahead of the names: the tables' words, and 'selects' of the private methods out of them =====
/-- a private method of a class that the tables say can be made, by its rows of tables_1 -/
def lw_okq (q : MethodName × Nat) : Prop := (q.1.cls ≠ "java/lang/invoke/MethodHandle" ∧ q.1.cls ≠ "java/lang/invoke/VarHandle") ∧ Cond.instantiable q.1.cls q.2 ∈ tables_1 ∧ Cond.privateMethod q.1 ∈ tables_1 ∧ Cond.instanceMethod q.1 ∈ tables_1
theorem lw_p0 : lw_okq (⟨"WhilePress$Words", "takeName", "(I)I"⟩, 6) := ⟨⟨by decide +kernel, by decide +kernel⟩, List.mem_of_getElem? (i := 48) (by decide +kernel), List.mem_of_getElem? (i := 640) (by decide +kernel), List.mem_of_getElem? (i := 641) (by decide +kernel)⟩
theorem lw_p1 : lw_okq (⟨"WhilePress$Words", "stopAt", "(I)I"⟩, 6) := ⟨⟨by decide +kernel, by decide +kernel⟩, List.mem_of_getElem? (i := 48) (by decide +kernel), List.mem_of_getElem? (i := 647) (by decide +kernel), List.mem_of_getElem? (i := 648) (by decide +kernel)⟩
theorem lw_p2 : lw_okq (⟨"WhilePress$Words", "add", "(IIJ)V"⟩, 6) := ⟨⟨by decide +kernel, by decide +kernel⟩, List.mem_of_getElem? (i := 48) (by decide +kernel), List.mem_of_getElem? (i := 651) (by decide +kernel), List.mem_of_getElem? (i := 652) (by decide +kernel)⟩
theorem lw_p3 : lw_okq (⟨"WhilePress$Words", "takeNumber", "(I)I"⟩, 6) := ⟨⟨by decide +kernel, by decide +kernel⟩, List.mem_of_getElem? (i := 48) (by decide +kernel), List.mem_of_getElem? (i := 657) (by decide +kernel), List.mem_of_getElem? (i := 658) (by decide +kernel)⟩
theorem lw_p4 : lw_okq (⟨"WhilePress$Words", "takeSign", "(I)I"⟩, 6) := ⟨⟨by decide +kernel, by decide +kernel⟩, List.mem_of_getElem? (i := 48) (by decide +kernel), List.mem_of_getElem? (i := 663) (by decide +kernel), List.mem_of_getElem? (i := 664) (by decide +kernel)⟩
theorem lw_p5 : lw_okq (⟨"WhilePress$Reader", "go", "()V"⟩, 20) := ⟨⟨by decide +kernel, by decide +kernel⟩, List.mem_of_getElem? (i := 42) (by decide +kernel), List.mem_of_getElem? (i := 694) (by decide +kernel), List.mem_of_getElem? (i := 695) (by decide +kernel)⟩
theorem lw_p6 : lw_okq (⟨"WhilePress$Reader", "misfit", "()V"⟩, 20) := ⟨⟨by decide +kernel, by decide +kernel⟩, List.mem_of_getElem? (i := 42) (by decide +kernel), List.mem_of_getElem? (i := 698) (by decide +kernel), List.mem_of_getElem? (i := 699) (by decide +kernel)⟩
theorem lw_p7 : lw_okq (⟨"WhilePress$Reader", "soften", "(II)V"⟩, 20) := ⟨⟨by decide +kernel, by decide +kernel⟩, List.mem_of_getElem? (i := 42) (by decide +kernel), List.mem_of_getElem? (i := 706) (by decide +kernel), List.mem_of_getElem? (i := 707) (by decide +kernel)⟩
theorem lw_p8 : lw_okq (⟨"WhilePress$Reader", "tellList", "(I)V"⟩, 20) := ⟨⟨by decide +kernel, by decide +kernel⟩, List.mem_of_getElem? (i := 42) (by decide +kernel), List.mem_of_getElem? (i := 710) (by decide +kernel), List.mem_of_getElem? (i := 711) (by decide +kernel)⟩
theorem lw_p9 : lw_okq (⟨"WhilePress$Reader", "openRound", "()V"⟩, 20) := ⟨⟨by decide +kernel, by decide +kernel⟩, List.mem_of_getElem? (i := 42) (by decide +kernel), List.mem_of_getElem? (i := 714) (by decide +kernel), List.mem_of_getElem? (i := 715) (by decide +kernel)⟩
theorem lw_p10 : lw_okq (⟨"WhilePress$Reader", "openOne", "()V"⟩, 20) := ⟨⟨by decide +kernel, by decide +kernel⟩, List.mem_of_getElem? (i := 42) (by decide +kernel), List.mem_of_getElem? (i := 718) (by decide +kernel), List.mem_of_getElem? (i := 719) (by decide +kernel)⟩
theorem lw_p11 : lw_okq (⟨"WhilePress$Reader", "expect", "(I)V"⟩, 20) := ⟨⟨by decide +kernel, by decide +kernel⟩, List.mem_of_getElem? (i := 42) (by decide +kernel), List.mem_of_getElem? (i := 722) (by decide +kernel), List.mem_of_getElem? (i := 723) (by decide +kernel)⟩
theorem lw_p12 : lw_okq (⟨"WhilePress$Reader", "tellName", "(II)V"⟩, 20) := ⟨⟨by decide +kernel, by decide +kernel⟩, List.mem_of_getElem? (i := 42) (by decide +kernel), List.mem_of_getElem? (i := 730) (by decide +kernel), List.mem_of_getElem? (i := 731) (by decide +kernel)⟩
theorem lw_p13 : lw_okq (⟨"WhilePress$Reader", "closeRound", "()V"⟩, 20) := ⟨⟨by decide +kernel, by decide +kernel⟩, List.mem_of_getElem? (i := 42) (by decide +kernel), List.mem_of_getElem? (i := 738) (by decide +kernel), List.mem_of_getElem? (i := 739) (by decide +kernel)⟩
theorem lw_p14 : lw_okq (⟨"WhilePress$Reader", "takeItems", "()V"⟩, 20) := ⟨⟨by decide +kernel, by decide +kernel⟩, List.mem_of_getElem? (i := 42) (by decide +kernel), List.mem_of_getElem? (i := 742) (by decide +kernel), List.mem_of_getElem? (i := 743) (by decide +kernel)⟩
theorem lw_p15 : lw_okq (⟨"WhilePress$Reader", "takeBlock", "()V"⟩, 20) := ⟨⟨by decide +kernel, by decide +kernel⟩, List.mem_of_getElem? (i := 42) (by decide +kernel), List.mem_of_getElem? (i := 750) (by decide +kernel), List.mem_of_getElem? (i := 751) (by decide +kernel)⟩
def lw_privs_1 : List (MethodName × Nat) := [(⟨"WhilePress$Words", "takeName", "(I)I"⟩, 6), (⟨"WhilePress$Words", "stopAt", "(I)I"⟩, 6), (⟨"WhilePress$Words", "add", "(IIJ)V"⟩, 6), (⟨"WhilePress$Words", "takeNumber", "(I)I"⟩, 6), (⟨"WhilePress$Words", "takeSign", "(I)I"⟩, 6), (⟨"WhilePress$Reader", "go", "()V"⟩, 20), (⟨"WhilePress$Reader", "misfit", "()V"⟩, 20), (⟨"WhilePress$Reader", "soften", "(II)V"⟩, 20), (⟨"WhilePress$Reader", "tellList", "(I)V"⟩, 20), (⟨"WhilePress$Reader", "openRound", "()V"⟩, 20), (⟨"WhilePress$Reader", "openOne", "()V"⟩, 20), (⟨"WhilePress$Reader", "expect", "(I)V"⟩, 20), (⟨"WhilePress$Reader", "tellName", "(II)V"⟩, 20), (⟨"WhilePress$Reader", "closeRound", "()V"⟩, 20), (⟨"WhilePress$Reader", "takeItems", "()V"⟩, 20), (⟨"WhilePress$Reader", "takeBlock", "()V"⟩, 20)]
theorem lw_r1 : ∀ q ∈ lw_privs_1, lw_okq q := List.forall_mem_cons.mpr ⟨lw_p0, List.forall_mem_cons.mpr ⟨lw_p1, List.forall_mem_cons.mpr ⟨lw_p2, List.forall_mem_cons.mpr ⟨lw_p3, List.forall_mem_cons.mpr ⟨lw_p4, List.forall_mem_cons.mpr ⟨lw_p5, List.forall_mem_cons.mpr ⟨lw_p6, List.forall_mem_cons.mpr ⟨lw_p7, List.forall_mem_cons.mpr ⟨lw_p8, List.forall_mem_cons.mpr ⟨lw_p9, List.forall_mem_cons.mpr ⟨lw_p10, List.forall_mem_cons.mpr ⟨lw_p11, List.forall_mem_cons.mpr ⟨lw_p12, List.forall_mem_cons.mpr ⟨lw_p13, List.forall_mem_cons.mpr ⟨lw_p14, List.forall_mem_cons.mpr ⟨lw_p15, fun _ h => absurd h List.not_mem_nil⟩⟩⟩⟩⟩⟩⟩⟩⟩⟩⟩⟩⟩⟩⟩⟩
theorem lw_p16 : lw_okq (⟨"WhilePress$Reader", "takeIf", "()V"⟩, 20) := ⟨⟨by decide +kernel, by decide +kernel⟩, List.mem_of_getElem? (i := 42) (by decide +kernel), List.mem_of_getElem? (i := 766) (by decide +kernel), List.mem_of_getElem? (i := 767) (by decide +kernel)⟩
theorem lw_p17 : lw_okq (⟨"WhilePress$Reader", "takeExpr", "(Z)V"⟩, 20) := ⟨⟨by decide +kernel, by decide +kernel⟩, List.mem_of_getElem? (i := 42) (by decide +kernel), List.mem_of_getElem? (i := 770) (by decide +kernel), List.mem_of_getElem? (i := 771) (by decide +kernel)⟩
theorem lw_p18 : lw_okq (⟨"WhilePress$Reader", "pend", "(III)V"⟩, 20) := ⟨⟨by decide +kernel, by decide +kernel⟩, List.mem_of_getElem? (i := 42) (by decide +kernel), List.mem_of_getElem? (i := 774) (by decide +kernel), List.mem_of_getElem? (i := 775) (by decide +kernel)⟩
theorem lw_p19 : lw_okq (⟨"WhilePress$Reader", "takeOperand", "()Z"⟩, 20) := ⟨⟨by decide +kernel, by decide +kernel⟩, List.mem_of_getElem? (i := 42) (by decide +kernel), List.mem_of_getElem? (i := 778) (by decide +kernel), List.mem_of_getElem? (i := 779) (by decide +kernel)⟩
theorem lw_p20 : lw_okq (⟨"WhilePress$Reader", "nextKind", "()I"⟩, 20) := ⟨⟨by decide +kernel, by decide +kernel⟩, List.mem_of_getElem? (i := 42) (by decide +kernel), List.mem_of_getElem? (i := 782) (by decide +kernel), List.mem_of_getElem? (i := 783) (by decide +kernel)⟩
theorem lw_p21 : lw_okq (⟨"WhilePress$Reader", "settle", "(I)V"⟩, 20) := ⟨⟨by decide +kernel, by decide +kernel⟩, List.mem_of_getElem? (i := 42) (by decide +kernel), List.mem_of_getElem? (i := 798) (by decide +kernel), List.mem_of_getElem? (i := 799) (by decide +kernel)⟩
theorem lw_p22 : lw_okq (⟨"WhilePress$Reader", "takeBinary", "(I)V"⟩, 20) := ⟨⟨by decide +kernel, by decide +kernel⟩, List.mem_of_getElem? (i := 42) (by decide +kernel), List.mem_of_getElem? (i := 802) (by decide +kernel), List.mem_of_getElem? (i := 803) (by decide +kernel)⟩
theorem lw_p23 : lw_okq (⟨"WhilePress$Reader", "takeClosing", "(I)Z"⟩, 20) := ⟨⟨by decide +kernel, by decide +kernel⟩, List.mem_of_getElem? (i := 42) (by decide +kernel), List.mem_of_getElem? (i := 810) (by decide +kernel), List.mem_of_getElem? (i := 811) (by decide +kernel)⟩
theorem lw_p24 : lw_okq (⟨"WhilePress$Reader", "takeWhile", "()V"⟩, 20) := ⟨⟨by decide +kernel, by decide +kernel⟩, List.mem_of_getElem? (i := 42) (by decide +kernel), List.mem_of_getElem? (i := 814) (by decide +kernel), List.mem_of_getElem? (i := 815) (by decide +kernel)⟩
theorem lw_p25 : lw_okq (⟨"WhilePress$Reader", "takeDo", "()V"⟩, 20) := ⟨⟨by decide +kernel, by decide +kernel⟩, List.mem_of_getElem? (i := 42) (by decide +kernel), List.mem_of_getElem? (i := 822) (by decide +kernel), List.mem_of_getElem? (i := 823) (by decide +kernel)⟩
theorem lw_p26 : lw_okq (⟨"WhilePress$Reader", "takeNamed", "(I)V"⟩, 20) := ⟨⟨by decide +kernel, by decide +kernel⟩, List.mem_of_getElem? (i := 42) (by decide +kernel), List.mem_of_getElem? (i := 826) (by decide +kernel), List.mem_of_getElem? (i := 827) (by decide +kernel)⟩
theorem lw_p27 : lw_okq (⟨"WhilePress$Reader", "wanted", "(II)I"⟩, 20) := ⟨⟨by decide +kernel, by decide +kernel⟩, List.mem_of_getElem? (i := 42) (by decide +kernel), List.mem_of_getElem? (i := 830) (by decide +kernel), List.mem_of_getElem? (i := 831) (by decide +kernel)⟩
theorem lw_p28 : lw_okq (⟨"WhilePress$Reader", "takeSimple", "()V"⟩, 20) := ⟨⟨by decide +kernel, by decide +kernel⟩, List.mem_of_getElem? (i := 42) (by decide +kernel), List.mem_of_getElem? (i := 834) (by decide +kernel), List.mem_of_getElem? (i := 835) (by decide +kernel)⟩
theorem lw_p29 : lw_okq (⟨"WhilePress$Reader", "takeLeave", "(I)I"⟩, 20) := ⟨⟨by decide +kernel, by decide +kernel⟩, List.mem_of_getElem? (i := 42) (by decide +kernel), List.mem_of_getElem? (i := 838) (by decide +kernel), List.mem_of_getElem? (i := 839) (by decide +kernel)⟩
theorem lw_p30 : lw_okq (⟨"WhilePress$Reader", "takeRead", "()V"⟩, 20) := ⟨⟨by decide +kernel, by decide +kernel⟩, List.mem_of_getElem? (i := 42) (by decide +kernel), List.mem_of_getElem? (i := 842) (by decide +kernel), List.mem_of_getElem? (i := 843) (by decide +kernel)⟩
theorem lw_p31 : lw_okq (⟨"java/lang/Throwable", "fillInStackTrace", "(I)Ljava/lang/Throwable;"⟩, 6) := ⟨⟨by decide +kernel, by decide +kernel⟩, List.mem_of_getElem? (i := 924) (by decide +kernel), List.mem_of_getElem? (i := 922) (by decide +kernel), List.mem_of_getElem? (i := 923) (by decide +kernel)⟩
def lw_privs_2 : List (MethodName × Nat) := [(⟨"WhilePress$Reader", "takeIf", "()V"⟩, 20), (⟨"WhilePress$Reader", "takeExpr", "(Z)V"⟩, 20), (⟨"WhilePress$Reader", "pend", "(III)V"⟩, 20), (⟨"WhilePress$Reader", "takeOperand", "()Z"⟩, 20), (⟨"WhilePress$Reader", "nextKind", "()I"⟩, 20), (⟨"WhilePress$Reader", "settle", "(I)V"⟩, 20), (⟨"WhilePress$Reader", "takeBinary", "(I)V"⟩, 20), (⟨"WhilePress$Reader", "takeClosing", "(I)Z"⟩, 20), (⟨"WhilePress$Reader", "takeWhile", "()V"⟩, 20), (⟨"WhilePress$Reader", "takeDo", "()V"⟩, 20), (⟨"WhilePress$Reader", "takeNamed", "(I)V"⟩, 20), (⟨"WhilePress$Reader", "wanted", "(II)I"⟩, 20), (⟨"WhilePress$Reader", "takeSimple", "()V"⟩, 20), (⟨"WhilePress$Reader", "takeLeave", "(I)I"⟩, 20), (⟨"WhilePress$Reader", "takeRead", "()V"⟩, 20), (⟨"java/lang/Throwable", "fillInStackTrace", "(I)Ljava/lang/Throwable;"⟩, 6)]
theorem lw_r2 : ∀ q ∈ lw_privs_2, lw_okq q := List.forall_mem_cons.mpr ⟨lw_p16, List.forall_mem_cons.mpr ⟨lw_p17, List.forall_mem_cons.mpr ⟨lw_p18, List.forall_mem_cons.mpr ⟨lw_p19, List.forall_mem_cons.mpr ⟨lw_p20, List.forall_mem_cons.mpr ⟨lw_p21, List.forall_mem_cons.mpr ⟨lw_p22, List.forall_mem_cons.mpr ⟨lw_p23, List.forall_mem_cons.mpr ⟨lw_p24, List.forall_mem_cons.mpr ⟨lw_p25, List.forall_mem_cons.mpr ⟨lw_p26, List.forall_mem_cons.mpr ⟨lw_p27, List.forall_mem_cons.mpr ⟨lw_p28, List.forall_mem_cons.mpr ⟨lw_p29, List.forall_mem_cons.mpr ⟨lw_p30, List.forall_mem_cons.mpr ⟨lw_p31, fun _ h => absurd h List.not_mem_nil⟩⟩⟩⟩⟩⟩⟩⟩⟩⟩⟩⟩⟩⟩⟩⟩
theorem lw_p32 : lw_okq (⟨"WhilePress$Maker", "arrive", "()V"⟩, 13) := ⟨⟨by decide +kernel, by decide +kernel⟩, List.mem_of_getElem? (i := 249) (by decide +kernel), List.mem_of_getElem? (i := 1002) (by decide +kernel), List.mem_of_getElem? (i := 1003) (by decide +kernel)⟩
theorem lw_p33 : lw_okq (⟨"WhilePress$Maker", "takeStep", "(II)V"⟩, 13) := ⟨⟨by decide +kernel, by decide +kernel⟩, List.mem_of_getElem? (i := 249) (by decide +kernel), List.mem_of_getElem? (i := 1014) (by decide +kernel), List.mem_of_getElem? (i := 1015) (by decide +kernel)⟩
theorem lw_p34 : lw_okq (⟨"WhilePress$Maker", "takeWork", "(II)V"⟩, 13) := ⟨⟨by decide +kernel, by decide +kernel⟩, List.mem_of_getElem? (i := 249) (by decide +kernel), List.mem_of_getElem? (i := 1018) (by decide +kernel), List.mem_of_getElem? (i := 1019) (by decide +kernel)⟩
theorem lw_p35 : lw_okq (⟨"WhilePress$Maker", "pop", "()I"⟩, 13) := ⟨⟨by decide +kernel, by decide +kernel⟩, List.mem_of_getElem? (i := 249) (by decide +kernel), List.mem_of_getElem? (i := 1022) (by decide +kernel), List.mem_of_getElem? (i := 1023) (by decide +kernel)⟩
theorem lw_p36 : lw_okq (⟨"WhilePress$Maker", "push", "(II)V"⟩, 13) := ⟨⟨by decide +kernel, by decide +kernel⟩, List.mem_of_getElem? (i := 249) (by decide +kernel), List.mem_of_getElem? (i := 1026) (by decide +kernel), List.mem_of_getElem? (i := 1027) (by decide +kernel)⟩
theorem lw_p37 : lw_okq (⟨"WhilePress$Maker", "pushCopy", "(I)V"⟩, 13) := ⟨⟨by decide +kernel, by decide +kernel⟩, List.mem_of_getElem? (i := 249) (by decide +kernel), List.mem_of_getElem? (i := 1030) (by decide +kernel), List.mem_of_getElem? (i := 1031) (by decide +kernel)⟩
theorem lw_p38 : lw_okq (⟨"WhilePress$Maker", "lay", "(I)V"⟩, 13) := ⟨⟨by decide +kernel, by decide +kernel⟩, List.mem_of_getElem? (i := 249) (by decide +kernel), List.mem_of_getElem? (i := 1034) (by decide +kernel), List.mem_of_getElem? (i := 1035) (by decide +kernel)⟩
theorem lw_p39 : lw_okq (⟨"WhilePress$Maker", "tellInt", "(I)V"⟩, 13) := ⟨⟨by decide +kernel, by decide +kernel⟩, List.mem_of_getElem? (i := 249) (by decide +kernel), List.mem_of_getElem? (i := 1038) (by decide +kernel), List.mem_of_getElem? (i := 1039) (by decide +kernel)⟩
theorem lw_p40 : lw_okq (⟨"WhilePress$Maker", "call", "(I)V"⟩, 13) := ⟨⟨by decide +kernel, by decide +kernel⟩, List.mem_of_getElem? (i := 249) (by decide +kernel), List.mem_of_getElem? (i := 1042) (by decide +kernel), List.mem_of_getElem? (i := 1043) (by decide +kernel)⟩
theorem lw_p41 : lw_okq (⟨"WhilePress$Maker", "giveBack", "(I)V"⟩, 13) := ⟨⟨by decide +kernel, by decide +kernel⟩, List.mem_of_getElem? (i := 249) (by decide +kernel), List.mem_of_getElem? (i := 1046) (by decide +kernel), List.mem_of_getElem? (i := 1047) (by decide +kernel)⟩
theorem lw_p42 : lw_okq (⟨"WhilePress$Maker", "leap", "(IIII)V"⟩, 13) := ⟨⟨by decide +kernel, by decide +kernel⟩, List.mem_of_getElem? (i := 249) (by decide +kernel), List.mem_of_getElem? (i := 1050) (by decide +kernel), List.mem_of_getElem? (i := 1051) (by decide +kernel)⟩
theorem lw_p43 : lw_okq (⟨"WhilePress$Maker", "endCall", "()V"⟩, 13) := ⟨⟨by decide +kernel, by decide +kernel⟩, List.mem_of_getElem? (i := 249) (by decide +kernel), List.mem_of_getElem? (i := 1054) (by decide +kernel), List.mem_of_getElem? (i := 1055) (by decide +kernel)⟩
theorem lw_p44 : lw_okq (⟨"WhilePress$Maker", "test", "(II)V"⟩, 13) := ⟨⟨by decide +kernel, by decide +kernel⟩, List.mem_of_getElem? (i := 249) (by decide +kernel), List.mem_of_getElem? (i := 1058) (by decide +kernel), List.mem_of_getElem? (i := 1059) (by decide +kernel)⟩
theorem lw_p45 : lw_okq (⟨"WhilePress$Maker", "endTruth", "(I)V"⟩, 13) := ⟨⟨by decide +kernel, by decide +kernel⟩, List.mem_of_getElem? (i := 249) (by decide +kernel), List.mem_of_getElem? (i := 1062) (by decide +kernel), List.mem_of_getElem? (i := 1063) (by decide +kernel)⟩
theorem lw_p46 : lw_okq (⟨"WhilePress$Maker", "show", "()V"⟩, 13) := ⟨⟨by decide +kernel, by decide +kernel⟩, List.mem_of_getElem? (i := 249) (by decide +kernel), List.mem_of_getElem? (i := 1066) (by decide +kernel), List.mem_of_getElem? (i := 1067) (by decide +kernel)⟩
theorem lw_p47 : lw_okq (⟨"WhilePress$Lives", "look", "(LWhilePress$Code;I)Z"⟩, 7) := ⟨⟨by decide +kernel, by decide +kernel⟩, List.mem_of_getElem? (i := 391) (by decide +kernel), List.mem_of_getElem? (i := 1078) (by decide +kernel), List.mem_of_getElem? (i := 1079) (by decide +kernel)⟩
def lw_privs_3 : List (MethodName × Nat) := [(⟨"WhilePress$Maker", "arrive", "()V"⟩, 13), (⟨"WhilePress$Maker", "takeStep", "(II)V"⟩, 13), (⟨"WhilePress$Maker", "takeWork", "(II)V"⟩, 13), (⟨"WhilePress$Maker", "pop", "()I"⟩, 13), (⟨"WhilePress$Maker", "push", "(II)V"⟩, 13), (⟨"WhilePress$Maker", "pushCopy", "(I)V"⟩, 13), (⟨"WhilePress$Maker", "lay", "(I)V"⟩, 13), (⟨"WhilePress$Maker", "tellInt", "(I)V"⟩, 13), (⟨"WhilePress$Maker", "call", "(I)V"⟩, 13), (⟨"WhilePress$Maker", "giveBack", "(I)V"⟩, 13), (⟨"WhilePress$Maker", "leap", "(IIII)V"⟩, 13), (⟨"WhilePress$Maker", "endCall", "()V"⟩, 13), (⟨"WhilePress$Maker", "test", "(II)V"⟩, 13), (⟨"WhilePress$Maker", "endTruth", "(I)V"⟩, 13), (⟨"WhilePress$Maker", "show", "()V"⟩, 13), (⟨"WhilePress$Lives", "look", "(LWhilePress$Code;I)Z"⟩, 7)]
theorem lw_r3 : ∀ q ∈ lw_privs_3, lw_okq q := List.forall_mem_cons.mpr ⟨lw_p32, List.forall_mem_cons.mpr ⟨lw_p33, List.forall_mem_cons.mpr ⟨lw_p34, List.forall_mem_cons.mpr ⟨lw_p35, List.forall_mem_cons.mpr ⟨lw_p36, List.forall_mem_cons.mpr ⟨lw_p37, List.forall_mem_cons.mpr ⟨lw_p38, List.forall_mem_cons.mpr ⟨lw_p39, List.forall_mem_cons.mpr ⟨lw_p40, List.forall_mem_cons.mpr ⟨lw_p41, List.forall_mem_cons.mpr ⟨lw_p42, List.forall_mem_cons.mpr ⟨lw_p43, List.forall_mem_cons.mpr ⟨lw_p44, List.forall_mem_cons.mpr ⟨lw_p45, List.forall_mem_cons.mpr ⟨lw_p46, List.forall_mem_cons.mpr ⟨lw_p47, fun _ h => absurd h List.not_mem_nil⟩⟩⟩⟩⟩⟩⟩⟩⟩⟩⟩⟩⟩⟩⟩⟩
theorem lw_p48 : lw_okq (⟨"WhilePress$Lives", "join", "(II)V"⟩, 7) := ⟨⟨by decide +kernel, by decide +kernel⟩, List.mem_of_getElem? (i := 391) (by decide +kernel), List.mem_of_getElem? (i := 1086) (by decide +kernel), List.mem_of_getElem? (i := 1087) (by decide +kernel)⟩
theorem lw_p49 : lw_okq (⟨"WhilePress$Improver", "putConstants", "(LWhilePress$Code;)Z"⟩, 4) := ⟨⟨by decide +kernel, by decide +kernel⟩, List.mem_of_getElem? (i := 448) (by decide +kernel), List.mem_of_getElem? (i := 1129) (by decide +kernel), List.mem_of_getElem? (i := 1130) (by decide +kernel)⟩
theorem lw_p50 : lw_okq (⟨"WhilePress$Knowledge", "flow", "(LWhilePress$Code;I)V"⟩, 6) := ⟨⟨by decide +kernel, by decide +kernel⟩, List.mem_of_getElem? (i := 421) (by decide +kernel), List.mem_of_getElem? (i := 1143) (by decide +kernel), List.mem_of_getElem? (i := 1144) (by decide +kernel)⟩
theorem lw_p51 : lw_okq (⟨"WhilePress$Knowledge", "follow", "(LWhilePress$Code;I)V"⟩, 6) := ⟨⟨by decide +kernel, by decide +kernel⟩, List.mem_of_getElem? (i := 421) (by decide +kernel), List.mem_of_getElem? (i := 1150) (by decide +kernel), List.mem_of_getElem? (i := 1151) (by decide +kernel)⟩
theorem lw_p52 : lw_okq (⟨"WhilePress$Improver", "putConstant", "(LWhilePress$Code;I)Z"⟩, 4) := ⟨⟨by decide +kernel, by decide +kernel⟩, List.mem_of_getElem? (i := 448) (by decide +kernel), List.mem_of_getElem? (i := 1185) (by decide +kernel), List.mem_of_getElem? (i := 1186) (by decide +kernel)⟩
theorem lw_p53 : lw_okq (⟨"WhilePress$Improver", "putCopies", "(LWhilePress$Code;)Z"⟩, 4) := ⟨⟨by decide +kernel, by decide +kernel⟩, List.mem_of_getElem? (i := 448) (by decide +kernel), List.mem_of_getElem? (i := 1202) (by decide +kernel), List.mem_of_getElem? (i := 1203) (by decide +kernel)⟩
theorem lw_p54 : lw_okq (⟨"WhilePress$Holdings", "factFor", "(LWhilePress$Code;I)I"⟩, 10) := ⟨⟨by decide +kernel, by decide +kernel⟩, List.mem_of_getElem? (i := 454) (by decide +kernel), List.mem_of_getElem? (i := 1481) (by decide +kernel), List.mem_of_getElem? (i := 1482) (by decide +kernel)⟩
theorem lw_p55 : lw_okq (⟨"WhilePress$Holdings", "isOf", "(ILWhilePress$Code;I)Z"⟩, 10) := ⟨⟨by decide +kernel, by decide +kernel⟩, List.mem_of_getElem? (i := 454) (by decide +kernel), List.mem_of_getElem? (i := 1487) (by decide +kernel), List.mem_of_getElem? (i := 1488) (by decide +kernel)⟩
theorem lw_p56 : lw_okq (⟨"WhilePress$Holdings", "endBy", "(II)V"⟩, 10) := ⟨⟨by decide +kernel, by decide +kernel⟩, List.mem_of_getElem? (i := 454) (by decide +kernel), List.mem_of_getElem? (i := 1491) (by decide +kernel), List.mem_of_getElem? (i := 1492) (by decide +kernel)⟩
theorem lw_p57 : lw_okq (⟨"WhilePress$Holdings", "follow", "(LWhilePress$Code;I)Z"⟩, 10) := ⟨⟨by decide +kernel, by decide +kernel⟩, List.mem_of_getElem? (i := 454) (by decide +kernel), List.mem_of_getElem? (i := 1497) (by decide +kernel), List.mem_of_getElem? (i := 1498) (by decide +kernel)⟩
theorem lw_p58 : lw_okq (⟨"WhilePress$Holdings", "flow", "(I)Z"⟩, 10) := ⟨⟨by decide +kernel, by decide +kernel⟩, List.mem_of_getElem? (i := 454) (by decide +kernel), List.mem_of_getElem? (i := 1513) (by decide +kernel), List.mem_of_getElem? (i := 1514) (by decide +kernel)⟩
theorem lw_p59 : lw_okq (⟨"WhilePress$Improver", "putCopy", "(LWhilePress$Code;I)Z"⟩, 4) := ⟨⟨by decide +kernel, by decide +kernel⟩, List.mem_of_getElem? (i := 448) (by decide +kernel), List.mem_of_getElem? (i := 1519) (by decide +kernel), List.mem_of_getElem? (i := 1520) (by decide +kernel)⟩
theorem lw_p60 : lw_okq (⟨"WhilePress$Improver", "leaveDead", "(LWhilePress$Code;)Z"⟩, 4) := ⟨⟨by decide +kernel, by decide +kernel⟩, List.mem_of_getElem? (i := 448) (by decide +kernel), List.mem_of_getElem? (i := 1547) (by decide +kernel), List.mem_of_getElem? (i := 1548) (by decide +kernel)⟩
theorem lw_p61 : lw_okq (⟨"WhilePress$Improver", "mendJumps", "(LWhilePress$Code;)Z"⟩, 4) := ⟨⟨by decide +kernel, by decide +kernel⟩, List.mem_of_getElem? (i := 448) (by decide +kernel), List.mem_of_getElem? (i := 1559) (by decide +kernel), List.mem_of_getElem? (i := 1560) (by decide +kernel)⟩
theorem lw_p62 : lw_okq (⟨"WhilePress$Lives", "setApart", "(LWhilePress$Code;I)V"⟩, 7) := ⟨⟨by decide +kernel, by decide +kernel⟩, List.mem_of_getElem? (i := 391) (by decide +kernel), List.mem_of_getElem? (i := 1579) (by decide +kernel), List.mem_of_getElem? (i := 1580) (by decide +kernel)⟩
theorem lw_p63 : lw_okq (⟨"WhilePress$Lives", "leastColour", "(I)I"⟩, 7) := ⟨⟨by decide +kernel, by decide +kernel⟩, List.mem_of_getElem? (i := 391) (by decide +kernel), List.mem_of_getElem? (i := 1584) (by decide +kernel), List.mem_of_getElem? (i := 1585) (by decide +kernel)⟩
def lw_privs_4 : List (MethodName × Nat) := [(⟨"WhilePress$Lives", "join", "(II)V"⟩, 7), (⟨"WhilePress$Improver", "putConstants", "(LWhilePress$Code;)Z"⟩, 4), (⟨"WhilePress$Knowledge", "flow", "(LWhilePress$Code;I)V"⟩, 6), (⟨"WhilePress$Knowledge", "follow", "(LWhilePress$Code;I)V"⟩, 6), (⟨"WhilePress$Improver", "putConstant", "(LWhilePress$Code;I)Z"⟩, 4), (⟨"WhilePress$Improver", "putCopies", "(LWhilePress$Code;)Z"⟩, 4), (⟨"WhilePress$Holdings", "factFor", "(LWhilePress$Code;I)I"⟩, 10), (⟨"WhilePress$Holdings", "isOf", "(ILWhilePress$Code;I)Z"⟩, 10), (⟨"WhilePress$Holdings", "endBy", "(II)V"⟩, 10), (⟨"WhilePress$Holdings", "follow", "(LWhilePress$Code;I)Z"⟩, 10), (⟨"WhilePress$Holdings", "flow", "(I)Z"⟩, 10), (⟨"WhilePress$Improver", "putCopy", "(LWhilePress$Code;I)Z"⟩, 4), (⟨"WhilePress$Improver", "leaveDead", "(LWhilePress$Code;)Z"⟩, 4), (⟨"WhilePress$Improver", "mendJumps", "(LWhilePress$Code;)Z"⟩, 4), (⟨"WhilePress$Lives", "setApart", "(LWhilePress$Code;I)V"⟩, 7), (⟨"WhilePress$Lives", "leastColour", "(I)I"⟩, 7)]
theorem lw_r4 : ∀ q ∈ lw_privs_4, lw_okq q := List.forall_mem_cons.mpr ⟨lw_p48, List.forall_mem_cons.mpr ⟨lw_p49, List.forall_mem_cons.mpr ⟨lw_p50, List.forall_mem_cons.mpr ⟨lw_p51, List.forall_mem_cons.mpr ⟨lw_p52, List.forall_mem_cons.mpr ⟨lw_p53, List.forall_mem_cons.mpr ⟨lw_p54, List.forall_mem_cons.mpr ⟨lw_p55, List.forall_mem_cons.mpr ⟨lw_p56, List.forall_mem_cons.mpr ⟨lw_p57, List.forall_mem_cons.mpr ⟨lw_p58, List.forall_mem_cons.mpr ⟨lw_p59, List.forall_mem_cons.mpr ⟨lw_p60, List.forall_mem_cons.mpr ⟨lw_p61, List.forall_mem_cons.mpr ⟨lw_p62, List.forall_mem_cons.mpr ⟨lw_p63, fun _ h => absurd h List.not_mem_nil⟩⟩⟩⟩⟩⟩⟩⟩⟩⟩⟩⟩⟩⟩⟩⟩
theorem lw_p64 : lw_okq (⟨"WhilePress", "knownBefore", "(II)J"⟩, 17) := ⟨⟨by decide +kernel, by decide +kernel⟩, List.mem_of_getElem? (i := 34) (by decide +kernel), List.mem_of_getElem? (i := 1618) (by decide +kernel), List.mem_of_getElem? (i := 1619) (by decide +kernel)⟩
theorem lw_p65 : lw_okq (⟨"WhilePress$Runner", "begin", "(II)V"⟩, 17) := ⟨⟨by decide +kernel, by decide +kernel⟩, List.mem_of_getElem? (i := 508) (by decide +kernel), List.mem_of_getElem? (i := 1675) (by decide +kernel), List.mem_of_getElem? (i := 1676) (by decide +kernel)⟩
theorem lw_p66 : lw_okq (⟨"WhilePress$Runner", "takeWork", "(I)V"⟩, 17) := ⟨⟨by decide +kernel, by decide +kernel⟩, List.mem_of_getElem? (i := 508) (by decide +kernel), List.mem_of_getElem? (i := 1681) (by decide +kernel), List.mem_of_getElem? (i := 1682) (by decide +kernel)⟩
theorem lw_p67 : lw_okq (⟨"WhilePress$Runner", "pop", "()I"⟩, 17) := ⟨⟨by decide +kernel, by decide +kernel⟩, List.mem_of_getElem? (i := 508) (by decide +kernel), List.mem_of_getElem? (i := 1685) (by decide +kernel), List.mem_of_getElem? (i := 1686) (by decide +kernel)⟩
theorem lw_p68 : lw_okq (⟨"WhilePress$Runner", "push", "(I)V"⟩, 17) := ⟨⟨by decide +kernel, by decide +kernel⟩, List.mem_of_getElem? (i := 508) (by decide +kernel), List.mem_of_getElem? (i := 1691) (by decide +kernel), List.mem_of_getElem? (i := 1692) (by decide +kernel)⟩
theorem lw_p69 : lw_okq (⟨"WhilePress$Runner", "takePlain", "(LWhilePress$Script;II)V"⟩, 17) := ⟨⟨by decide +kernel, by decide +kernel⟩, List.mem_of_getElem? (i := 508) (by decide +kernel), List.mem_of_getElem? (i := 1695) (by decide +kernel), List.mem_of_getElem? (i := 1696) (by decide +kernel)⟩
theorem lw_p70 : lw_okq (⟨"WhilePress$Runner", "cellPlace", "([III)I"⟩, 17) := ⟨⟨by decide +kernel, by decide +kernel⟩, List.mem_of_getElem? (i := 508) (by decide +kernel), List.mem_of_getElem? (i := 1699) (by decide +kernel), List.mem_of_getElem? (i := 1700) (by decide +kernel)⟩
theorem lw_p71 : lw_okq (⟨"WhilePress$Runner", "takeInput", "()I"⟩, 17) := ⟨⟨by decide +kernel, by decide +kernel⟩, List.mem_of_getElem? (i := 508) (by decide +kernel), List.mem_of_getElem? (i := 1703) (by decide +kernel), List.mem_of_getElem? (i := 1704) (by decide +kernel)⟩
theorem lw_p72 : lw_okq (⟨"WhilePress$Runner", "show", "(I)V"⟩, 17) := ⟨⟨by decide +kernel, by decide +kernel⟩, List.mem_of_getElem? (i := 508) (by decide +kernel), List.mem_of_getElem? (i := 1707) (by decide +kernel), List.mem_of_getElem? (i := 1708) (by decide +kernel)⟩
theorem lw_p73 : lw_okq (⟨"WhilePress$Runner", "takeWay", "(LWhilePress$Script;II)V"⟩, 17) := ⟨⟨by decide +kernel, by decide +kernel⟩, List.mem_of_getElem? (i := 508) (by decide +kernel), List.mem_of_getElem? (i := 1711) (by decide +kernel), List.mem_of_getElem? (i := 1712) (by decide +kernel)⟩
theorem lw_p74 : lw_okq (⟨"WhilePress$Runner", "burn", "()V"⟩, 17) := ⟨⟨by decide +kernel, by decide +kernel⟩, List.mem_of_getElem? (i := 508) (by decide +kernel), List.mem_of_getElem? (i := 1715) (by decide +kernel), List.mem_of_getElem? (i := 1716) (by decide +kernel)⟩
theorem lw_p75 : lw_okq (⟨"WhilePress$Runner", "call", "(LWhilePress$Script;I)V"⟩, 17) := ⟨⟨by decide +kernel, by decide +kernel⟩, List.mem_of_getElem? (i := 508) (by decide +kernel), List.mem_of_getElem? (i := 1719) (by decide +kernel), List.mem_of_getElem? (i := 1720) (by decide +kernel)⟩
theorem lw_p76 : lw_okq (⟨"WhilePress$Runner", "goBack", "()V"⟩, 17) := ⟨⟨by decide +kernel, by decide +kernel⟩, List.mem_of_getElem? (i := 508) (by decide +kernel), List.mem_of_getElem? (i := 1723) (by decide +kernel), List.mem_of_getElem? (i := 1724) (by decide +kernel)⟩
theorem lw_p77 : lw_okq (⟨"WhilePress$Runner", "tellEarly", "(ZII)V"⟩, 17) := ⟨⟨by decide +kernel, by decide +kernel⟩, List.mem_of_getElem? (i := 508) (by decide +kernel), List.mem_of_getElem? (i := 1727) (by decide +kernel), List.mem_of_getElem? (i := 1728) (by decide +kernel)⟩
theorem lw_p78 : lw_okq (⟨"WhilePress$Runner", "takeInstruction", "(LWhilePress$Code;I[I)V"⟩, 17) := ⟨⟨by decide +kernel, by decide +kernel⟩, List.mem_of_getElem? (i := 508) (by decide +kernel), List.mem_of_getElem? (i := 1735) (by decide +kernel), List.mem_of_getElem? (i := 1736) (by decide +kernel)⟩
theorem lw_p79 : lw_okq (⟨"WhilePress$Runner", "resultOf", "(LWhilePress$Code;III)I"⟩, 17) := ⟨⟨by decide +kernel, by decide +kernel⟩, List.mem_of_getElem? (i := 508) (by decide +kernel), List.mem_of_getElem? (i := 1742) (by decide +kernel), List.mem_of_getElem? (i := 1743) (by decide +kernel)⟩
def lw_privs_5 : List (MethodName × Nat) := [(⟨"WhilePress", "knownBefore", "(II)J"⟩, 17), (⟨"WhilePress$Runner", "begin", "(II)V"⟩, 17), (⟨"WhilePress$Runner", "takeWork", "(I)V"⟩, 17), (⟨"WhilePress$Runner", "pop", "()I"⟩, 17), (⟨"WhilePress$Runner", "push", "(I)V"⟩, 17), (⟨"WhilePress$Runner", "takePlain", "(LWhilePress$Script;II)V"⟩, 17), (⟨"WhilePress$Runner", "cellPlace", "([III)I"⟩, 17), (⟨"WhilePress$Runner", "takeInput", "()I"⟩, 17), (⟨"WhilePress$Runner", "show", "(I)V"⟩, 17), (⟨"WhilePress$Runner", "takeWay", "(LWhilePress$Script;II)V"⟩, 17), (⟨"WhilePress$Runner", "burn", "()V"⟩, 17), (⟨"WhilePress$Runner", "call", "(LWhilePress$Script;I)V"⟩, 17), (⟨"WhilePress$Runner", "goBack", "()V"⟩, 17), (⟨"WhilePress$Runner", "tellEarly", "(ZII)V"⟩, 17), (⟨"WhilePress$Runner", "takeInstruction", "(LWhilePress$Code;I[I)V"⟩, 17), (⟨"WhilePress$Runner", "resultOf", "(LWhilePress$Code;III)I"⟩, 17)]
theorem lw_r5 : ∀ q ∈ lw_privs_5, lw_okq q := List.forall_mem_cons.mpr ⟨lw_p64, List.forall_mem_cons.mpr ⟨lw_p65, List.forall_mem_cons.mpr ⟨lw_p66, List.forall_mem_cons.mpr ⟨lw_p67, List.forall_mem_cons.mpr ⟨lw_p68, List.forall_mem_cons.mpr ⟨lw_p69, List.forall_mem_cons.mpr ⟨lw_p70, List.forall_mem_cons.mpr ⟨lw_p71, List.forall_mem_cons.mpr ⟨lw_p72, List.forall_mem_cons.mpr ⟨lw_p73, List.forall_mem_cons.mpr ⟨lw_p74, List.forall_mem_cons.mpr ⟨lw_p75, List.forall_mem_cons.mpr ⟨lw_p76, List.forall_mem_cons.mpr ⟨lw_p77, List.forall_mem_cons.mpr ⟨lw_p78, List.forall_mem_cons.mpr ⟨lw_p79, fun _ h => absurd h List.not_mem_nil⟩⟩⟩⟩⟩⟩⟩⟩⟩⟩⟩⟩⟩⟩⟩⟩
theorem lw_p80 : lw_okq (⟨"WhilePressModel", "cutWords", "()V"⟩, 111) := ⟨⟨by decide +kernel, by decide +kernel⟩, List.mem_of_getElem? (i := 1766) (by decide +kernel), List.mem_of_getElem? (i := 2120) (by decide +kernel), List.mem_of_getElem? (i := 2121) (by decide +kernel)⟩
theorem lw_p81 : lw_okq (⟨"WhilePressModel", "byteAt", "(I)I"⟩, 111) := ⟨⟨by decide +kernel, by decide +kernel⟩, List.mem_of_getElem? (i := 1766) (by decide +kernel), List.mem_of_getElem? (i := 2127) (by decide +kernel), List.mem_of_getElem? (i := 2128) (by decide +kernel)⟩
theorem lw_p82 : lw_okq (⟨"WhilePressModel", "goOver", "()V"⟩, 111) := ⟨⟨by decide +kernel, by decide +kernel⟩, List.mem_of_getElem? (i := 1766) (by decide +kernel), List.mem_of_getElem? (i := 2159) (by decide +kernel), List.mem_of_getElem? (i := 2160) (by decide +kernel)⟩
theorem lw_p83 : lw_okq (⟨"WhilePressModel", "readDecl", "()V"⟩, 111) := ⟨⟨by decide +kernel, by decide +kernel⟩, List.mem_of_getElem? (i := 1766) (by decide +kernel), List.mem_of_getElem? (i := 2163) (by decide +kernel), List.mem_of_getElem? (i := 2164) (by decide +kernel)⟩
theorem lw_p84 : lw_okq (⟨"WhilePressModel", "readInts", "(Z)V"⟩, 111) := ⟨⟨by decide +kernel, by decide +kernel⟩, List.mem_of_getElem? (i := 1766) (by decide +kernel), List.mem_of_getElem? (i := 2167) (by decide +kernel), List.mem_of_getElem? (i := 2168) (by decide +kernel)⟩
theorem lw_p85 : lw_okq (⟨"WhilePressModel", "misfit", "()V"⟩, 111) := ⟨⟨by decide +kernel, by decide +kernel⟩, List.mem_of_getElem? (i := 1766) (by decide +kernel), List.mem_of_getElem? (i := 2171) (by decide +kernel), List.mem_of_getElem? (i := 2172) (by decide +kernel)⟩
theorem lw_p86 : lw_okq (⟨"WhilePressModel", "fail", "(II)V"⟩, 111) := ⟨⟨by decide +kernel, by decide +kernel⟩, List.mem_of_getElem? (i := 1766) (by decide +kernel), List.mem_of_getElem? (i := 2175) (by decide +kernel), List.mem_of_getElem? (i := 2176) (by decide +kernel)⟩
theorem lw_p87 : lw_okq (⟨"WhilePressModel", "newInt", "(I)I"⟩, 111) := ⟨⟨by decide +kernel, by decide +kernel⟩, List.mem_of_getElem? (i := 1766) (by decide +kernel), List.mem_of_getElem? (i := 2179) (by decide +kernel), List.mem_of_getElem? (i := 2180) (by decide +kernel)⟩
theorem lw_p88 : lw_okq (⟨"WhilePressModel", "isTold", "(J)Z"⟩, 111) := ⟨⟨by decide +kernel, by decide +kernel⟩, List.mem_of_getElem? (i := 1766) (by decide +kernel), List.mem_of_getElem? (i := 2183) (by decide +kernel), List.mem_of_getElem? (i := 2184) (by decide +kernel)⟩
theorem lw_p89 : lw_okq (⟨"WhilePressModel", "addName", "(JII)V"⟩, 111) := ⟨⟨by decide +kernel, by decide +kernel⟩, List.mem_of_getElem? (i := 1766) (by decide +kernel), List.mem_of_getElem? (i := 2187) (by decide +kernel), List.mem_of_getElem? (i := 2188) (by decide +kernel)⟩
theorem lw_p90 : lw_okq (⟨"WhilePressModel", "step", "(II)I"⟩, 111) := ⟨⟨by decide +kernel, by decide +kernel⟩, List.mem_of_getElem? (i := 1766) (by decide +kernel), List.mem_of_getElem? (i := 2191) (by decide +kernel), List.mem_of_getElem? (i := 2192) (by decide +kernel)⟩
theorem lw_p91 : lw_okq (⟨"WhilePressModel", "take", "(I)Z"⟩, 111) := ⟨⟨by decide +kernel, by decide +kernel⟩, List.mem_of_getElem? (i := 1766) (by decide +kernel), List.mem_of_getElem? (i := 2195) (by decide +kernel), List.mem_of_getElem? (i := 2196) (by decide +kernel)⟩
theorem lw_p92 : lw_okq (⟨"WhilePressModel", "readRow", "()V"⟩, 111) := ⟨⟨by decide +kernel, by decide +kernel⟩, List.mem_of_getElem? (i := 1766) (by decide +kernel), List.mem_of_getElem? (i := 2199) (by decide +kernel), List.mem_of_getElem? (i := 2200) (by decide +kernel)⟩
theorem lw_p93 : lw_okq (⟨"WhilePressModel", "takeOpen", "(I)Z"⟩, 111) := ⟨⟨by decide +kernel, by decide +kernel⟩, List.mem_of_getElem? (i := 1766) (by decide +kernel), List.mem_of_getElem? (i := 2203) (by decide +kernel), List.mem_of_getElem? (i := 2204) (by decide +kernel)⟩
theorem lw_p94 : lw_okq (⟨"WhilePressModel", "opens", "()Z"⟩, 111) := ⟨⟨by decide +kernel, by decide +kernel⟩, List.mem_of_getElem? (i := 1766) (by decide +kernel), List.mem_of_getElem? (i := 2207) (by decide +kernel), List.mem_of_getElem? (i := 2208) (by decide +kernel)⟩
theorem lw_p95 : lw_okq (⟨"WhilePressModel", "takeClose", "(I)Z"⟩, 111) := ⟨⟨by decide +kernel, by decide +kernel⟩, List.mem_of_getElem? (i := 1766) (by decide +kernel), List.mem_of_getElem? (i := 2211) (by decide +kernel), List.mem_of_getElem? (i := 2212) (by decide +kernel)⟩
def lw_privs_6 : List (MethodName × Nat) := [(⟨"WhilePressModel", "cutWords", "()V"⟩, 111), (⟨"WhilePressModel", "byteAt", "(I)I"⟩, 111), (⟨"WhilePressModel", "goOver", "()V"⟩, 111), (⟨"WhilePressModel", "readDecl", "()V"⟩, 111), (⟨"WhilePressModel", "readInts", "(Z)V"⟩, 111), (⟨"WhilePressModel", "misfit", "()V"⟩, 111), (⟨"WhilePressModel", "fail", "(II)V"⟩, 111), (⟨"WhilePressModel", "newInt", "(I)I"⟩, 111), (⟨"WhilePressModel", "isTold", "(J)Z"⟩, 111), (⟨"WhilePressModel", "addName", "(JII)V"⟩, 111), (⟨"WhilePressModel", "step", "(II)I"⟩, 111), (⟨"WhilePressModel", "take", "(I)Z"⟩, 111), (⟨"WhilePressModel", "readRow", "()V"⟩, 111), (⟨"WhilePressModel", "takeOpen", "(I)Z"⟩, 111), (⟨"WhilePressModel", "opens", "()Z"⟩, 111), (⟨"WhilePressModel", "takeClose", "(I)Z"⟩, 111)]
theorem lw_r6 : ∀ q ∈ lw_privs_6, lw_okq q := List.forall_mem_cons.mpr ⟨lw_p80, List.forall_mem_cons.mpr ⟨lw_p81, List.forall_mem_cons.mpr ⟨lw_p82, List.forall_mem_cons.mpr ⟨lw_p83, List.forall_mem_cons.mpr ⟨lw_p84, List.forall_mem_cons.mpr ⟨lw_p85, List.forall_mem_cons.mpr ⟨lw_p86, List.forall_mem_cons.mpr ⟨lw_p87, List.forall_mem_cons.mpr ⟨lw_p88, List.forall_mem_cons.mpr ⟨lw_p89, List.forall_mem_cons.mpr ⟨lw_p90, List.forall_mem_cons.mpr ⟨lw_p91, List.forall_mem_cons.mpr ⟨lw_p92, List.forall_mem_cons.mpr ⟨lw_p93, List.forall_mem_cons.mpr ⟨lw_p94, List.forall_mem_cons.mpr ⟨lw_p95, fun _ h => absurd h List.not_mem_nil⟩⟩⟩⟩⟩⟩⟩⟩⟩⟩⟩⟩⟩⟩⟩⟩
theorem lw_p96 : lw_okq (⟨"WhilePressModel", "readDef", "()V"⟩, 111) := ⟨⟨by decide +kernel, by decide +kernel⟩, List.mem_of_getElem? (i := 1766) (by decide +kernel), List.mem_of_getElem? (i := 2215) (by decide +kernel), List.mem_of_getElem? (i := 2216) (by decide +kernel)⟩
theorem lw_p97 : lw_okq (⟨"WhilePressModel", "push", "(III)V"⟩, 111) := ⟨⟨by decide +kernel, by decide +kernel⟩, List.mem_of_getElem? (i := 1766) (by decide +kernel), List.mem_of_getElem? (i := 2219) (by decide +kernel), List.mem_of_getElem? (i := 2220) (by decide +kernel)⟩
theorem lw_p98 : lw_okq (⟨"WhilePressModel", "beginBlock", "()V"⟩, 111) := ⟨⟨by decide +kernel, by decide +kernel⟩, List.mem_of_getElem? (i := 1766) (by decide +kernel), List.mem_of_getElem? (i := 2223) (by decide +kernel), List.mem_of_getElem? (i := 2224) (by decide +kernel)⟩
theorem lw_p99 : lw_okq (⟨"WhilePressModel", "readStatement", "()V"⟩, 111) := ⟨⟨by decide +kernel, by decide +kernel⟩, List.mem_of_getElem? (i := 1766) (by decide +kernel), List.mem_of_getElem? (i := 2227) (by decide +kernel), List.mem_of_getElem? (i := 2228) (by decide +kernel)⟩
theorem lw_p100 : lw_okq (⟨"WhilePressModel", "top", "()I"⟩, 111) := ⟨⟨by decide +kernel, by decide +kernel⟩, List.mem_of_getElem? (i := 1766) (by decide +kernel), List.mem_of_getElem? (i := 2231) (by decide +kernel), List.mem_of_getElem? (i := 2232) (by decide +kernel)⟩
theorem lw_p101 : lw_okq (⟨"WhilePressModel", "endDef", "()V"⟩, 111) := ⟨⟨by decide +kernel, by decide +kernel⟩, List.mem_of_getElem? (i := 1766) (by decide +kernel), List.mem_of_getElem? (i := 2235) (by decide +kernel), List.mem_of_getElem? (i := 2236) (by decide +kernel)⟩
theorem lw_p102 : lw_okq (⟨"WhilePressModel", "tellChain", "(II)V"⟩, 111) := ⟨⟨by decide +kernel, by decide +kernel⟩, List.mem_of_getElem? (i := 1766) (by decide +kernel), List.mem_of_getElem? (i := 2239) (by decide +kernel), List.mem_of_getElem? (i := 2240) (by decide +kernel)⟩
theorem lw_p103 : lw_okq (⟨"WhilePressModel", "tell", "(II)V"⟩, 111) := ⟨⟨by decide +kernel, by decide +kernel⟩, List.mem_of_getElem? (i := 1766) (by decide +kernel), List.mem_of_getElem? (i := 2243) (by decide +kernel), List.mem_of_getElem? (i := 2244) (by decide +kernel)⟩
theorem lw_p104 : lw_okq (⟨"WhilePressModel", "endBlock", "()V"⟩, 111) := ⟨⟨by decide +kernel, by decide +kernel⟩, List.mem_of_getElem? (i := 1766) (by decide +kernel), List.mem_of_getElem? (i := 2247) (by decide +kernel), List.mem_of_getElem? (i := 2248) (by decide +kernel)⟩
theorem lw_p105 : lw_okq (⟨"WhilePressModel", "readNamed", "()V"⟩, 111) := ⟨⟨by decide +kernel, by decide +kernel⟩, List.mem_of_getElem? (i := 1766) (by decide +kernel), List.mem_of_getElem? (i := 2251) (by decide +kernel), List.mem_of_getElem? (i := 2252) (by decide +kernel)⟩
theorem lw_p106 : lw_okq (⟨"WhilePressModel", "meaningOfCall", "(I)I"⟩, 111) := ⟨⟨by decide +kernel, by decide +kernel⟩, List.mem_of_getElem? (i := 1766) (by decide +kernel), List.mem_of_getElem? (i := 2255) (by decide +kernel), List.mem_of_getElem? (i := 2256) (by decide +kernel)⟩
theorem lw_p107 : lw_okq (⟨"WhilePressModel", "meaning", "(II)I"⟩, 111) := ⟨⟨by decide +kernel, by decide +kernel⟩, List.mem_of_getElem? (i := 1766) (by decide +kernel), List.mem_of_getElem? (i := 2259) (by decide +kernel), List.mem_of_getElem? (i := 2260) (by decide +kernel)⟩
theorem lw_p108 : lw_okq (⟨"WhilePressModel", "begun", "()V"⟩, 111) := ⟨⟨by decide +kernel, by decide +kernel⟩, List.mem_of_getElem? (i := 1766) (by decide +kernel), List.mem_of_getElem? (i := 2263) (by decide +kernel), List.mem_of_getElem? (i := 2264) (by decide +kernel)⟩
theorem lw_p109 : lw_okq (⟨"WhilePressModel", "beginCall", "()V"⟩, 111) := ⟨⟨by decide +kernel, by decide +kernel⟩, List.mem_of_getElem? (i := 1766) (by decide +kernel), List.mem_of_getElem? (i := 2267) (by decide +kernel), List.mem_of_getElem? (i := 2268) (by decide +kernel)⟩
theorem lw_p110 : lw_okq (⟨"WhilePressModel", "endCall", "()V"⟩, 111) := ⟨⟨by decide +kernel, by decide +kernel⟩, List.mem_of_getElem? (i := 1766) (by decide +kernel), List.mem_of_getElem? (i := 2271) (by decide +kernel), List.mem_of_getElem? (i := 2272) (by decide +kernel)⟩
theorem lw_p111 : lw_okq (⟨"WhilePressModel", "readTested", "(I)V"⟩, 111) := ⟨⟨by decide +kernel, by decide +kernel⟩, List.mem_of_getElem? (i := 1766) (by decide +kernel), List.mem_of_getElem? (i := 2275) (by decide +kernel), List.mem_of_getElem? (i := 2276) (by decide +kernel)⟩
def lw_privs_7 : List (MethodName × Nat) := [(⟨"WhilePressModel", "readDef", "()V"⟩, 111), (⟨"WhilePressModel", "push", "(III)V"⟩, 111), (⟨"WhilePressModel", "beginBlock", "()V"⟩, 111), (⟨"WhilePressModel", "readStatement", "()V"⟩, 111), (⟨"WhilePressModel", "top", "()I"⟩, 111), (⟨"WhilePressModel", "endDef", "()V"⟩, 111), (⟨"WhilePressModel", "tellChain", "(II)V"⟩, 111), (⟨"WhilePressModel", "tell", "(II)V"⟩, 111), (⟨"WhilePressModel", "endBlock", "()V"⟩, 111), (⟨"WhilePressModel", "readNamed", "()V"⟩, 111), (⟨"WhilePressModel", "meaningOfCall", "(I)I"⟩, 111), (⟨"WhilePressModel", "meaning", "(II)I"⟩, 111), (⟨"WhilePressModel", "begun", "()V"⟩, 111), (⟨"WhilePressModel", "beginCall", "()V"⟩, 111), (⟨"WhilePressModel", "endCall", "()V"⟩, 111), (⟨"WhilePressModel", "readTested", "(I)V"⟩, 111)]
theorem lw_r7 : ∀ q ∈ lw_privs_7, lw_okq q := List.forall_mem_cons.mpr ⟨lw_p96, List.forall_mem_cons.mpr ⟨lw_p97, List.forall_mem_cons.mpr ⟨lw_p98, List.forall_mem_cons.mpr ⟨lw_p99, List.forall_mem_cons.mpr ⟨lw_p100, List.forall_mem_cons.mpr ⟨lw_p101, List.forall_mem_cons.mpr ⟨lw_p102, List.forall_mem_cons.mpr ⟨lw_p103, List.forall_mem_cons.mpr ⟨lw_p104, List.forall_mem_cons.mpr ⟨lw_p105, List.forall_mem_cons.mpr ⟨lw_p106, List.forall_mem_cons.mpr ⟨lw_p107, List.forall_mem_cons.mpr ⟨lw_p108, List.forall_mem_cons.mpr ⟨lw_p109, List.forall_mem_cons.mpr ⟨lw_p110, List.forall_mem_cons.mpr ⟨lw_p111, fun _ h => absurd h List.not_mem_nil⟩⟩⟩⟩⟩⟩⟩⟩⟩⟩⟩⟩⟩⟩⟩⟩
theorem lw_p112 : lw_okq (⟨"WhilePressModel", "readLeave", "(I)V"⟩, 111) := ⟨⟨by decide +kernel, by decide +kernel⟩, List.mem_of_getElem? (i := 1766) (by decide +kernel), List.mem_of_getElem? (i := 2279) (by decide +kernel), List.mem_of_getElem? (i := 2280) (by decide +kernel)⟩
theorem lw_p113 : lw_okq (⟨"WhilePressModel", "loop", "()I"⟩, 111) := ⟨⟨by decide +kernel, by decide +kernel⟩, List.mem_of_getElem? (i := 1766) (by decide +kernel), List.mem_of_getElem? (i := 2283) (by decide +kernel), List.mem_of_getElem? (i := 2284) (by decide +kernel)⟩
theorem lw_p114 : lw_okq (⟨"WhilePressModel", "readTold", "(I)V"⟩, 111) := ⟨⟨by decide +kernel, by decide +kernel⟩, List.mem_of_getElem? (i := 1766) (by decide +kernel), List.mem_of_getElem? (i := 2287) (by decide +kernel), List.mem_of_getElem? (i := 2288) (by decide +kernel)⟩
theorem lw_p115 : lw_okq (⟨"WhilePressModel", "isInDef", "()Z"⟩, 111) := ⟨⟨by decide +kernel, by decide +kernel⟩, List.mem_of_getElem? (i := 1766) (by decide +kernel), List.mem_of_getElem? (i := 2291) (by decide +kernel), List.mem_of_getElem? (i := 2292) (by decide +kernel)⟩
theorem lw_p116 : lw_okq (⟨"WhilePressModel", "readRead", "()V"⟩, 111) := ⟨⟨by decide +kernel, by decide +kernel⟩, List.mem_of_getElem? (i := 1766) (by decide +kernel), List.mem_of_getElem? (i := 2295) (by decide +kernel), List.mem_of_getElem? (i := 2296) (by decide +kernel)⟩
theorem lw_p117 : lw_okq (⟨"WhilePressModel", "readOperand", "()V"⟩, 111) := ⟨⟨by decide +kernel, by decide +kernel⟩, List.mem_of_getElem? (i := 1766) (by decide +kernel), List.mem_of_getElem? (i := 2299) (by decide +kernel), List.mem_of_getElem? (i := 2300) (by decide +kernel)⟩
theorem lw_p118 : lw_okq (⟨"WhilePressModel", "beginAll", "()V"⟩, 111) := ⟨⟨by decide +kernel, by decide +kernel⟩, List.mem_of_getElem? (i := 1766) (by decide +kernel), List.mem_of_getElem? (i := 2303) (by decide +kernel), List.mem_of_getElem? (i := 2304) (by decide +kernel)⟩
theorem lw_p119 : lw_okq (⟨"WhilePressModel", "readBehind", "()V"⟩, 111) := ⟨⟨by decide +kernel, by decide +kernel⟩, List.mem_of_getElem? (i := 1766) (by decide +kernel), List.mem_of_getElem? (i := 2307) (by decide +kernel), List.mem_of_getElem? (i := 2308) (by decide +kernel)⟩
theorem lw_p120 : lw_okq (⟨"WhilePressModel", "reduce", "()V"⟩, 111) := ⟨⟨by decide +kernel, by decide +kernel⟩, List.mem_of_getElem? (i := 1766) (by decide +kernel), List.mem_of_getElem? (i := 2311) (by decide +kernel), List.mem_of_getElem? (i := 2312) (by decide +kernel)⟩
theorem lw_p121 : lw_okq (⟨"WhilePressModel", "endExpr", "()V"⟩, 111) := ⟨⟨by decide +kernel, by decide +kernel⟩, List.mem_of_getElem? (i := 1766) (by decide +kernel), List.mem_of_getElem? (i := 2321) (by decide +kernel), List.mem_of_getElem? (i := 2322) (by decide +kernel)⟩
theorem lw_p122 : lw_okq (⟨"WhilePressModel", "endStatementExpr", "(II)V"⟩, 111) := ⟨⟨by decide +kernel, by decide +kernel⟩, List.mem_of_getElem? (i := 1766) (by decide +kernel), List.mem_of_getElem? (i := 2325) (by decide +kernel), List.mem_of_getElem? (i := 2326) (by decide +kernel)⟩
theorem lw_p123 : lw_okq (⟨"WhilePressModel", "statementDone", "()V"⟩, 111) := ⟨⟨by decide +kernel, by decide +kernel⟩, List.mem_of_getElem? (i := 1766) (by decide +kernel), List.mem_of_getElem? (i := 2329) (by decide +kernel), List.mem_of_getElem? (i := 2330) (by decide +kernel)⟩
theorem lw_p124 : lw_okq (⟨"WhilePressModel", "newRegister", "()I"⟩, 111) := ⟨⟨by decide +kernel, by decide +kernel⟩, List.mem_of_getElem? (i := 1766) (by decide +kernel), List.mem_of_getElem? (i := 2349) (by decide +kernel), List.mem_of_getElem? (i := 2350) (by decide +kernel)⟩
theorem lw_p125 : lw_okq (⟨"WhilePressModel", "lowerCall", "(II)V"⟩, 111) := ⟨⟨by decide +kernel, by decide +kernel⟩, List.mem_of_getElem? (i := 1766) (by decide +kernel), List.mem_of_getElem? (i := 2353) (by decide +kernel), List.mem_of_getElem? (i := 2354) (by decide +kernel)⟩
theorem lw_p126 : lw_okq (⟨"WhilePressModel", "lay", "(II)V"⟩, 111) := ⟨⟨by decide +kernel, by decide +kernel⟩, List.mem_of_getElem? (i := 1766) (by decide +kernel), List.mem_of_getElem? (i := 2357) (by decide +kernel), List.mem_of_getElem? (i := 2358) (by decide +kernel)⟩
theorem lw_p127 : lw_okq (⟨"WhilePressModel", "emit", "(IIIZIZ)I"⟩, 111) := ⟨⟨by decide +kernel, by decide +kernel⟩, List.mem_of_getElem? (i := 1766) (by decide +kernel), List.mem_of_getElem? (i := 2361) (by decide +kernel), List.mem_of_getElem? (i := 2362) (by decide +kernel)⟩
def lw_privs_8 : List (MethodName × Nat) := [(⟨"WhilePressModel", "readLeave", "(I)V"⟩, 111), (⟨"WhilePressModel", "loop", "()I"⟩, 111), (⟨"WhilePressModel", "readTold", "(I)V"⟩, 111), (⟨"WhilePressModel", "isInDef", "()Z"⟩, 111), (⟨"WhilePressModel", "readRead", "()V"⟩, 111), (⟨"WhilePressModel", "readOperand", "()V"⟩, 111), (⟨"WhilePressModel", "beginAll", "()V"⟩, 111), (⟨"WhilePressModel", "readBehind", "()V"⟩, 111), (⟨"WhilePressModel", "reduce", "()V"⟩, 111), (⟨"WhilePressModel", "endExpr", "()V"⟩, 111), (⟨"WhilePressModel", "endStatementExpr", "(II)V"⟩, 111), (⟨"WhilePressModel", "statementDone", "()V"⟩, 111), (⟨"WhilePressModel", "newRegister", "()I"⟩, 111), (⟨"WhilePressModel", "lowerCall", "(II)V"⟩, 111), (⟨"WhilePressModel", "lay", "(II)V"⟩, 111), (⟨"WhilePressModel", "emit", "(IIIZIZ)I"⟩, 111)]
theorem lw_r8 : ∀ q ∈ lw_privs_8, lw_okq q := List.forall_mem_cons.mpr ⟨lw_p112, List.forall_mem_cons.mpr ⟨lw_p113, List.forall_mem_cons.mpr ⟨lw_p114, List.forall_mem_cons.mpr ⟨lw_p115, List.forall_mem_cons.mpr ⟨lw_p116, List.forall_mem_cons.mpr ⟨lw_p117, List.forall_mem_cons.mpr ⟨lw_p118, List.forall_mem_cons.mpr ⟨lw_p119, List.forall_mem_cons.mpr ⟨lw_p120, List.forall_mem_cons.mpr ⟨lw_p121, List.forall_mem_cons.mpr ⟨lw_p122, List.forall_mem_cons.mpr ⟨lw_p123, List.forall_mem_cons.mpr ⟨lw_p124, List.forall_mem_cons.mpr ⟨lw_p125, List.forall_mem_cons.mpr ⟨lw_p126, List.forall_mem_cons.mpr ⟨lw_p127, fun _ h => absurd h List.not_mem_nil⟩⟩⟩⟩⟩⟩⟩⟩⟩⟩⟩⟩⟩⟩⟩⟩
theorem lw_p128 : lw_okq (⟨"WhilePressModel", "landChain", "(I)V"⟩, 111) := ⟨⟨by decide +kernel, by decide +kernel⟩, List.mem_of_getElem? (i := 1766) (by decide +kernel), List.mem_of_getElem? (i := 2365) (by decide +kernel), List.mem_of_getElem? (i := 2366) (by decide +kernel)⟩
theorem lw_p129 : lw_okq (⟨"WhilePressModel", "giveOperand", "(IZ)V"⟩, 111) := ⟨⟨by decide +kernel, by decide +kernel⟩, List.mem_of_getElem? (i := 1766) (by decide +kernel), List.mem_of_getElem? (i := 2369) (by decide +kernel), List.mem_of_getElem? (i := 2370) (by decide +kernel)⟩
theorem lw_p130 : lw_okq (⟨"WhilePressModel", "lowerValue", "(IIZ)V"⟩, 111) := ⟨⟨by decide +kernel, by decide +kernel⟩, List.mem_of_getElem? (i := 1766) (by decide +kernel), List.mem_of_getElem? (i := 2373) (by decide +kernel), List.mem_of_getElem? (i := 2374) (by decide +kernel)⟩
theorem lw_p131 : lw_okq (⟨"WhilePressModel", "openUp", "(III)V"⟩, 111) := ⟨⟨by decide +kernel, by decide +kernel⟩, List.mem_of_getElem? (i := 1766) (by decide +kernel), List.mem_of_getElem? (i := 2377) (by decide +kernel), List.mem_of_getElem? (i := 2378) (by decide +kernel)⟩
theorem lw_p132 : lw_okq (⟨"WhilePressModel", "lowerStep", "(II)V"⟩, 111) := ⟨⟨by decide +kernel, by decide +kernel⟩, List.mem_of_getElem? (i := 1766) (by decide +kernel), List.mem_of_getElem? (i := 2381) (by decide +kernel), List.mem_of_getElem? (i := 2382) (by decide +kernel)⟩
theorem lw_p133 : lw_okq (⟨"WhilePressModel", "loopOpen", "()I"⟩, 111) := ⟨⟨by decide +kernel, by decide +kernel⟩, List.mem_of_getElem? (i := 1766) (by decide +kernel), List.mem_of_getElem? (i := 2385) (by decide +kernel), List.mem_of_getElem? (i := 2386) (by decide +kernel)⟩
theorem lw_p134 : lw_okq (⟨"WhilePressModel", "putConstants", "(I)V"⟩, 111) := ⟨⟨by decide +kernel, by decide +kernel⟩, List.mem_of_getElem? (i := 1766) (by decide +kernel), List.mem_of_getElem? (i := 2393) (by decide +kernel), List.mem_of_getElem? (i := 2394) (by decide +kernel)⟩
theorem lw_p135 : lw_okq (⟨"WhilePressModel", "findKnown", "(II)V"⟩, 111) := ⟨⟨by decide +kernel, by decide +kernel⟩, List.mem_of_getElem? (i := 1766) (by decide +kernel), List.mem_of_getElem? (i := 2397) (by decide +kernel), List.mem_of_getElem? (i := 2398) (by decide +kernel)⟩
theorem lw_p136 : lw_okq (⟨"WhilePressModel", "make", "(II)V"⟩, 111) := ⟨⟨by decide +kernel, by decide +kernel⟩, List.mem_of_getElem? (i := 1766) (by decide +kernel), List.mem_of_getElem? (i := 2401) (by decide +kernel), List.mem_of_getElem? (i := 2402) (by decide +kernel)⟩
theorem lw_p137 : lw_okq (⟨"WhilePressModel", "isSure", "(IIZ)Z"⟩, 111) := ⟨⟨by decide +kernel, by decide +kernel⟩, List.mem_of_getElem? (i := 1766) (by decide +kernel), List.mem_of_getElem? (i := 2405) (by decide +kernel), List.mem_of_getElem? (i := 2406) (by decide +kernel)⟩
theorem lw_p138 : lw_okq (⟨"WhilePressModel", "whatOf", "(IIZ)I"⟩, 111) := ⟨⟨by decide +kernel, by decide +kernel⟩, List.mem_of_getElem? (i := 1766) (by decide +kernel), List.mem_of_getElem? (i := 2409) (by decide +kernel), List.mem_of_getElem? (i := 2410) (by decide +kernel)⟩
theorem lw_p139 : lw_okq (⟨"WhilePressModel", "goesOn", "(I)Z"⟩, 111) := ⟨⟨by decide +kernel, by decide +kernel⟩, List.mem_of_getElem? (i := 1766) (by decide +kernel), List.mem_of_getElem? (i := 2422) (by decide +kernel), List.mem_of_getElem? (i := 2423) (by decide +kernel)⟩
theorem lw_p140 : lw_okq (⟨"WhilePressModel", "flow", "(III)V"⟩, 111) := ⟨⟨by decide +kernel, by decide +kernel⟩, List.mem_of_getElem? (i := 1766) (by decide +kernel), List.mem_of_getElem? (i := 2426) (by decide +kernel), List.mem_of_getElem? (i := 2427) (by decide +kernel)⟩
theorem lw_p141 : lw_okq (⟨"WhilePressModel", "defines", "(I)Z"⟩, 111) := ⟨⟨by decide +kernel, by decide +kernel⟩, List.mem_of_getElem? (i := 1766) (by decide +kernel), List.mem_of_getElem? (i := 2430) (by decide +kernel), List.mem_of_getElem? (i := 2431) (by decide +kernel)⟩
theorem lw_p142 : lw_okq (⟨"WhilePressModel", "leaps", "(I)Z"⟩, 111) := ⟨⟨by decide +kernel, by decide +kernel⟩, List.mem_of_getElem? (i := 1766) (by decide +kernel), List.mem_of_getElem? (i := 2434) (by decide +kernel), List.mem_of_getElem? (i := 2435) (by decide +kernel)⟩
theorem lw_p143 : lw_okq (⟨"WhilePressModel", "usesA", "(I)Z"⟩, 111) := ⟨⟨by decide +kernel, by decide +kernel⟩, List.mem_of_getElem? (i := 1766) (by decide +kernel), List.mem_of_getElem? (i := 2438) (by decide +kernel), List.mem_of_getElem? (i := 2439) (by decide +kernel)⟩
def lw_privs_9 : List (MethodName × Nat) := [(⟨"WhilePressModel", "landChain", "(I)V"⟩, 111), (⟨"WhilePressModel", "giveOperand", "(IZ)V"⟩, 111), (⟨"WhilePressModel", "lowerValue", "(IIZ)V"⟩, 111), (⟨"WhilePressModel", "openUp", "(III)V"⟩, 111), (⟨"WhilePressModel", "lowerStep", "(II)V"⟩, 111), (⟨"WhilePressModel", "loopOpen", "()I"⟩, 111), (⟨"WhilePressModel", "putConstants", "(I)V"⟩, 111), (⟨"WhilePressModel", "findKnown", "(II)V"⟩, 111), (⟨"WhilePressModel", "make", "(II)V"⟩, 111), (⟨"WhilePressModel", "isSure", "(IIZ)Z"⟩, 111), (⟨"WhilePressModel", "whatOf", "(IIZ)I"⟩, 111), (⟨"WhilePressModel", "goesOn", "(I)Z"⟩, 111), (⟨"WhilePressModel", "flow", "(III)V"⟩, 111), (⟨"WhilePressModel", "defines", "(I)Z"⟩, 111), (⟨"WhilePressModel", "leaps", "(I)Z"⟩, 111), (⟨"WhilePressModel", "usesA", "(I)Z"⟩, 111)]
theorem lw_r9 : ∀ q ∈ lw_privs_9, lw_okq q := List.forall_mem_cons.mpr ⟨lw_p128, List.forall_mem_cons.mpr ⟨lw_p129, List.forall_mem_cons.mpr ⟨lw_p130, List.forall_mem_cons.mpr ⟨lw_p131, List.forall_mem_cons.mpr ⟨lw_p132, List.forall_mem_cons.mpr ⟨lw_p133, List.forall_mem_cons.mpr ⟨lw_p134, List.forall_mem_cons.mpr ⟨lw_p135, List.forall_mem_cons.mpr ⟨lw_p136, List.forall_mem_cons.mpr ⟨lw_p137, List.forall_mem_cons.mpr ⟨lw_p138, List.forall_mem_cons.mpr ⟨lw_p139, List.forall_mem_cons.mpr ⟨lw_p140, List.forall_mem_cons.mpr ⟨lw_p141, List.forall_mem_cons.mpr ⟨lw_p142, List.forall_mem_cons.mpr ⟨lw_p143, fun _ h => absurd h List.not_mem_nil⟩⟩⟩⟩⟩⟩⟩⟩⟩⟩⟩⟩⟩⟩⟩⟩
theorem lw_p144 : lw_okq (⟨"WhilePressModel", "usesB", "(I)Z"⟩, 111) := ⟨⟨by decide +kernel, by decide +kernel⟩, List.mem_of_getElem? (i := 1766) (by decide +kernel), List.mem_of_getElem? (i := 2442) (by decide +kernel), List.mem_of_getElem? (i := 2443) (by decide +kernel)⟩
theorem lw_p145 : lw_okq (⟨"WhilePressModel", "putCopies", "(I)V"⟩, 111) := ⟨⟨by decide +kernel, by decide +kernel⟩, List.mem_of_getElem? (i := 1766) (by decide +kernel), List.mem_of_getElem? (i := 2446) (by decide +kernel), List.mem_of_getElem? (i := 2447) (by decide +kernel)⟩
theorem lw_p146 : lw_okq (⟨"WhilePressModel", "findHeld", "(I)V"⟩, 111) := ⟨⟨by decide +kernel, by decide +kernel⟩, List.mem_of_getElem? (i := 1766) (by decide +kernel), List.mem_of_getElem? (i := 2450) (by decide +kernel), List.mem_of_getElem? (i := 2451) (by decide +kernel)⟩
theorem lw_p147 : lw_okq (⟨"WhilePressModel", "isExpr", "(IIIZIZ)Z"⟩, 111) := ⟨⟨by decide +kernel, by decide +kernel⟩, List.mem_of_getElem? (i := 1766) (by decide +kernel), List.mem_of_getElem? (i := 2454) (by decide +kernel), List.mem_of_getElem? (i := 2455) (by decide +kernel)⟩
theorem lw_p148 : lw_okq (⟨"WhilePressModel", "hand", "(II)V"⟩, 111) := ⟨⟨by decide +kernel, by decide +kernel⟩, List.mem_of_getElem? (i := 1766) (by decide +kernel), List.mem_of_getElem? (i := 2458) (by decide +kernel), List.mem_of_getElem? (i := 2459) (by decide +kernel)⟩
theorem lw_p149 : lw_okq (⟨"WhilePressModel", "has", "(II)Z"⟩, 111) := ⟨⟨by decide +kernel, by decide +kernel⟩, List.mem_of_getElem? (i := 1766) (by decide +kernel), List.mem_of_getElem? (i := 2462) (by decide +kernel), List.mem_of_getElem? (i := 2463) (by decide +kernel)⟩
theorem lw_p150 : lw_okq (⟨"WhilePressModel", "leaveOut", "()V"⟩, 111) := ⟨⟨by decide +kernel, by decide +kernel⟩, List.mem_of_getElem? (i := 1766) (by decide +kernel), List.mem_of_getElem? (i := 2466) (by decide +kernel), List.mem_of_getElem? (i := 2467) (by decide +kernel)⟩
theorem lw_p151 : lw_okq (⟨"WhilePressModel", "putOutDead", "(I)V"⟩, 111) := ⟨⟨by decide +kernel, by decide +kernel⟩, List.mem_of_getElem? (i := 1766) (by decide +kernel), List.mem_of_getElem? (i := 2470) (by decide +kernel), List.mem_of_getElem? (i := 2471) (by decide +kernel)⟩
theorem lw_p152 : lw_okq (⟨"WhilePressModel", "findLive", "(II)V"⟩, 111) := ⟨⟨by decide +kernel, by decide +kernel⟩, List.mem_of_getElem? (i := 1766) (by decide +kernel), List.mem_of_getElem? (i := 2474) (by decide +kernel), List.mem_of_getElem? (i := 2475) (by decide +kernel)⟩
theorem lw_p153 : lw_okq (⟨"WhilePressModel", "isWanted", "(IIII)Z"⟩, 111) := ⟨⟨by decide +kernel, by decide +kernel⟩, List.mem_of_getElem? (i := 1766) (by decide +kernel), List.mem_of_getElem? (i := 2478) (by decide +kernel), List.mem_of_getElem? (i := 2479) (by decide +kernel)⟩
theorem lw_p154 : lw_okq (⟨"WhilePressModel", "isCell", "(II)Z"⟩, 111) := ⟨⟨by decide +kernel, by decide +kernel⟩, List.mem_of_getElem? (i := 1766) (by decide +kernel), List.mem_of_getElem? (i := 2482) (by decide +kernel), List.mem_of_getElem? (i := 2483) (by decide +kernel)⟩
theorem lw_p155 : lw_okq (⟨"WhilePressModel", "putJumps", "()V"⟩, 111) := ⟨⟨by decide +kernel, by decide +kernel⟩, List.mem_of_getElem? (i := 1766) (by decide +kernel), List.mem_of_getElem? (i := 2486) (by decide +kernel), List.mem_of_getElem? (i := 2487) (by decide +kernel)⟩
theorem lw_p156 : lw_okq (⟨"WhilePressModel", "leaveUnreached", "()V"⟩, 111) := ⟨⟨by decide +kernel, by decide +kernel⟩, List.mem_of_getElem? (i := 1766) (by decide +kernel), List.mem_of_getElem? (i := 2490) (by decide +kernel), List.mem_of_getElem? (i := 2491) (by decide +kernel)⟩
theorem lw_p157 : lw_okq (⟨"WhilePressModel", "findReached", "(I)V"⟩, 111) := ⟨⟨by decide +kernel, by decide +kernel⟩, List.mem_of_getElem? (i := 1766) (by decide +kernel), List.mem_of_getElem? (i := 2494) (by decide +kernel), List.mem_of_getElem? (i := 2495) (by decide +kernel)⟩
theorem lw_p158 : lw_okq (⟨"WhilePressModel", "leads", "(I)I"⟩, 111) := ⟨⟨by decide +kernel, by decide +kernel⟩, List.mem_of_getElem? (i := 1766) (by decide +kernel), List.mem_of_getElem? (i := 2498) (by decide +kernel), List.mem_of_getElem? (i := 2499) (by decide +kernel)⟩
theorem lw_p159 : lw_okq (⟨"WhilePressModel", "findColours", "()V"⟩, 111) := ⟨⟨by decide +kernel, by decide +kernel⟩, List.mem_of_getElem? (i := 1766) (by decide +kernel), List.mem_of_getElem? (i := 2502) (by decide +kernel), List.mem_of_getElem? (i := 2503) (by decide +kernel)⟩
def lw_privs_10 : List (MethodName × Nat) := [(⟨"WhilePressModel", "usesB", "(I)Z"⟩, 111), (⟨"WhilePressModel", "putCopies", "(I)V"⟩, 111), (⟨"WhilePressModel", "findHeld", "(I)V"⟩, 111), (⟨"WhilePressModel", "isExpr", "(IIIZIZ)Z"⟩, 111), (⟨"WhilePressModel", "hand", "(II)V"⟩, 111), (⟨"WhilePressModel", "has", "(II)Z"⟩, 111), (⟨"WhilePressModel", "leaveOut", "()V"⟩, 111), (⟨"WhilePressModel", "putOutDead", "(I)V"⟩, 111), (⟨"WhilePressModel", "findLive", "(II)V"⟩, 111), (⟨"WhilePressModel", "isWanted", "(IIII)Z"⟩, 111), (⟨"WhilePressModel", "isCell", "(II)Z"⟩, 111), (⟨"WhilePressModel", "putJumps", "()V"⟩, 111), (⟨"WhilePressModel", "leaveUnreached", "()V"⟩, 111), (⟨"WhilePressModel", "findReached", "(I)V"⟩, 111), (⟨"WhilePressModel", "leads", "(I)I"⟩, 111), (⟨"WhilePressModel", "findColours", "()V"⟩, 111)]
theorem lw_r10 : ∀ q ∈ lw_privs_10, lw_okq q := List.forall_mem_cons.mpr ⟨lw_p144, List.forall_mem_cons.mpr ⟨lw_p145, List.forall_mem_cons.mpr ⟨lw_p146, List.forall_mem_cons.mpr ⟨lw_p147, List.forall_mem_cons.mpr ⟨lw_p148, List.forall_mem_cons.mpr ⟨lw_p149, List.forall_mem_cons.mpr ⟨lw_p150, List.forall_mem_cons.mpr ⟨lw_p151, List.forall_mem_cons.mpr ⟨lw_p152, List.forall_mem_cons.mpr ⟨lw_p153, List.forall_mem_cons.mpr ⟨lw_p154, List.forall_mem_cons.mpr ⟨lw_p155, List.forall_mem_cons.mpr ⟨lw_p156, List.forall_mem_cons.mpr ⟨lw_p157, List.forall_mem_cons.mpr ⟨lw_p158, List.forall_mem_cons.mpr ⟨lw_p159, fun _ h => absurd h List.not_mem_nil⟩⟩⟩⟩⟩⟩⟩⟩⟩⟩⟩⟩⟩⟩⟩⟩
theorem lw_p160 : lw_okq (⟨"WhilePressModel", "looksUp", "(II)Z"⟩, 111) := ⟨⟨by decide +kernel, by decide +kernel⟩, List.mem_of_getElem? (i := 1766) (by decide +kernel), List.mem_of_getElem? (i := 2514) (by decide +kernel), List.mem_of_getElem? (i := 2515) (by decide +kernel)⟩
theorem lw_p161 : lw_okq (⟨"WhilePressModel", "beginRun", "()V"⟩, 111) := ⟨⟨by decide +kernel, by decide +kernel⟩, List.mem_of_getElem? (i := 1766) (by decide +kernel), List.mem_of_getElem? (i := 2535) (by decide +kernel), List.mem_of_getElem? (i := 2536) (by decide +kernel)⟩
theorem lw_p162 : lw_okq (⟨"WhilePressModel", "runText", "(I)I"⟩, 111) := ⟨⟨by decide +kernel, by decide +kernel⟩, List.mem_of_getElem? (i := 1766) (by decide +kernel), List.mem_of_getElem? (i := 2539) (by decide +kernel), List.mem_of_getElem? (i := 2540) (by decide +kernel)⟩
theorem lw_p163 : lw_okq (⟨"WhilePressModel", "runCode", "(II)I"⟩, 111) := ⟨⟨by decide +kernel, by decide +kernel⟩, List.mem_of_getElem? (i := 1766) (by decide +kernel), List.mem_of_getElem? (i := 2543) (by decide +kernel), List.mem_of_getElem? (i := 2544) (by decide +kernel)⟩
theorem lw_p164 : lw_okq (⟨"WhilePressModel", "valueA", "(I)I"⟩, 111) := ⟨⟨by decide +kernel, by decide +kernel⟩, List.mem_of_getElem? (i := 1766) (by decide +kernel), List.mem_of_getElem? (i := 2547) (by decide +kernel), List.mem_of_getElem? (i := 2548) (by decide +kernel)⟩
theorem lw_p165 : lw_okq (⟨"WhilePressModel", "slotOf", "(I)I"⟩, 111) := ⟨⟨by decide +kernel, by decide +kernel⟩, List.mem_of_getElem? (i := 1766) (by decide +kernel), List.mem_of_getElem? (i := 2551) (by decide +kernel), List.mem_of_getElem? (i := 2552) (by decide +kernel)⟩
theorem lw_p166 : lw_okq (⟨"WhilePressModel", "valueB", "(I)I"⟩, 111) := ⟨⟨by decide +kernel, by decide +kernel⟩, List.mem_of_getElem? (i := 1766) (by decide +kernel), List.mem_of_getElem? (i := 2555) (by decide +kernel), List.mem_of_getElem? (i := 2556) (by decide +kernel)⟩
def lw_privs_11 : List (MethodName × Nat) := [(⟨"WhilePressModel", "looksUp", "(II)Z"⟩, 111), (⟨"WhilePressModel", "beginRun", "()V"⟩, 111), (⟨"WhilePressModel", "runText", "(I)I"⟩, 111), (⟨"WhilePressModel", "runCode", "(II)I"⟩, 111), (⟨"WhilePressModel", "valueA", "(I)I"⟩, 111), (⟨"WhilePressModel", "slotOf", "(I)I"⟩, 111), (⟨"WhilePressModel", "valueB", "(I)I"⟩, 111)]
theorem lw_r11 : ∀ q ∈ lw_privs_11, lw_okq q := List.forall_mem_cons.mpr ⟨lw_p160, List.forall_mem_cons.mpr ⟨lw_p161, List.forall_mem_cons.mpr ⟨lw_p162, List.forall_mem_cons.mpr ⟨lw_p163, List.forall_mem_cons.mpr ⟨lw_p164, List.forall_mem_cons.mpr ⟨lw_p165, List.forall_mem_cons.mpr ⟨lw_p166, fun _ h => absurd h List.not_mem_nil⟩⟩⟩⟩⟩⟩⟩
def lw_privs : List (MethodName × Nat) := lw_privs_1 ++ (lw_privs_2 ++ (lw_privs_3 ++ (lw_privs_4 ++ (lw_privs_5 ++ (lw_privs_6 ++ (lw_privs_7 ++ (lw_privs_8 ++ (lw_privs_9 ++ (lw_privs_10 ++ (lw_privs_11))))))))))
def lw_tbl : List Cond := k2_sels lw_privs ++ tables_1
theorem lw_privs_ok : ∀ q ∈ lw_privs, lw_okq q := by
  show ∀ q ∈ lw_privs_1 ++ (lw_privs_2 ++ (lw_privs_3 ++ (lw_privs_4 ++ (lw_privs_5 ++ (lw_privs_6 ++ (lw_privs_7 ++ (lw_privs_8 ++ (lw_privs_9 ++ (lw_privs_10 ++ (lw_privs_11)))))))))), lw_okq q
  exact List.forall_mem_append.mpr ⟨lw_r1, List.forall_mem_append.mpr ⟨lw_r2, List.forall_mem_append.mpr ⟨lw_r3, List.forall_mem_append.mpr ⟨lw_r4, List.forall_mem_append.mpr ⟨lw_r5, List.forall_mem_append.mpr ⟨lw_r6, List.forall_mem_append.mpr ⟨lw_r7, List.forall_mem_append.mpr ⟨lw_r8, List.forall_mem_append.mpr ⟨lw_r9, List.forall_mem_append.mpr ⟨lw_r10, lw_r11⟩⟩⟩⟩⟩⟩⟩⟩⟩⟩
end
section
/-! THE PROGRAM'S TABLES, part a: classes (written by wip/tools/gen_tables.py) -/
/-- the words that stay under warmer tables -/
def jw : List Cond := lw_tbl.filter goodWord
theorem jw_at {w : Cond} (i : Nat) (h : lw_tbl[i]? = some w) (g : goodWord w = true) : w ∈ jw := List.mem_filter.mpr ⟨List.mem_of_getElem? h, g⟩
theorem jw_all {ws : List Cond} (ps : List Nat) (hp : ws = ps.filterMap (fun i => lw_tbl[i]?)) (h : ws.all goodWord = true) : ∀ w ∈ ws, w ∈ jw := by
  intro w hw
  have h1 := List.all_eq_true.mp h w hw
  rw [hp] at hw
  obtain ⟨i, -, hi⟩ := List.mem_filterMap.mp hw
  exact jw_at i hi h1
theorem jw_good : ∀ w ∈ jw, (w.onTables && w.keeps) = true ∨ ∃ ty, w = .arrayClass ty := fun w h => good_of_word (List.mem_filter.mp h).2
theorem jw_tbl : ∀ w ∈ jw, w ∈ lw_tbl := fun w h => (List.mem_filter.mp h).1
theorem jw_s1 {w : Cond} (i : Nat) (h : tables_1_1[i]? = some w) (g : goodWord w = true) : w ∈ jw := by
  have h : w ∈ tables_1_1 := List.mem_of_getElem? h
  exact List.mem_filter.mpr ⟨List.mem_append_right _ (List.mem_append_left _ h), g⟩
theorem jw_s2 {w : Cond} (i : Nat) (h : tables_1_2[i]? = some w) (g : goodWord w = true) : w ∈ jw := by
  have h : w ∈ tables_1_2 := List.mem_of_getElem? h
  exact List.mem_filter.mpr ⟨List.mem_append_right _ (List.mem_append_right _ (List.mem_append_left _ h)), g⟩
theorem jw_s3 {w : Cond} (i : Nat) (h : tables_1_3[i]? = some w) (g : goodWord w = true) : w ∈ jw := by
  have h : w ∈ tables_1_3 := List.mem_of_getElem? h
  exact List.mem_filter.mpr ⟨List.mem_append_right _ (List.mem_append_right _ (List.mem_append_right _ (List.mem_append_left _ h))), g⟩
theorem jw_s4 {w : Cond} (i : Nat) (h : tables_1_4[i]? = some w) (g : goodWord w = true) : w ∈ jw := by
  have h : w ∈ tables_1_4 := List.mem_of_getElem? h
  exact List.mem_filter.mpr ⟨List.mem_append_right _ (List.mem_append_right _ (List.mem_append_right _ (List.mem_append_right _ (List.mem_append_left _ h)))), g⟩
theorem jw_s5 {w : Cond} (i : Nat) (h : tables_1_5[i]? = some w) (g : goodWord w = true) : w ∈ jw := by
  have h : w ∈ tables_1_5 := List.mem_of_getElem? h
  exact List.mem_filter.mpr ⟨List.mem_append_right _ (List.mem_append_right _ (List.mem_append_right _ (List.mem_append_right _ (List.mem_append_right _ (List.mem_append_left _ h))))), g⟩
theorem jw_s6 {w : Cond} (i : Nat) (h : tables_1_6[i]? = some w) (g : goodWord w = true) : w ∈ jw := by
  have h : w ∈ tables_1_6 := List.mem_of_getElem? h
  exact List.mem_filter.mpr ⟨List.mem_append_right _ (List.mem_append_right _ (List.mem_append_right _ (List.mem_append_right _ (List.mem_append_right _ (List.mem_append_right _ (List.mem_append_left _ h)))))), g⟩
theorem jw_s7 {w : Cond} (i : Nat) (h : tables_1_7[i]? = some w) (g : goodWord w = true) : w ∈ jw := by
  have h : w ∈ tables_1_7 := List.mem_of_getElem? h
  exact List.mem_filter.mpr ⟨List.mem_append_right _ (List.mem_append_right _ (List.mem_append_right _ (List.mem_append_right _ (List.mem_append_right _ (List.mem_append_right _ (List.mem_append_right _ (List.mem_append_left _ h))))))), g⟩
theorem jw_s8 {w : Cond} (i : Nat) (h : tables_1_8[i]? = some w) (g : goodWord w = true) : w ∈ jw := by
  have h : w ∈ tables_1_8 := List.mem_of_getElem? h
  exact List.mem_filter.mpr ⟨List.mem_append_right _ (List.mem_append_right _ (List.mem_append_right _ (List.mem_append_right _ (List.mem_append_right _ (List.mem_append_right _ (List.mem_append_right _ (List.mem_append_right _ (List.mem_append_left _ h)))))))), g⟩
theorem jw_s9 {w : Cond} (i : Nat) (h : tables_1_9[i]? = some w) (g : goodWord w = true) : w ∈ jw := by
  have h : w ∈ tables_1_9 := List.mem_of_getElem? h
  exact List.mem_filter.mpr ⟨List.mem_append_right _ (List.mem_append_right _ (List.mem_append_right _ (List.mem_append_right _ (List.mem_append_right _ (List.mem_append_right _ (List.mem_append_right _ (List.mem_append_right _ (List.mem_append_right _ (List.mem_append_left _ h))))))))), g⟩
theorem jw_s10 {w : Cond} (i : Nat) (h : tables_1_10[i]? = some w) (g : goodWord w = true) : w ∈ jw := by
  have h : w ∈ tables_1_10 := List.mem_of_getElem? h
  exact List.mem_filter.mpr ⟨List.mem_append_right _ (List.mem_append_right _ (List.mem_append_right _ (List.mem_append_right _ (List.mem_append_right _ (List.mem_append_right _ (List.mem_append_right _ (List.mem_append_right _ (List.mem_append_right _ (List.mem_append_right _ (List.mem_append_left _ h)))))))))), g⟩
theorem jw_s11 {w : Cond} (i : Nat) (h : tables_1_11[i]? = some w) (g : goodWord w = true) : w ∈ jw := by
  have h : w ∈ tables_1_11 := List.mem_of_getElem? h
  exact List.mem_filter.mpr ⟨List.mem_append_right _ (List.mem_append_right _ (List.mem_append_right _ (List.mem_append_right _ (List.mem_append_right _ (List.mem_append_right _ (List.mem_append_right _ (List.mem_append_right _ (List.mem_append_right _ (List.mem_append_right _ (List.mem_append_right _ h)))))))))), g⟩
/-- a choice by a number, read off a tree -/
theorem jt_c {α : Type} {b : Bool} {x y : Option α} {P : α → Prop} (hx : ∀ r, x = some r → P r) (hy : ∀ r, y = some r → P r) : ∀ r, (bif b then x else y) = some r → P r := by
  cases b
  · exact hy
  · exact hx
theorem jt_l {α : Type} {i k : Nat} {x : α} {P : Nat → α → Prop} (h : P k x) : ∀ r, (bif Nat.beq i k then some x else none) = some r → P i r := by
  intro r hr
  cases hb : Nat.beq i k
  · rw [hb] at hr; cases hr
  · rw [hb] at hr
    cases hr
    rw [Nat.eq_of_beq_eq_true hb]
    exact h
theorem jt_n {α : Type} {P : α → Prop} : ∀ r, (none : Option α) = some r → P r := fun _ h => by cases h

def jC0 : String := "WhilePress"
def jT0 : u_T := fun k => match k with
  | 0 => ("WhilePress", "tape", "[I", true)
  | 1 => ("WhilePress", "tapeSize", "I", false)
  | 2 => ("WhilePress", "reader", "LWhilePress$Reader;", true)
  | 3 => ("WhilePress", "script", "LWhilePress$Script;", false)
  | 4 => ("WhilePress", "spare", "LWhilePress$Script;", false)
  | 5 => ("WhilePress", "wasRead", "Z", false)
  | 6 => ("WhilePress", "faultPlace", "I", false)
  | 7 => ("WhilePress", "maker", "LWhilePress$Maker;", true)
  | 8 => ("WhilePress", "plain", "LWhilePress$Code;", true)
  | 9 => ("WhilePress", "wasLowered", "Z", false)
  | 10 => ("WhilePress", "plainLives", "LWhilePress$Lives;", true)
  | 11 => ("WhilePress", "knowledge", "LWhilePress$Knowledge;", true)
  | 12 => ("WhilePress", "knowsPlain", "Z", false)
  | 13 => ("WhilePress", "improver", "LWhilePress$Improver;", true)
  | 14 => ("WhilePress", "better", "LWhilePress$Code;", true)
  | 15 => ("WhilePress", "wasImproved", "Z", false)
  | _ => ("WhilePress", "runner", "LWhilePress$Runner;", true)
def jY0 : Nat → FieldType := fun k => match k with
  | 0 => (.array .int)
  | 1 => .int
  | 2 => (.object "WhilePress$Reader")
  | 3 => (.object "WhilePress$Script")
  | 4 => (.object "WhilePress$Script")
  | 5 => .boolean
  | 6 => .int
  | 7 => (.object "WhilePress$Maker")
  | 8 => (.object "WhilePress$Code")
  | 9 => .boolean
  | 10 => (.object "WhilePress$Lives")
  | 11 => (.object "WhilePress$Knowledge")
  | 12 => .boolean
  | 13 => (.object "WhilePress$Improver")
  | 14 => (.object "WhilePress$Code")
  | 15 => .boolean
  | _ => (.object "WhilePress$Runner")
theorem jC0_in : ∀ w ∈ u_ws jC0 jT0 17, w ∈ jw := jw_all [756, 758, 760, 762, 764, 766, 768, 770, 772, 774, 776, 778, 780, 782, 784, 786, 788] (by decide +kernel) (by decide +kernel)
theorem jC0_nm : ∀ a, a < 17 → ∀ b, b < 17 → a ≠ b → (jT0 a).2.1 ≠ (jT0 b).2.1 := by decide +kernel
theorem jC0_ty : ∀ k, k < 17 → parseFieldDescriptor (jT0 k).2.2.1 = some (jY0 k) := by decide +kernel
theorem jC0_new : Cond.instantiable jC0 17 ∈ jw ∧ Cond.initialized jC0 ∈ jw := ⟨jw_s1 34 (by decide +kernel) rfl, jw_s1 1 (by decide +kernel) rfl⟩
def jC1 : String := "WhilePress$Code"
def jT1 : u_T := fun k => match k with
  | 0 => ("WhilePress$Code", "ops", "[I", true)
  | 1 => ("WhilePress$Code", "ds", "[I", true)
  | 2 => ("WhilePress$Code", "as", "[I", true)
  | 3 => ("WhilePress$Code", "bs", "[I", true)
  | 4 => ("WhilePress$Code", "forms", "[I", true)
  | 5 => ("WhilePress$Code", "count", "I", false)
  | 6 => ("WhilePress$Code", "registers", "I", false)
  | 7 => ("WhilePress$Code", "isTooLong", "Z", false)
  | 8 => ("WhilePress$Code", "cells", "[I", true)
  | 9 => ("WhilePress$Code", "isLeader", "[Z", true)
  | 10 => ("WhilePress$Code", "isReached", "[Z", true)
  | 11 => ("WhilePress$Code", "isGone", "[Z", true)
  | 12 => ("WhilePress$Code", "moved", "[I", true)
  | _ => ("WhilePress$Code", "open", "[I", true)
def jY1 : Nat → FieldType := fun k => match k with
  | 0 => (.array .int)
  | 1 => (.array .int)
  | 2 => (.array .int)
  | 3 => (.array .int)
  | 4 => (.array .int)
  | 5 => .int
  | 6 => .int
  | 7 => .boolean
  | 8 => (.array .int)
  | 9 => (.array .boolean)
  | 10 => (.array .boolean)
  | 11 => (.array .boolean)
  | 12 => (.array .int)
  | _ => (.array .int)
theorem jC1_in : ∀ w ∈ u_ws jC1 jT1 14, w ∈ jw := jw_all [527, 529, 531, 533, 535, 537, 539, 541, 543, 545, 547, 549, 551, 553] (by decide +kernel) (by decide +kernel)
theorem jC1_nm : ∀ a, a < 14 → ∀ b, b < 14 → a ≠ b → (jT1 a).2.1 ≠ (jT1 b).2.1 := by decide +kernel
theorem jC1_ty : ∀ k, k < 14 → parseFieldDescriptor (jT1 k).2.2.1 = some (jY1 k) := by decide +kernel
theorem jC1_new : Cond.instantiable jC1 14 ∈ jw ∧ Cond.initialized jC1 ∈ jw := ⟨jw_s2 55 (by decide +kernel) rfl, jw_s1 7 (by decide +kernel) rfl⟩
def jC2 : String := "WhilePress$Holdings"
def jT2 : u_T := fun k => match k with
  | 0 => ("WhilePress$Holdings", "factOf", "[I", true)
  | 1 => ("WhilePress$Holdings", "holders", "[I", true)
  | 2 => ("WhilePress$Holdings", "ops", "[I", true)
  | 3 => ("WhilePress$Holdings", "as", "[I", true)
  | 4 => ("WhilePress$Holdings", "bs", "[I", true)
  | 5 => ("WhilePress$Holdings", "forms", "[I", true)
  | 6 => ("WhilePress$Holdings", "count", "I", false)
  | 7 => ("WhilePress$Holdings", "ends", "[J", true)
  | 8 => ("WhilePress$Holdings", "table", "[J", true)
  | _ => ("WhilePress$Holdings", "now", "[J", true)
def jY2 : Nat → FieldType := fun k => match k with
  | 0 => (.array .int)
  | 1 => (.array .int)
  | 2 => (.array .int)
  | 3 => (.array .int)
  | 4 => (.array .int)
  | 5 => (.array .int)
  | 6 => .int
  | 7 => (.array .long)
  | 8 => (.array .long)
  | _ => (.array .long)
theorem jC2_in : ∀ w ∈ u_ws jC2 jT2 10, w ∈ jw := jw_all [636, 638, 640, 642, 644, 646, 648, 650, 652, 654] (by decide +kernel) (by decide +kernel)
theorem jC2_nm : ∀ a, a < 10 → ∀ b, b < 10 → a ≠ b → (jT2 a).2.1 ≠ (jT2 b).2.1 := by decide +kernel
theorem jC2_ty : ∀ k, k < 10 → parseFieldDescriptor (jT2 k).2.2.1 = some (jY2 k) := by decide +kernel
theorem jC2_new : Cond.instantiable jC2 10 ∈ jw ∧ Cond.initialized jC2 ∈ jw := ⟨jw_s2 214 (by decide +kernel) rfl, jw_s1 11 (by decide +kernel) rfl⟩
def jC3 : String := "WhilePress$Improver"
def jT3 : u_T := fun k => match k with
  | 0 => ("WhilePress$Improver", "knowledge", "LWhilePress$Knowledge;", true)
  | 1 => ("WhilePress$Improver", "holdings", "LWhilePress$Holdings;", true)
  | 2 => ("WhilePress$Improver", "lives", "LWhilePress$Lives;", true)
  | _ => ("WhilePress$Improver", "rounds", "I", false)
def jY3 : Nat → FieldType := fun k => match k with
  | 0 => (.object "WhilePress$Knowledge")
  | 1 => (.object "WhilePress$Holdings")
  | 2 => (.object "WhilePress$Lives")
  | _ => .int
theorem jC3_in : ∀ w ∈ u_ws jC3 jT3 4, w ∈ jw := jw_all [665, 667, 669, 671] (by decide +kernel) (by decide +kernel)
theorem jC3_nm : ∀ a, a < 4 → ∀ b, b < 4 → a ≠ b → (jT3 a).2.1 ≠ (jT3 b).2.1 := by decide +kernel
theorem jC3_ty : ∀ k, k < 4 → parseFieldDescriptor (jT3 k).2.2.1 = some (jY3 k) := by decide +kernel
theorem jC3_new : Cond.instantiable jC3 4 ∈ jw ∧ Cond.initialized jC3 ∈ jw := ⟨jw_s2 208 (by decide +kernel) rfl, jw_s1 10 (by decide +kernel) rfl⟩
def jC4 : String := "WhilePress$Knowledge"
def jT4 : u_T := fun k => match k with
  | 0 => ("WhilePress$Knowledge", "table", "[J", true)
  | 1 => ("WhilePress$Knowledge", "isCome", "[Z", true)
  | 2 => ("WhilePress$Knowledge", "isWaiting", "[Z", true)
  | 3 => ("WhilePress$Knowledge", "waiting", "[I", true)
  | 4 => ("WhilePress$Knowledge", "waitingCount", "I", false)
  | _ => ("WhilePress$Knowledge", "now", "[J", true)
def jY4 : Nat → FieldType := fun k => match k with
  | 0 => (.array .long)
  | 1 => (.array .boolean)
  | 2 => (.array .boolean)
  | 3 => (.array .int)
  | 4 => .int
  | _ => (.array .long)
theorem jC4_in : ∀ w ∈ u_ws jC4 jT4 6, w ∈ jw := jw_all [601, 603, 605, 607, 609, 611] (by decide +kernel) (by decide +kernel)
theorem jC4_nm : ∀ a, a < 6 → ∀ b, b < 6 → a ≠ b → (jT4 a).2.1 ≠ (jT4 b).2.1 := by decide +kernel
theorem jC4_ty : ∀ k, k < 6 → parseFieldDescriptor (jT4 k).2.2.1 = some (jY4 k) := by decide +kernel
theorem jC4_new : Cond.instantiable jC4 6 ∈ jw ∧ Cond.initialized jC4 ∈ jw := ⟨jw_s2 181 (by decide +kernel) rfl, jw_s1 9 (by decide +kernel) rfl⟩
def jC5 : String := "WhilePress$Lives"
def jT5 : u_T := fun k => match k with
  | 0 => ("WhilePress$Lives", "before", "[J", true)
  | 1 => ("WhilePress$Lives", "behind", "[J", true)
  | 2 => ("WhilePress$Lives", "apart", "[J", true)
  | 3 => ("WhilePress$Lives", "isThere", "[Z", true)
  | 4 => ("WhilePress$Lives", "isTaken", "[Z", true)
  | 5 => ("WhilePress$Lives", "colours", "[I", true)
  | _ => ("WhilePress$Lives", "colourCount", "I", false)
def jY5 : Nat → FieldType := fun k => match k with
  | 0 => (.array .long)
  | 1 => (.array .long)
  | 2 => (.array .long)
  | 3 => (.array .boolean)
  | 4 => (.array .boolean)
  | 5 => (.array .int)
  | _ => .int
theorem jC5_in : ∀ w ∈ u_ws jC5 jT5 7, w ∈ jw := jw_all [572, 574, 576, 578, 580, 582, 584] (by decide +kernel) (by decide +kernel)
theorem jC5_nm : ∀ a, a < 7 → ∀ b, b < 7 → a ≠ b → (jT5 a).2.1 ≠ (jT5 b).2.1 := by decide +kernel
theorem jC5_ty : ∀ k, k < 7 → parseFieldDescriptor (jT5 k).2.2.1 = some (jY5 k) := by decide +kernel
theorem jC5_new : Cond.instantiable jC5 7 ∈ jw ∧ Cond.initialized jC5 ∈ jw := ⟨jw_s2 151 (by decide +kernel) rfl, jw_s1 8 (by decide +kernel) rfl⟩
def jC6 : String := "WhilePress$Maker"
def jT6 : u_T := fun k => match k with
  | 0 => ("WhilePress$Maker", "script", "LWhilePress$Script;", false)
  | 1 => ("WhilePress$Maker", "made", "LWhilePress$Code;", false)
  | 2 => ("WhilePress$Maker", "at", "I", false)
  | 3 => ("WhilePress$Maker", "begun", "[I", true)
  | 4 => ("WhilePress$Maker", "waits", "[I", true)
  | 5 => ("WhilePress$Maker", "truths", "[I", true)
  | 6 => ("WhilePress$Maker", "registers", "[I", true)
  | 7 => ("WhilePress$Maker", "operands", "[I", true)
  | 8 => ("WhilePress$Maker", "operandForms", "[I", true)
  | 9 => ("WhilePress$Maker", "operandCount", "I", false)
  | 10 => ("WhilePress$Maker", "backs", "[I", true)
  | 11 => ("WhilePress$Maker", "results", "[I", true)
  | _ => ("WhilePress$Maker", "calls", "I", false)
def jY6 : Nat → FieldType := fun k => match k with
  | 0 => (.object "WhilePress$Script")
  | 1 => (.object "WhilePress$Code")
  | 2 => .int
  | 3 => (.array .int)
  | 4 => (.array .int)
  | 5 => (.array .int)
  | 6 => (.array .int)
  | 7 => (.array .int)
  | 8 => (.array .int)
  | 9 => .int
  | 10 => (.array .int)
  | 11 => (.array .int)
  | _ => .int
theorem jC6_in : ∀ w ∈ u_ws jC6 jT6 13, w ∈ jw := jw_all [434, 436, 438, 440, 442, 444, 446, 448, 450, 452, 454, 456, 458] (by decide +kernel) (by decide +kernel)
theorem jC6_nm : ∀ a, a < 13 → ∀ b, b < 13 → a ≠ b → (jT6 a).2.1 ≠ (jT6 b).2.1 := by decide +kernel
theorem jC6_ty : ∀ k, k < 13 → parseFieldDescriptor (jT6 k).2.2.1 = some (jY6 k) := by decide +kernel
theorem jC6_new : Cond.instantiable jC6 13 ∈ jw ∧ Cond.initialized jC6 ∈ jw := ⟨jw_s2 9 (by decide +kernel) rfl, jw_s1 6 (by decide +kernel) rfl⟩
def jC7 : String := "WhilePress$Names"
def jT7 : u_T := fun k => match k with
  | 0 => ("WhilePress$Names", "texts", "[J", true)
  | 1 => ("WhilePress$Names", "kinds", "[I", true)
  | 2 => ("WhilePress$Names", "numbers", "[I", true)
  | 3 => ("WhilePress$Names", "count", "I", false)
  | _ => ("WhilePress$Names", "base", "I", false)
def jY7 : Nat → FieldType := fun k => match k with
  | 0 => (.array .long)
  | 1 => (.array .int)
  | 2 => (.array .int)
  | 3 => .int
  | _ => .int
theorem jC7_in : ∀ w ∈ u_ws jC7 jT7 5, w ∈ jw := jw_all [258, 260, 262, 264, 266] (by decide +kernel) (by decide +kernel)
theorem jC7_nm : ∀ a, a < 5 → ∀ b, b < 5 → a ≠ b → (jT7 a).2.1 ≠ (jT7 b).2.1 := by decide +kernel
theorem jC7_ty : ∀ k, k < 5 → parseFieldDescriptor (jT7 k).2.2.1 = some (jY7 k) := by decide +kernel
theorem jC7_new : Cond.instantiable jC7 5 ∈ jw ∧ Cond.initialized jC7 ∈ jw := ⟨jw_s1 79 (by decide +kernel) rfl, jw_s1 4 (by decide +kernel) rfl⟩
def jC8 : String := "WhilePress$Reader"
def jT8 : u_T := fun k => match k with
  | 0 => ("WhilePress$Reader", "words", "LWhilePress$Words;", true)
  | 1 => ("WhilePress$Reader", "names", "LWhilePress$Names;", true)
  | 2 => ("WhilePress$Reader", "script", "LWhilePress$Script;", false)
  | 3 => ("WhilePress$Reader", "at", "I", false)
  | 4 => ("WhilePress$Reader", "stopped", "Z", false)
  | 5 => ("WhilePress$Reader", "fault", "I", false)
  | 6 => ("WhilePress$Reader", "faultPlace", "I", false)
  | 7 => ("WhilePress$Reader", "isSoft", "Z", false)
  | 8 => ("WhilePress$Reader", "open", "I", false)
  | 9 => ("WhilePress$Reader", "statements", "I", false)
  | 10 => ("WhilePress$Reader", "defNow", "I", false)
  | 11 => ("WhilePress$Reader", "inLoop", "Z", false)
  | 12 => ("WhilePress$Reader", "breaks", "I", false)
  | 13 => ("WhilePress$Reader", "nexts", "I", false)
  | 14 => ("WhilePress$Reader", "pendingKinds", "[I", true)
  | 15 => ("WhilePress$Reader", "pendingBegins", "[I", true)
  | 16 => ("WhilePress$Reader", "pendingNumbers", "[I", true)
  | 17 => ("WhilePress$Reader", "pendingExprs", "[I", true)
  | 18 => ("WhilePress$Reader", "pendingNames", "[I", true)
  | _ => ("WhilePress$Reader", "pending", "I", false)
def jY8 : Nat → FieldType := fun k => match k with
  | 0 => (.object "WhilePress$Words")
  | 1 => (.object "WhilePress$Names")
  | 2 => (.object "WhilePress$Script")
  | 3 => .int
  | 4 => .boolean
  | 5 => .int
  | 6 => .int
  | 7 => .boolean
  | 8 => .int
  | 9 => .int
  | 10 => .int
  | 11 => .boolean
  | 12 => .int
  | 13 => .int
  | 14 => (.array .int)
  | 15 => (.array .int)
  | 16 => (.array .int)
  | 17 => (.array .int)
  | 18 => (.array .int)
  | _ => .int
theorem jC8_in : ∀ w ∈ u_ws jC8 jT8 20, w ∈ jw := jw_all [291, 293, 295, 297, 299, 301, 303, 305, 307, 309, 311, 313, 315, 317, 319, 321, 323, 325, 327, 329] (by decide +kernel) (by decide +kernel)
theorem jC8_nm : ∀ a, a < 20 → ∀ b, b < 20 → a ≠ b → (jT8 a).2.1 ≠ (jT8 b).2.1 := by decide +kernel
theorem jC8_ty : ∀ k, k < 20 → parseFieldDescriptor (jT8 k).2.2.1 = some (jY8 k) := by decide +kernel
theorem jC8_new : Cond.instantiable jC8 20 ∈ jw ∧ Cond.initialized jC8 ∈ jw := ⟨jw_s1 42 (by decide +kernel) rfl, jw_s1 2 (by decide +kernel) rfl⟩
def jC9 : String := "WhilePress$Runner"
def jT9 : u_T := fun k => match k with
  | 0 => ("WhilePress$Runner", "inputs", "[I", true)
  | 1 => ("WhilePress$Runner", "inputSize", "I", false)
  | 2 => ("WhilePress$Runner", "prints", "[I", true)
  | 3 => ("WhilePress$Runner", "printSize", "I", false)
  | 4 => ("WhilePress$Runner", "taken", "I", false)
  | 5 => ("WhilePress$Runner", "used", "I", false)
  | 6 => ("WhilePress$Runner", "fuel", "I", false)
  | 7 => ("WhilePress$Runner", "end", "I", false)
  | 8 => ("WhilePress$Runner", "at", "I", false)
  | 9 => ("WhilePress$Runner", "cells", "[I", true)
  | 10 => ("WhilePress$Runner", "slots", "[I", true)
  | 11 => ("WhilePress$Runner", "stack", "[I", true)
  | 12 => ("WhilePress$Runner", "top", "I", false)
  | 13 => ("WhilePress$Runner", "backs", "[I", true)
  | 14 => ("WhilePress$Runner", "calls", "I", false)
  | 15 => ("WhilePress$Runner", "registers", "[I", true)
  | _ => ("WhilePress$Runner", "sameNumbers", "[I", true)
def jY9 : Nat → FieldType := fun k => match k with
  | 0 => (.array .int)
  | 1 => .int
  | 2 => (.array .int)
  | 3 => .int
  | 4 => .int
  | 5 => .int
  | 6 => .int
  | 7 => .int
  | 8 => .int
  | 9 => (.array .int)
  | 10 => (.array .int)
  | 11 => (.array .int)
  | 12 => .int
  | 13 => (.array .int)
  | 14 => .int
  | 15 => (.array .int)
  | _ => (.array .int)
theorem jC9_in : ∀ w ∈ u_ws jC9 jT9 17, w ∈ jw := jw_all [704, 706, 708, 710, 712, 714, 716, 718, 720, 722, 724, 726, 728, 730, 732, 734, 736] (by decide +kernel) (by decide +kernel)
theorem jC9_nm : ∀ a, a < 17 → ∀ b, b < 17 → a ≠ b → (jT9 a).2.1 ≠ (jT9 b).2.1 := by decide +kernel
theorem jC9_ty : ∀ k, k < 17 → parseFieldDescriptor (jT9 k).2.2.1 = some (jY9 k) := by decide +kernel
theorem jC9_new : Cond.instantiable jC9 17 ∈ jw ∧ Cond.initialized jC9 ∈ jw := ⟨jw_s3 28 (by decide +kernel) rfl, jw_s1 12 (by decide +kernel) rfl⟩
def jC10 : String := "WhilePress$Script"
def jT10 : u_T := fun k => match k with
  | 0 => ("WhilePress$Script", "ops", "[I", true)
  | 1 => ("WhilePress$Script", "args", "[I", true)
  | 2 => ("WhilePress$Script", "wraps", "[I", true)
  | 3 => ("WhilePress$Script", "wrapNext", "[I", true)
  | 4 => ("WhilePress$Script", "count", "I", false)
  | 5 => ("WhilePress$Script", "start", "I", false)
  | 6 => ("WhilePress$Script", "globals", "I", false)
  | 7 => ("WhilePress$Script", "locals", "I", false)
  | 8 => ("WhilePress$Script", "rows", "I", false)
  | 9 => ("WhilePress$Script", "cells", "[I", true)
  | 10 => ("WhilePress$Script", "defs", "I", false)
  | 11 => ("WhilePress$Script", "defBegins", "[I", true)
  | 12 => ("WhilePress$Script", "defEnds", "[I", true)
  | 13 => ("WhilePress$Script", "defFirsts", "[I", true)
  | _ => ("WhilePress$Script", "defNames", "[I", true)
def jY10 : Nat → FieldType := fun k => match k with
  | 0 => (.array .int)
  | 1 => (.array .int)
  | 2 => (.array .int)
  | 3 => (.array .int)
  | 4 => .int
  | 5 => .int
  | 6 => .int
  | 7 => .int
  | 8 => .int
  | 9 => (.array .int)
  | 10 => .int
  | 11 => (.array .int)
  | 12 => (.array .int)
  | 13 => (.array .int)
  | _ => (.array .int)
theorem jC10_in : ∀ w ∈ u_ws jC10 jT10 15, w ∈ jw := jw_all [384, 386, 388, 390, 392, 394, 396, 398, 400, 402, 404, 406, 408, 410, 412] (by decide +kernel) (by decide +kernel)
theorem jC10_nm : ∀ a, a < 15 → ∀ b, b < 15 → a ≠ b → (jT10 a).2.1 ≠ (jT10 b).2.1 := by decide +kernel
theorem jC10_ty : ∀ k, k < 15 → parseFieldDescriptor (jT10 k).2.2.1 = some (jY10 k) := by decide +kernel
theorem jC10_new : Cond.instantiable jC10 15 ∈ jw ∧ Cond.initialized jC10 ∈ jw := ⟨jw_s1 166 (by decide +kernel) rfl, jw_s1 5 (by decide +kernel) rfl⟩
def jC11 : String := "WhilePress$Words"
def jT11 : u_T := fun k => match k with
  | 0 => ("WhilePress$Words", "kinds", "[I", true)
  | 1 => ("WhilePress$Words", "places", "[I", true)
  | 2 => ("WhilePress$Words", "values", "[J", true)
  | 3 => ("WhilePress$Words", "count", "I", false)
  | 4 => ("WhilePress$Words", "bytes", "[I", false)
  | _ => ("WhilePress$Words", "size", "I", false)
def jY11 : Nat → FieldType := fun k => match k with
  | 0 => (.array .int)
  | 1 => (.array .int)
  | 2 => (.array .long)
  | 3 => .int
  | 4 => (.array .int)
  | _ => .int
theorem jC11_in : ∀ w ∈ u_ws jC11 jT11 6, w ∈ jw := jw_all [230, 232, 234, 236, 238, 240] (by decide +kernel) (by decide +kernel)
theorem jC11_nm : ∀ a, a < 6 → ∀ b, b < 6 → a ≠ b → (jT11 a).2.1 ≠ (jT11 b).2.1 := by decide +kernel
theorem jC11_ty : ∀ k, k < 6 → parseFieldDescriptor (jT11 k).2.2.1 = some (jY11 k) := by decide +kernel
theorem jC11_new : Cond.instantiable jC11 6 ∈ jw ∧ Cond.initialized jC11 ∈ jw := ⟨jw_s1 48 (by decide +kernel) rfl, jw_s1 3 (by decide +kernel) rfl⟩
def jC12 : String := "WhilePressModel"
def jT12 : u_T := fun k => match k with
  | 0 => ("WhilePressModel", "thrown", "I", false)
  | 1 => ("WhilePressModel", "tape", "[B", true)
  | 2 => ("WhilePressModel", "taped", "I", false)
  | 3 => ("WhilePressModel", "wordKind", "[I", true)
  | 4 => ("WhilePressModel", "wordPlace", "[I", true)
  | 5 => ("WhilePressModel", "wordNumber", "[I", true)
  | 6 => ("WhilePressModel", "wordName", "[J", true)
  | 7 => ("WhilePressModel", "words", "I", false)
  | 8 => ("WhilePressModel", "steps", "[I", true)
  | 9 => ("WhilePressModel", "tolds", "[I", true)
  | 10 => ("WhilePressModel", "ors", "[Z", true)
  | 11 => ("WhilePressModel", "defSteps", "[I", true)
  | 12 => ("WhilePressModel", "listFirst", "[I", true)
  | 13 => ("WhilePressModel", "listMany", "[I", true)
  | 14 => ("WhilePressModel", "rowSizes", "[I", true)
  | 15 => ("WhilePressModel", "declInts", "[I", true)
  | 16 => ("WhilePressModel", "declMany", "[I", true)
  | 17 => ("WhilePressModel", "begins", "[I", true)
  | 18 => ("WhilePressModel", "now", "I", false)
  | 19 => ("WhilePressModel", "isRead", "Z", false)
  | 20 => ("WhilePressModel", "half", "I", false)
  | 21 => ("WhilePressModel", "stepMany", "I", false)
  | 22 => ("WhilePressModel", "pass", "I", false)
  | 23 => ("WhilePressModel", "names", "[J", true)
  | 24 => ("WhilePressModel", "nameKinds", "[I", true)
  | 25 => ("WhilePressModel", "nameOf", "[I", true)
  | 26 => ("WhilePressModel", "nameBlocks", "[I", true)
  | 27 => ("WhilePressModel", "nameMany", "I", false)
  | 28 => ("WhilePressModel", "blocks", "I", false)
  | 29 => ("WhilePressModel", "block", "I", false)
  | 30 => ("WhilePressModel", "ints", "I", false)
  | 31 => ("WhilePressModel", "rows", "I", false)
  | 32 => ("WhilePressModel", "defs", "I", false)
  | 33 => ("WhilePressModel", "pileKind", "[I", true)
  | 34 => ("WhilePressModel", "pileA", "[I", true)
  | 35 => ("WhilePressModel", "pileB", "[I", true)
  | 36 => ("WhilePressModel", "pileC", "[I", true)
  | 37 => ("WhilePressModel", "pileD", "[I", true)
  | 38 => ("WhilePressModel", "piled", "I", false)
  | 39 => ("WhilePressModel", "mode", "I", false)
  | 40 => ("WhilePressModel", "at", "I", false)
  | 41 => ("WhilePressModel", "open", "I", false)
  | 42 => ("WhilePressModel", "counted", "I", false)
  | 43 => ("WhilePressModel", "fault", "I", false)
  | 44 => ("WhilePressModel", "faultWord", "I", false)
  | 45 => ("WhilePressModel", "place", "I", false)
  | 46 => ("WhilePressModel", "operandAt", "I", false)
  | 47 => ("WhilePressModel", "exprsOf", "[I", true)
  | 48 => ("WhilePressModel", "beginsAt", "[I", true)
  | 49 => ("WhilePressModel", "beginNext", "[I", true)
  | 50 => ("WhilePressModel", "beginOr", "[Z", true)
  | 51 => ("WhilePressModel", "beginMany", "I", false)
  | 52 => ("WhilePressModel", "input", "[I", true)
  | 53 => ("WhilePressModel", "inputs", "I", false)
  | 54 => ("WhilePressModel", "taken", "I", false)
  | 55 => ("WhilePressModel", "printed", "[I", true)
  | 56 => ("WhilePressModel", "prints", "I", false)
  | 57 => ("WhilePressModel", "used", "I", false)
  | 58 => ("WhilePressModel", "values", "[I", true)
  | 59 => ("WhilePressModel", "cells", "[I", true)
  | 60 => ("WhilePressModel", "work", "[I", true)
  | 61 => ("WhilePressModel", "backs", "[I", true)
  | 62 => ("WhilePressModel", "gives", "[I", true)
  | 63 => ("WhilePressModel", "op", "[I", true)
  | 64 => ("WhilePressModel", "d", "[I", true)
  | 65 => ("WhilePressModel", "a", "[I", true)
  | 66 => ("WhilePressModel", "b", "[I", true)
  | 67 => ("WhilePressModel", "ka", "[Z", true)
  | 68 => ("WhilePressModel", "kb", "[Z", true)
  | 69 => ("WhilePressModel", "lowered", "I", false)
  | 70 => ("WhilePressModel", "improved", "I", false)
  | 71 => ("WhilePressModel", "registers", "I", false)
  | 72 => ("WhilePressModel", "isLowered", "Z", false)
  | 73 => ("WhilePressModel", "isImproved", "Z", false)
  | 74 => ("WhilePressModel", "isMuch", "Z", false)
  | 75 => ("WhilePressModel", "regOf", "[I", true)
  | 76 => ("WhilePressModel", "isFixed", "[Z", true)
  | 77 => ("WhilePressModel", "operand", "[I", true)
  | 78 => ("WhilePressModel", "operands", "I", false)
  | 79 => ("WhilePressModel", "openKind", "[I", true)
  | 80 => ("WhilePressModel", "openA", "[I", true)
  | 81 => ("WhilePressModel", "openB", "[I", true)
  | 82 => ("WhilePressModel", "openC", "[I", true)
  | 83 => ("WhilePressModel", "openMany", "I", false)
  | 84 => ("WhilePressModel", "callTo", "[I", true)
  | 85 => ("WhilePressModel", "callBack", "[I", true)
  | 86 => ("WhilePressModel", "callChain", "[I", true)
  | 87 => ("WhilePressModel", "sure", "[Z", true)
  | 88 => ("WhilePressModel", "what", "[I", true)
  | 89 => ("WhilePressModel", "come", "[Z", true)
  | 90 => ("WhilePressModel", "dirty", "[Z", true)
  | 91 => ("WhilePressModel", "outSure", "Z", false)
  | 92 => ("WhilePressModel", "outWhat", "I", false)
  | 93 => ("WhilePressModel", "changed", "Z", false)
  | 94 => ("WhilePressModel", "hold", "[I", true)
  | 95 => ("WhilePressModel", "exprOp", "[I", true)
  | 96 => ("WhilePressModel", "exprA", "[I", true)
  | 97 => ("WhilePressModel", "exprB", "[I", true)
  | 98 => ("WhilePressModel", "exprKa", "[Z", true)
  | 99 => ("WhilePressModel", "exprKb", "[Z", true)
  | 100 => ("WhilePressModel", "exprOf", "[I", true)
  | 101 => ("WhilePressModel", "gone", "[Z", true)
  | 102 => ("WhilePressModel", "newAt", "[I", true)
  | 103 => ("WhilePressModel", "live", "[Z", true)
  | 104 => ("WhilePressModel", "rounds", "I", false)
  | 105 => ("WhilePressModel", "colours", "I", false)
  | 106 => ("WhilePressModel", "colour", "[I", true)
  | 107 => ("WhilePressModel", "apart", "[Z", true)
  | 108 => ("WhilePressModel", "isThere", "[Z", true)
  | 109 => ("WhilePressModel", "held", "[I", true)
  | _ => ("WhilePressModel", "byColours", "Z", false)
def jY12 : Nat → FieldType := fun k => match k with
  | 0 => .int
  | 1 => (.array .byte)
  | 2 => .int
  | 3 => (.array .int)
  | 4 => (.array .int)
  | 5 => (.array .int)
  | 6 => (.array .long)
  | 7 => .int
  | 8 => (.array .int)
  | 9 => (.array .int)
  | 10 => (.array .boolean)
  | 11 => (.array .int)
  | 12 => (.array .int)
  | 13 => (.array .int)
  | 14 => (.array .int)
  | 15 => (.array .int)
  | 16 => (.array .int)
  | 17 => (.array .int)
  | 18 => .int
  | 19 => .boolean
  | 20 => .int
  | 21 => .int
  | 22 => .int
  | 23 => (.array .long)
  | 24 => (.array .int)
  | 25 => (.array .int)
  | 26 => (.array .int)
  | 27 => .int
  | 28 => .int
  | 29 => .int
  | 30 => .int
  | 31 => .int
  | 32 => .int
  | 33 => (.array .int)
  | 34 => (.array .int)
  | 35 => (.array .int)
  | 36 => (.array .int)
  | 37 => (.array .int)
  | 38 => .int
  | 39 => .int
  | 40 => .int
  | 41 => .int
  | 42 => .int
  | 43 => .int
  | 44 => .int
  | 45 => .int
  | 46 => .int
  | 47 => (.array .int)
  | 48 => (.array .int)
  | 49 => (.array .int)
  | 50 => (.array .boolean)
  | 51 => .int
  | 52 => (.array .int)
  | 53 => .int
  | 54 => .int
  | 55 => (.array .int)
  | 56 => .int
  | 57 => .int
  | 58 => (.array .int)
  | 59 => (.array .int)
  | 60 => (.array .int)
  | 61 => (.array .int)
  | 62 => (.array .int)
  | 63 => (.array .int)
  | 64 => (.array .int)
  | 65 => (.array .int)
  | 66 => (.array .int)
  | 67 => (.array .boolean)
  | 68 => (.array .boolean)
  | 69 => .int
  | 70 => .int
  | 71 => .int
  | 72 => .boolean
  | 73 => .boolean
  | 74 => .boolean
  | 75 => (.array .int)
  | 76 => (.array .boolean)
  | 77 => (.array .int)
  | 78 => .int
  | 79 => (.array .int)
  | 80 => (.array .int)
  | 81 => (.array .int)
  | 82 => (.array .int)
  | 83 => .int
  | 84 => (.array .int)
  | 85 => (.array .int)
  | 86 => (.array .int)
  | 87 => (.array .boolean)
  | 88 => (.array .int)
  | 89 => (.array .boolean)
  | 90 => (.array .boolean)
  | 91 => .boolean
  | 92 => .int
  | 93 => .boolean
  | 94 => (.array .int)
  | 95 => (.array .int)
  | 96 => (.array .int)
  | 97 => (.array .int)
  | 98 => (.array .boolean)
  | 99 => (.array .boolean)
  | 100 => (.array .int)
  | 101 => (.array .boolean)
  | 102 => (.array .int)
  | 103 => (.array .boolean)
  | 104 => .int
  | 105 => .int
  | 106 => (.array .int)
  | 107 => (.array .boolean)
  | 108 => (.array .boolean)
  | 109 => (.array .int)
  | _ => .boolean
theorem jC12_in : ∀ w ∈ u_ws jC12 jT12 111, w ∈ jw := jw_all [2051, 2053, 2055, 2057, 2059, 2061, 2063, 2065, 2067, 2069, 2071, 2073, 2075, 2077, 2079, 2081, 2083, 2085, 2087, 2089, 2091, 2093, 2095, 2097, 2099, 2101, 2103, 2105, 2107, 2109, 2111, 2113, 2115, 2117, 2119, 2121, 2123, 2125, 2127, 2129, 2131, 2133, 2135, 2137, 2139, 2141, 2143, 2145, 2147, 2149, 2151, 2153, 2155, 2157, 2159, 2161, 2163, 2165, 2167, 2169, 2171, 2173, 2175, 2177, 2179, 2181, 2183, 2185, 2187, 2189, 2191, 2193, 2195, 2197, 2199, 2201, 2203, 2205, 2207, 2209, 2211, 2213, 2215, 2217, 2219, 2221, 2223, 2225, 2227, 2229, 2231, 2233, 2235, 2237, 2239, 2241, 2243, 2245, 2247, 2249, 2251, 2253, 2255, 2257, 2259, 2261, 2263, 2265, 2267, 2269, 2271] (by decide +kernel) (by decide +kernel)
theorem jC12_nm : ∀ a, a < 111 → ∀ b, b < 111 → a ≠ b → (jT12 a).2.1 ≠ (jT12 b).2.1 := by decide +kernel
theorem jC12_ty : ∀ k, k < 111 → parseFieldDescriptor (jT12 k).2.2.1 = some (jY12 k) := by decide +kernel
theorem jC12_new : Cond.instantiable jC12 111 ∈ jw ∧ Cond.initialized jC12 ∈ jw := ⟨jw_s8 86 (by decide +kernel) rfl, jw_s1 13 (by decide +kernel) rfl⟩
def jC13 : String := "java/lang/IllegalArgumentException"
def jT13 : u_T := fun _ => ("", "", "", false)
def jY13 : Nat → FieldType := fun _ => .int
theorem jC13_in : ∀ w ∈ u_ws jC13 jT13 0, w ∈ jw := fun w h => by simp [u_ws] at h
theorem jC13_nm : ∀ a, a < 0 → ∀ b, b < 0 → a ≠ b → (jT13 a).2.1 ≠ (jT13 b).2.1 := fun a h => absurd h (Nat.not_lt_zero a)
theorem jC13_ty : ∀ k, k < 0 → parseFieldDescriptor (jT13 k).2.2.1 = some (jY13 k) := fun a h => absurd h (Nat.not_lt_zero a)
def jC14 : String := "java/lang/IllegalStateException"
def jT14 : u_T := fun _ => ("", "", "", false)
def jY14 : Nat → FieldType := fun _ => .int
theorem jC14_in : ∀ w ∈ u_ws jC14 jT14 0, w ∈ jw := fun w h => by simp [u_ws] at h
theorem jC14_nm : ∀ a, a < 0 → ∀ b, b < 0 → a ≠ b → (jT14 a).2.1 ≠ (jT14 b).2.1 := fun a h => absurd h (Nat.not_lt_zero a)
theorem jC14_ty : ∀ k, k < 0 → parseFieldDescriptor (jT14 k).2.2.1 = some (jY14 k) := fun a h => absurd h (Nat.not_lt_zero a)
def jC15 : String := "java/lang/IndexOutOfBoundsException"
def jT15 : u_T := fun _ => ("", "", "", false)
def jY15 : Nat → FieldType := fun _ => .int
theorem jC15_in : ∀ w ∈ u_ws jC15 jT15 0, w ∈ jw := fun w h => by simp [u_ws] at h
theorem jC15_nm : ∀ a, a < 0 → ∀ b, b < 0 → a ≠ b → (jT15 a).2.1 ≠ (jT15 b).2.1 := fun a h => absurd h (Nat.not_lt_zero a)
theorem jC15_ty : ∀ k, k < 0 → parseFieldDescriptor (jT15 k).2.2.1 = some (jY15 k) := fun a h => absurd h (Nat.not_lt_zero a)
abbrev jCl : List vw_C := [(jC0, jT0, 17), (jC1, jT1, 14), (jC2, jT2, 10), (jC3, jT3, 4), (jC4, jT4, 6), (jC5, jT5, 7), (jC6, jT6, 13), (jC7, jT7, 5), (jC8, jT8, 20), (jC9, jT9, 17), (jC10, jT10, 15), (jC11, jT11, 6), (jC12, jT12, 111), (jC13, jT13, 0), (jC14, jT14, 0), (jC15, jT15, 0)]
def jp_N (ci : Nat) : Nat := match ci with
  | 0 => 17
  | 1 => 14
  | 2 => 10
  | 3 => 4
  | 4 => 6
  | 5 => 7
  | 6 => 13
  | 7 => 5
  | 8 => 20
  | 9 => 17
  | 10 => 15
  | 11 => 6
  | 12 => 111
  | 13 => 0
  | 14 => 0
  | 15 => 0
  | _ => 0
def jp_C (ci : Nat) : String := match ci with
  | 0 => jC0
  | 1 => jC1
  | 2 => jC2
  | 3 => jC3
  | 4 => jC4
  | 5 => jC5
  | 6 => jC6
  | 7 => jC7
  | 8 => jC8
  | 9 => jC9
  | 10 => jC10
  | 11 => jC11
  | 12 => jC12
  | 13 => jC13
  | 14 => jC14
  | 15 => jC15
  | _ => jC0
def jp_T (ci : Nat) : u_T := match ci with
  | 0 => jT0
  | 1 => jT1
  | 2 => jT2
  | 3 => jT3
  | 4 => jT4
  | 5 => jT5
  | 6 => jT6
  | 7 => jT7
  | 8 => jT8
  | 9 => jT9
  | 10 => jT10
  | 11 => jT11
  | 12 => jT12
  | 13 => jT13
  | 14 => jT14
  | 15 => jT15
  | _ => jT0
def jp_ty (ci : Nat) : Nat → FieldType := match ci with
  | 0 => jY0
  | 1 => jY1
  | 2 => jY2
  | 3 => jY3
  | 4 => jY4
  | 5 => jY5
  | 6 => jY6
  | 7 => jY7
  | 8 => jY8
  | 9 => jY9
  | 10 => jY10
  | 11 => jY11
  | 12 => jY12
  | 13 => jY13
  | 14 => jY14
  | 15 => jY15
  | _ => jY0
theorem jp_cl : ∀ ci, ci < 16 → jCl[ci]? = some (jp_C ci, jp_T ci, jp_N ci) ∧ (∀ w ∈ u_ws (jp_C ci) (jp_T ci) (jp_N ci), w ∈ jw) ∧ (∀ a, a < jp_N ci → ∀ b, b < jp_N ci → a ≠ b → (jp_T ci a).2.1 ≠ (jp_T ci b).2.1) ∧ (∀ k, k < jp_N ci → parseFieldDescriptor (jp_T ci k).2.2.1 = some (jp_ty ci k)) := by
  intro ci h
  match ci, h with
  | 0, _ => exact ⟨rfl, jC0_in, jC0_nm, jC0_ty⟩
  | 1, _ => exact ⟨rfl, jC1_in, jC1_nm, jC1_ty⟩
  | 2, _ => exact ⟨rfl, jC2_in, jC2_nm, jC2_ty⟩
  | 3, _ => exact ⟨rfl, jC3_in, jC3_nm, jC3_ty⟩
  | 4, _ => exact ⟨rfl, jC4_in, jC4_nm, jC4_ty⟩
  | 5, _ => exact ⟨rfl, jC5_in, jC5_nm, jC5_ty⟩
  | 6, _ => exact ⟨rfl, jC6_in, jC6_nm, jC6_ty⟩
  | 7, _ => exact ⟨rfl, jC7_in, jC7_nm, jC7_ty⟩
  | 8, _ => exact ⟨rfl, jC8_in, jC8_nm, jC8_ty⟩
  | 9, _ => exact ⟨rfl, jC9_in, jC9_nm, jC9_ty⟩
  | 10, _ => exact ⟨rfl, jC10_in, jC10_nm, jC10_ty⟩
  | 11, _ => exact ⟨rfl, jC11_in, jC11_nm, jC11_ty⟩
  | 12, _ => exact ⟨rfl, jC12_in, jC12_nm, jC12_ty⟩
  | 13, _ => exact ⟨rfl, jC13_in, jC13_nm, jC13_ty⟩
  | 14, _ => exact ⟨rfl, jC14_in, jC14_nm, jC14_ty⟩
  | 15, _ => exact ⟨rfl, jC15_in, jC15_nm, jC15_ty⟩
  | k + 16, h => exact absurd h (by omega)
def jp_O (q : Nat) : String := match q with
  | 0 => "WhilePress"
  | 1 => "WhilePress$Code"
  | 2 => "WhilePress$Holdings"
  | 3 => "WhilePress$Improver"
  | 4 => "WhilePress$Knowledge"
  | 5 => "WhilePress$Lives"
  | 6 => "WhilePress$Maker"
  | 7 => "WhilePress$Names"
  | 8 => "WhilePress$Reader"
  | 9 => "WhilePress$Runner"
  | 10 => "WhilePress$Script"
  | 11 => "WhilePress$Words"
  | 12 => "WhilePressModel"
  | 13 => "WhilePressLaw"
  | 14 => "java/util/Arrays"
  | 15 => "java/lang/Math"
  | 16 => "java/lang/Long"
  | 17 => "java/lang/Integer"
  | _ => ""
theorem jp_OC : ∀ q, q < 13 → jp_O q = jp_C q := by decide +kernel
def jp_KEYS : List Int64 := [422826041707, 6579558, 25711, 1701606245, 26982, 6909556, 1852143732, 482955849332, 1919246692, 125780071117422, 7499639, 512852847717]
def jp_STR : List Int32 := [0, 0, 9, 9, 10, 10, 10, 5, 3, 4, 8, 8, 6, 6, 7, 7, 7, 7, 11, 11, 11, 2, 1, 0, 0, 0, 0]
end
section
/-! THE PROGRAM'S TABLES, part b: methods -/
/-- a method: its name, code, locals, return type; the number of its pool; how many arguments (without this); 1 if it is a constructor -/
abbrev jm_M : Type := MethodName × ByteArray × Nat × Option FieldType × Nat × Nat × Nat
def jm_q (M : jm_M) : Nat := M.2.2.2.2.1
def jm_n (M : jm_M) : Nat := M.2.2.2.2.2.1
def jm_mok (M : jm_M) : Prop := Cond.code M.1 M.2.1 M.2.2.1 M.2.2.2.1 ∈ jw ∧ Cond.initialized M.1.cls ∈ jw ∧ plainName M.1.cls = true ∧ (M.1.cls ≠ "java/lang/invoke/MethodHandle" ∧ M.1.cls ≠ "java/lang/invoke/VarHandle") ∧ (parseMethodDescriptor M.1.desc).map (fun d => d.parameters.length) = some (jm_n M) ∧ M.2.2.1 ≤ 40 ∧ (M.2.2.2.2.2.2 = 1 → M.1.name = "<init>") ∧ jp_O (jm_q M) = M.1.cls
theorem jd_0 : (parseMethodDescriptor "()I").map (fun d => d.parameters.length) = some 0 := by decide +kernel
theorem jd_1 : (parseMethodDescriptor "()V").map (fun d => d.parameters.length) = some 0 := by decide +kernel
theorem jd_2 : (parseMethodDescriptor "()Z").map (fun d => d.parameters.length) = some 0 := by decide +kernel
theorem jd_3 : (parseMethodDescriptor "(I)I").map (fun d => d.parameters.length) = some 1 := by decide +kernel
theorem jd_4 : (parseMethodDescriptor "(I)V").map (fun d => d.parameters.length) = some 1 := by decide +kernel
theorem jd_5 : (parseMethodDescriptor "(I)Z").map (fun d => d.parameters.length) = some 1 := by decide +kernel
theorem jd_6 : (parseMethodDescriptor "(II)I").map (fun d => d.parameters.length) = some 2 := by decide +kernel
theorem jd_7 : (parseMethodDescriptor "(II)J").map (fun d => d.parameters.length) = some 2 := by decide +kernel
theorem jd_8 : (parseMethodDescriptor "(II)V").map (fun d => d.parameters.length) = some 2 := by decide +kernel
theorem jd_9 : (parseMethodDescriptor "(II)Z").map (fun d => d.parameters.length) = some 2 := by decide +kernel
theorem jd_10 : (parseMethodDescriptor "(III)I").map (fun d => d.parameters.length) = some 3 := by decide +kernel
theorem jd_11 : (parseMethodDescriptor "(III)V").map (fun d => d.parameters.length) = some 3 := by decide +kernel
theorem jd_12 : (parseMethodDescriptor "(IIII)V").map (fun d => d.parameters.length) = some 4 := by decide +kernel
theorem jd_13 : (parseMethodDescriptor "(IIII)Z").map (fun d => d.parameters.length) = some 4 := by decide +kernel
theorem jd_14 : (parseMethodDescriptor "(IIIII)I").map (fun d => d.parameters.length) = some 5 := by decide +kernel
theorem jd_15 : (parseMethodDescriptor "(IIIII)V").map (fun d => d.parameters.length) = some 5 := by decide +kernel
theorem jd_16 : (parseMethodDescriptor "(IIIZIZ)I").map (fun d => d.parameters.length) = some 6 := by decide +kernel
theorem jd_17 : (parseMethodDescriptor "(IIIZIZ)Z").map (fun d => d.parameters.length) = some 6 := by decide +kernel
theorem jd_18 : (parseMethodDescriptor "(IIJ)V").map (fun d => d.parameters.length) = some 3 := by decide +kernel
theorem jd_19 : (parseMethodDescriptor "(IIZ)I").map (fun d => d.parameters.length) = some 3 := by decide +kernel
theorem jd_20 : (parseMethodDescriptor "(IIZ)V").map (fun d => d.parameters.length) = some 3 := by decide +kernel
theorem jd_21 : (parseMethodDescriptor "(IIZ)Z").map (fun d => d.parameters.length) = some 3 := by decide +kernel
theorem jd_22 : (parseMethodDescriptor "(ILWhilePress$Code;I)Z").map (fun d => d.parameters.length) = some 3 := by decide +kernel
theorem jd_23 : (parseMethodDescriptor "(IZ)V").map (fun d => d.parameters.length) = some 2 := by decide +kernel
theorem jd_24 : (parseMethodDescriptor "(J)I").map (fun d => d.parameters.length) = some 1 := by decide +kernel
theorem jd_25 : (parseMethodDescriptor "(J)Z").map (fun d => d.parameters.length) = some 1 := by decide +kernel
theorem jd_26 : (parseMethodDescriptor "(JI)I").map (fun d => d.parameters.length) = some 2 := by decide +kernel
theorem jd_27 : (parseMethodDescriptor "(JII)V").map (fun d => d.parameters.length) = some 3 := by decide +kernel
theorem jd_28 : (parseMethodDescriptor "(LWhilePress$Code;)V").map (fun d => d.parameters.length) = some 1 := by decide +kernel
theorem jd_29 : (parseMethodDescriptor "(LWhilePress$Code;)Z").map (fun d => d.parameters.length) = some 1 := by decide +kernel
theorem jd_30 : (parseMethodDescriptor "(LWhilePress$Code;I)I").map (fun d => d.parameters.length) = some 2 := by decide +kernel
theorem jd_31 : (parseMethodDescriptor "(LWhilePress$Code;I)J").map (fun d => d.parameters.length) = some 2 := by decide +kernel
theorem jd_32 : (parseMethodDescriptor "(LWhilePress$Code;I)V").map (fun d => d.parameters.length) = some 2 := by decide +kernel
theorem jd_33 : (parseMethodDescriptor "(LWhilePress$Code;I)Z").map (fun d => d.parameters.length) = some 2 := by decide +kernel
theorem jd_34 : (parseMethodDescriptor "(LWhilePress$Code;II)J").map (fun d => d.parameters.length) = some 3 := by decide +kernel
theorem jd_35 : (parseMethodDescriptor "(LWhilePress$Code;III)I").map (fun d => d.parameters.length) = some 4 := by decide +kernel
theorem jd_36 : (parseMethodDescriptor "(LWhilePress$Code;I[I)V").map (fun d => d.parameters.length) = some 3 := by decide +kernel
theorem jd_37 : (parseMethodDescriptor "(LWhilePress$Code;LWhilePress$Code;)V").map (fun d => d.parameters.length) = some 2 := by decide +kernel
theorem jd_38 : (parseMethodDescriptor "(LWhilePress$Code;[II)I").map (fun d => d.parameters.length) = some 3 := by decide +kernel
theorem jd_39 : (parseMethodDescriptor "(LWhilePress$Knowledge;)V").map (fun d => d.parameters.length) = some 1 := by decide +kernel
theorem jd_40 : (parseMethodDescriptor "(LWhilePress$Script;I)I").map (fun d => d.parameters.length) = some 2 := by decide +kernel
theorem jd_41 : (parseMethodDescriptor "(LWhilePress$Script;I)V").map (fun d => d.parameters.length) = some 2 := by decide +kernel
theorem jd_42 : (parseMethodDescriptor "(LWhilePress$Script;II)V").map (fun d => d.parameters.length) = some 3 := by decide +kernel
theorem jd_43 : (parseMethodDescriptor "(LWhilePress$Script;LWhilePress$Code;)Z").map (fun d => d.parameters.length) = some 2 := by decide +kernel
theorem jd_44 : (parseMethodDescriptor "(Z)V").map (fun d => d.parameters.length) = some 1 := by decide +kernel
theorem jd_45 : (parseMethodDescriptor "(ZII)I").map (fun d => d.parameters.length) = some 3 := by decide +kernel
theorem jd_46 : (parseMethodDescriptor "(ZII)V").map (fun d => d.parameters.length) = some 3 := by decide +kernel
theorem jd_47 : (parseMethodDescriptor "(ZII)Z").map (fun d => d.parameters.length) = some 3 := by decide +kernel
theorem jd_48 : (parseMethodDescriptor "([I)V").map (fun d => d.parameters.length) = some 1 := by decide +kernel
theorem jd_49 : (parseMethodDescriptor "([II)V").map (fun d => d.parameters.length) = some 2 := by decide +kernel
theorem jd_50 : (parseMethodDescriptor "([III)I").map (fun d => d.parameters.length) = some 3 := by decide +kernel
theorem jd_51 : (parseMethodDescriptor "([IILWhilePress$Script;)V").map (fun d => d.parameters.length) = some 3 := by decide +kernel
theorem jd_52 : (parseMethodDescriptor "([JIIJ)V").map (fun d => d.parameters.length) = some 4 := by decide +kernel
theorem jd_53 : (parseMethodDescriptor "([JJ)V").map (fun d => d.parameters.length) = some 2 := by decide +kernel
theorem jq_0 : Cond.initialized "WhilePress" ∈ jw ∧ plainName "WhilePress" = true ∧ ("WhilePress" ≠ "java/lang/invoke/MethodHandle" ∧ "WhilePress" ≠ "java/lang/invoke/VarHandle") := ⟨jw_s1 1 (by decide +kernel) rfl, by decide +kernel, by decide +kernel, by decide +kernel⟩
theorem jq_1 : Cond.initialized "WhilePress$Code" ∈ jw ∧ plainName "WhilePress$Code" = true ∧ ("WhilePress$Code" ≠ "java/lang/invoke/MethodHandle" ∧ "WhilePress$Code" ≠ "java/lang/invoke/VarHandle") := ⟨jw_s1 7 (by decide +kernel) rfl, by decide +kernel, by decide +kernel, by decide +kernel⟩
theorem jq_2 : Cond.initialized "WhilePress$Holdings" ∈ jw ∧ plainName "WhilePress$Holdings" = true ∧ ("WhilePress$Holdings" ≠ "java/lang/invoke/MethodHandle" ∧ "WhilePress$Holdings" ≠ "java/lang/invoke/VarHandle") := ⟨jw_s1 11 (by decide +kernel) rfl, by decide +kernel, by decide +kernel, by decide +kernel⟩
theorem jq_3 : Cond.initialized "WhilePress$Improver" ∈ jw ∧ plainName "WhilePress$Improver" = true ∧ ("WhilePress$Improver" ≠ "java/lang/invoke/MethodHandle" ∧ "WhilePress$Improver" ≠ "java/lang/invoke/VarHandle") := ⟨jw_s1 10 (by decide +kernel) rfl, by decide +kernel, by decide +kernel, by decide +kernel⟩
theorem jq_4 : Cond.initialized "WhilePress$Knowledge" ∈ jw ∧ plainName "WhilePress$Knowledge" = true ∧ ("WhilePress$Knowledge" ≠ "java/lang/invoke/MethodHandle" ∧ "WhilePress$Knowledge" ≠ "java/lang/invoke/VarHandle") := ⟨jw_s1 9 (by decide +kernel) rfl, by decide +kernel, by decide +kernel, by decide +kernel⟩
theorem jq_5 : Cond.initialized "WhilePress$Lives" ∈ jw ∧ plainName "WhilePress$Lives" = true ∧ ("WhilePress$Lives" ≠ "java/lang/invoke/MethodHandle" ∧ "WhilePress$Lives" ≠ "java/lang/invoke/VarHandle") := ⟨jw_s1 8 (by decide +kernel) rfl, by decide +kernel, by decide +kernel, by decide +kernel⟩
theorem jq_6 : Cond.initialized "WhilePress$Maker" ∈ jw ∧ plainName "WhilePress$Maker" = true ∧ ("WhilePress$Maker" ≠ "java/lang/invoke/MethodHandle" ∧ "WhilePress$Maker" ≠ "java/lang/invoke/VarHandle") := ⟨jw_s1 6 (by decide +kernel) rfl, by decide +kernel, by decide +kernel, by decide +kernel⟩
theorem jq_7 : Cond.initialized "WhilePress$Names" ∈ jw ∧ plainName "WhilePress$Names" = true ∧ ("WhilePress$Names" ≠ "java/lang/invoke/MethodHandle" ∧ "WhilePress$Names" ≠ "java/lang/invoke/VarHandle") := ⟨jw_s1 4 (by decide +kernel) rfl, by decide +kernel, by decide +kernel, by decide +kernel⟩
theorem jq_8 : Cond.initialized "WhilePress$Reader" ∈ jw ∧ plainName "WhilePress$Reader" = true ∧ ("WhilePress$Reader" ≠ "java/lang/invoke/MethodHandle" ∧ "WhilePress$Reader" ≠ "java/lang/invoke/VarHandle") := ⟨jw_s1 2 (by decide +kernel) rfl, by decide +kernel, by decide +kernel, by decide +kernel⟩
theorem jq_9 : Cond.initialized "WhilePress$Runner" ∈ jw ∧ plainName "WhilePress$Runner" = true ∧ ("WhilePress$Runner" ≠ "java/lang/invoke/MethodHandle" ∧ "WhilePress$Runner" ≠ "java/lang/invoke/VarHandle") := ⟨jw_s1 12 (by decide +kernel) rfl, by decide +kernel, by decide +kernel, by decide +kernel⟩
theorem jq_10 : Cond.initialized "WhilePress$Script" ∈ jw ∧ plainName "WhilePress$Script" = true ∧ ("WhilePress$Script" ≠ "java/lang/invoke/MethodHandle" ∧ "WhilePress$Script" ≠ "java/lang/invoke/VarHandle") := ⟨jw_s1 5 (by decide +kernel) rfl, by decide +kernel, by decide +kernel, by decide +kernel⟩
theorem jq_11 : Cond.initialized "WhilePress$Words" ∈ jw ∧ plainName "WhilePress$Words" = true ∧ ("WhilePress$Words" ≠ "java/lang/invoke/MethodHandle" ∧ "WhilePress$Words" ≠ "java/lang/invoke/VarHandle") := ⟨jw_s1 3 (by decide +kernel) rfl, by decide +kernel, by decide +kernel, by decide +kernel⟩
theorem jq_12 : Cond.initialized "WhilePressModel" ∈ jw ∧ plainName "WhilePressModel" = true ∧ ("WhilePressModel" ≠ "java/lang/invoke/MethodHandle" ∧ "WhilePressModel" ≠ "java/lang/invoke/VarHandle") := ⟨jw_s1 13 (by decide +kernel) rfl, by decide +kernel, by decide +kernel, by decide +kernel⟩
theorem jq_13 : Cond.initialized "WhilePressLaw" ∈ jw ∧ plainName "WhilePressLaw" = true ∧ ("WhilePressLaw" ≠ "java/lang/invoke/MethodHandle" ∧ "WhilePressLaw" ≠ "java/lang/invoke/VarHandle") := ⟨jw_s1 0 (by decide +kernel) rfl, by decide +kernel, by decide +kernel, by decide +kernel⟩
theorem jq_14 : Cond.initialized "java/util/Arrays" ∈ jw ∧ plainName "java/util/Arrays" = true ∧ ("java/util/Arrays" ≠ "java/lang/invoke/MethodHandle" ∧ "java/util/Arrays" ≠ "java/lang/invoke/VarHandle") := ⟨jw_s1 21 (by decide +kernel) rfl, by decide +kernel, by decide +kernel, by decide +kernel⟩
theorem jq_16 : Cond.initialized "java/lang/Long" ∈ jw ∧ plainName "java/lang/Long" = true ∧ ("java/lang/Long" ≠ "java/lang/invoke/MethodHandle" ∧ "java/lang/Long" ≠ "java/lang/invoke/VarHandle") := ⟨jw_s1 32 (by decide +kernel) rfl, by decide +kernel, by decide +kernel, by decide +kernel⟩
theorem jq_17 : Cond.initialized "java/lang/Integer" ∈ jw ∧ plainName "java/lang/Integer" = true ∧ ("java/lang/Integer" ≠ "java/lang/invoke/MethodHandle" ∧ "java/lang/Integer" ≠ "java/lang/invoke/VarHandle") := ⟨jw_s1 29 (by decide +kernel) rfl, by decide +kernel, by decide +kernel, by decide +kernel⟩
def mP_init : jm_M := (⟨"WhilePress", "<init>", "()V"⟩, prog_1_method_1_code, 1, none, 0, 0, 1)
theorem mP_init_ok : jm_mok mP_init := ⟨jw_s1 37 rfl rfl, jq_0.1, jq_0.2.1, jq_0.2.2, jd_1, Nat.le_of_ble_eq_true rfl, fun _ => rfl, rfl⟩
def mRe_init : jm_M := (⟨"WhilePress$Reader", "<init>", "()V"⟩, prog_9_method_1_code, 1, none, 8, 0, 1)
theorem mRe_init_ok : jm_mok mRe_init := ⟨jw_s1 45 rfl rfl, jq_8.1, jq_8.2.1, jq_8.2.2, jd_1, Nat.le_of_ble_eq_true rfl, fun _ => rfl, rfl⟩
def mWo_init : jm_M := (⟨"WhilePress$Words", "<init>", "()V"⟩, prog_12_method_1_code, 1, none, 11, 0, 1)
theorem mWo_init_ok : jm_mok mWo_init := ⟨jw_s1 51 rfl rfl, jq_11.1, jq_11.2.1, jq_11.2.2, jd_1, Nat.le_of_ble_eq_true rfl, fun _ => rfl, rfl⟩
def mNa_init : jm_M := (⟨"WhilePress$Names", "<init>", "()V"⟩, prog_8_method_1_code, 1, none, 7, 0, 1)
theorem mNa_init_ok : jm_mok mNa_init := ⟨jw_s1 82 rfl rfl, jq_7.1, jq_7.2.1, jq_7.2.2, jd_1, Nat.le_of_ble_eq_true rfl, fun _ => rfl, rfl⟩
def mSc_init : jm_M := (⟨"WhilePress$Script", "<init>", "()V"⟩, prog_11_method_1_code, 1, none, 10, 0, 1)
theorem mSc_init_ok : jm_mok mSc_init := ⟨jw_s1 169 rfl rfl, jq_10.1, jq_10.2.1, jq_10.2.2, jd_1, Nat.le_of_ble_eq_true rfl, fun _ => rfl, rfl⟩
def mMa_init : jm_M := (⟨"WhilePress$Maker", "<init>", "()V"⟩, prog_7_method_1_code, 1, none, 6, 0, 1)
theorem mMa_init_ok : jm_mok mMa_init := ⟨jw_s2 12 rfl rfl, jq_6.1, jq_6.2.1, jq_6.2.2, jd_1, Nat.le_of_ble_eq_true rfl, fun _ => rfl, rfl⟩
def mCo_init : jm_M := (⟨"WhilePress$Code", "<init>", "()V"⟩, prog_2_method_1_code, 1, none, 1, 0, 1)
theorem mCo_init_ok : jm_mok mCo_init := ⟨jw_s2 58 rfl rfl, jq_1.1, jq_1.2.1, jq_1.2.2, jd_1, Nat.le_of_ble_eq_true rfl, fun _ => rfl, rfl⟩
def mLi_init : jm_M := (⟨"WhilePress$Lives", "<init>", "()V"⟩, prog_6_method_1_code, 1, none, 5, 0, 1)
theorem mLi_init_ok : jm_mok mLi_init := ⟨jw_s2 154 rfl rfl, jq_5.1, jq_5.2.1, jq_5.2.2, jd_1, Nat.le_of_ble_eq_true rfl, fun _ => rfl, rfl⟩
def mKn_init : jm_M := (⟨"WhilePress$Knowledge", "<init>", "()V"⟩, prog_5_method_1_code, 1, none, 4, 0, 1)
theorem mKn_init_ok : jm_mok mKn_init := ⟨jw_s2 184 rfl rfl, jq_4.1, jq_4.2.1, jq_4.2.2, jd_1, Nat.le_of_ble_eq_true rfl, fun _ => rfl, rfl⟩
def mIm_init : jm_M := (⟨"WhilePress$Improver", "<init>", "(LWhilePress$Knowledge;)V"⟩, prog_4_method_1_code, 2, none, 3, 1, 1)
theorem mIm_init_ok : jm_mok mIm_init := ⟨jw_s2 211 rfl rfl, jq_3.1, jq_3.2.1, jq_3.2.2, jd_39, Nat.le_of_ble_eq_true rfl, fun _ => rfl, rfl⟩
def mHo_init : jm_M := (⟨"WhilePress$Holdings", "<init>", "()V"⟩, prog_3_method_1_code, 1, none, 2, 0, 1)
theorem mHo_init_ok : jm_mok mHo_init := ⟨jw_s2 217 rfl rfl, jq_2.1, jq_2.2.1, jq_2.2.2, jd_1, Nat.le_of_ble_eq_true rfl, fun _ => rfl, rfl⟩
def mRu_init : jm_M := (⟨"WhilePress$Runner", "<init>", "()V"⟩, prog_10_method_1_code, 2, none, 9, 0, 1)
theorem mRu_init_ok : jm_mok mRu_init := ⟨jw_s3 31 rfl rfl, jq_9.1, jq_9.2.1, jq_9.2.2, jd_1, Nat.le_of_ble_eq_true rfl, fun _ => rfl, rfl⟩
def mP_read : jm_M := (⟨"WhilePress", "read", "()I"⟩, prog_1_method_3_code, 3, (some .int), 0, 0, 0)
theorem mP_read_ok : jm_mok mP_read := ⟨jw_s3 147 rfl rfl, jq_0.1, jq_0.2.1, jq_0.2.2, jd_0, Nat.le_of_ble_eq_true rfl, (fun h => by cases h), rfl⟩
def mRe_begin : jm_M := (⟨"WhilePress$Reader", "begin", "([IILWhilePress$Script;)V"⟩, prog_9_method_2_code, 4, none, 8, 3, 0)
theorem mRe_begin_ok : jm_mok mRe_begin := ⟨jw_s3 151 rfl rfl, jq_8.1, jq_8.2.1, jq_8.2.2, jd_51, Nat.le_of_ble_eq_true rfl, (fun h => by cases h), rfl⟩
def mWo_split : jm_M := (⟨"WhilePress$Words", "split", "([II)V"⟩, prog_12_method_2_code, 6, none, 11, 2, 0)
theorem mWo_split_ok : jm_mok mWo_split := ⟨jw_s3 155 rfl rfl, jq_11.1, jq_11.2.1, jq_11.2.2, jd_49, Nat.le_of_ble_eq_true rfl, (fun h => by cases h), rfl⟩
def mWo_isLetter : jm_M := (⟨"WhilePress$Words", "isLetter", "(I)Z"⟩, prog_12_method_3_code, 1, (some .boolean), 11, 1, 0)
theorem mWo_isLetter_ok : jm_mok mWo_isLetter := ⟨jw_s3 158 rfl rfl, jq_11.1, jq_11.2.1, jq_11.2.2, jd_5, Nat.le_of_ble_eq_true rfl, (fun h => by cases h), rfl⟩
def mWo_takeName : jm_M := (⟨"WhilePress$Words", "takeName", "(I)I"⟩, prog_12_method_7_code, 7, (some .int), 11, 1, 0)
theorem mWo_takeName_ok : jm_mok mWo_takeName := ⟨jw_s3 162 rfl rfl, jq_11.1, jq_11.2.1, jq_11.2.2, jd_3, Nat.le_of_ble_eq_true rfl, (fun h => by cases h), rfl⟩
def mWo_isFigure : jm_M := (⟨"WhilePress$Words", "isFigure", "(I)Z"⟩, prog_12_method_4_code, 1, (some .boolean), 11, 1, 0)
theorem mWo_isFigure_ok : jm_mok mWo_isFigure := ⟨jw_s3 165 rfl rfl, jq_11.1, jq_11.2.1, jq_11.2.2, jd_5, Nat.le_of_ble_eq_true rfl, (fun h => by cases h), rfl⟩
def mWo_stopAt : jm_M := (⟨"WhilePress$Words", "stopAt", "(I)I"⟩, prog_12_method_6_code, 2, (some .int), 11, 1, 0)
theorem mWo_stopAt_ok : jm_mok mWo_stopAt := ⟨jw_s3 169 rfl rfl, jq_11.1, jq_11.2.1, jq_11.2.2, jd_3, Nat.le_of_ble_eq_true rfl, (fun h => by cases h), rfl⟩
def mWo_add : jm_M := (⟨"WhilePress$Words", "add", "(IIJ)V"⟩, prog_12_method_5_code, 5, none, 11, 3, 0)
theorem mWo_add_ok : jm_mok mWo_add := ⟨jw_s3 173 rfl rfl, jq_11.1, jq_11.2.1, jq_11.2.2, jd_18, Nat.le_of_ble_eq_true rfl, (fun h => by cases h), rfl⟩
def mWo_takeNumber : jm_M := (⟨"WhilePress$Words", "takeNumber", "(I)I"⟩, prog_12_method_8_code, 5, (some .int), 11, 1, 0)
theorem mWo_takeNumber_ok : jm_mok mWo_takeNumber := ⟨jw_s3 179 rfl rfl, jq_11.1, jq_11.2.1, jq_11.2.2, jd_3, Nat.le_of_ble_eq_true rfl, (fun h => by cases h), rfl⟩
def mWo_takeSign : jm_M := (⟨"WhilePress$Words", "takeSign", "(I)I"⟩, prog_12_method_9_code, 4, (some .int), 11, 1, 0)
theorem mWo_takeSign_ok : jm_mok mWo_takeSign := ⟨jw_s3 185 rfl rfl, jq_11.1, jq_11.2.1, jq_11.2.2, jd_3, Nat.le_of_ble_eq_true rfl, (fun h => by cases h), rfl⟩
def mWo_longSign : jm_M := (⟨"WhilePress$Words", "longSign", "(II)I"⟩, prog_12_method_10_code, 2, (some .int), 11, 2, 0)
theorem mWo_longSign_ok : jm_mok mWo_longSign := ⟨jw_s3 188 rfl rfl, jq_11.1, jq_11.2.1, jq_11.2.2, jd_6, Nat.le_of_ble_eq_true rfl, (fun h => by cases h), rfl⟩
def mWo_shortSign : jm_M := (⟨"WhilePress$Words", "shortSign", "(I)I"⟩, prog_12_method_11_code, 1, (some .int), 11, 1, 0)
theorem mWo_shortSign_ok : jm_mok mWo_shortSign := ⟨jw_s3 191 rfl rfl, jq_11.1, jq_11.2.1, jq_11.2.2, jd_3, Nat.le_of_ble_eq_true rfl, (fun h => by cases h), rfl⟩
def mNa_forget : jm_M := (⟨"WhilePress$Names", "forget", "()V"⟩, prog_8_method_2_code, 1, none, 7, 0, 0)
theorem mNa_forget_ok : jm_mok mNa_forget := ⟨jw_s3 195 rfl rfl, jq_7.1, jq_7.2.1, jq_7.2.2, jd_1, Nat.le_of_ble_eq_true rfl, (fun h => by cases h), rfl⟩
def mSc_forget : jm_M := (⟨"WhilePress$Script", "forget", "()V"⟩, prog_11_method_2_code, 1, none, 10, 0, 0)
theorem mSc_forget_ok : jm_mok mSc_forget := ⟨jw_s3 199 rfl rfl, jq_10.1, jq_10.2.1, jq_10.2.2, jd_1, Nat.le_of_ble_eq_true rfl, (fun h => by cases h), rfl⟩
def mRe_isAtDecl : jm_M := (⟨"WhilePress$Reader", "isAtDecl", "()Z"⟩, prog_9_method_7_code, 2, (some .boolean), 8, 0, 0)
theorem mRe_isAtDecl_ok : jm_mok mRe_isAtDecl := ⟨jw_s3 203 rfl rfl, jq_8.1, jq_8.2.1, jq_8.2.2, jd_2, Nat.le_of_ble_eq_true rfl, (fun h => by cases h), rfl⟩
def mRe_kind : jm_M := (⟨"WhilePress$Reader", "kind", "()I"⟩, prog_9_method_4_code, 1, (some .int), 8, 0, 0)
theorem mRe_kind_ok : jm_mok mRe_kind := ⟨jw_s3 207 rfl rfl, jq_8.1, jq_8.2.1, jq_8.2.2, jd_0, Nat.le_of_ble_eq_true rfl, (fun h => by cases h), rfl⟩
def mRe_define : jm_M := (⟨"WhilePress$Reader", "define", "()V"⟩, prog_9_method_16_code, 4, none, 8, 0, 0)
theorem mRe_define_ok : jm_mok mRe_define := ⟨jw_s3 212 rfl rfl, jq_8.1, jq_8.2.1, jq_8.2.2, jd_1, Nat.le_of_ble_eq_true rfl, (fun h => by cases h), rfl⟩
def mRe_go : jm_M := (⟨"WhilePress$Reader", "go", "()V"⟩, prog_9_method_6_code, 1, none, 8, 0, 0)
theorem mRe_go_ok : jm_mok mRe_go := ⟨jw_s3 216 rfl rfl, jq_8.1, jq_8.2.1, jq_8.2.2, jd_1, Nat.le_of_ble_eq_true rfl, (fun h => by cases h), rfl⟩
def mRe_misfit : jm_M := (⟨"WhilePress$Reader", "misfit", "()V"⟩, prog_9_method_9_code, 1, none, 8, 0, 0)
theorem mRe_misfit_ok : jm_mok mRe_misfit := ⟨jw_s3 220 rfl rfl, jq_8.1, jq_8.2.1, jq_8.2.2, jd_1, Nat.le_of_ble_eq_true rfl, (fun h => by cases h), rfl⟩
def mNa_isInBlock : jm_M := (⟨"WhilePress$Names", "isInBlock", "(J)Z"⟩, prog_8_method_4_code, 4, (some .boolean), 7, 1, 0)
theorem mNa_isInBlock_ok : jm_mok mNa_isInBlock := ⟨jw_s3 224 rfl rfl, jq_7.1, jq_7.2.1, jq_7.2.2, jd_25, Nat.le_of_ble_eq_true rfl, (fun h => by cases h), rfl⟩
def mRe_soften : jm_M := (⟨"WhilePress$Reader", "soften", "(II)V"⟩, prog_9_method_12_code, 4, none, 8, 2, 0)
theorem mRe_soften_ok : jm_mok mRe_soften := ⟨jw_s3 228 rfl rfl, jq_8.1, jq_8.2.1, jq_8.2.2, jd_8, Nat.le_of_ble_eq_true rfl, (fun h => by cases h), rfl⟩
def mRe_tellList : jm_M := (⟨"WhilePress$Reader", "tellList", "(I)V"⟩, prog_9_method_17_code, 4, none, 8, 1, 0)
theorem mRe_tellList_ok : jm_mok mRe_tellList := ⟨jw_s3 232 rfl rfl, jq_8.1, jq_8.2.1, jq_8.2.2, jd_4, Nat.le_of_ble_eq_true rfl, (fun h => by cases h), rfl⟩
def mRe_openRound : jm_M := (⟨"WhilePress$Reader", "openRound", "()V"⟩, prog_9_method_22_code, 1, none, 8, 0, 0)
theorem mRe_openRound_ok : jm_mok mRe_openRound := ⟨jw_s3 236 rfl rfl, jq_8.1, jq_8.2.1, jq_8.2.2, jd_1, Nat.le_of_ble_eq_true rfl, (fun h => by cases h), rfl⟩
def mRe_openOne : jm_M := (⟨"WhilePress$Reader", "openOne", "()V"⟩, prog_9_method_11_code, 1, none, 8, 0, 0)
theorem mRe_openOne_ok : jm_mok mRe_openOne := ⟨jw_s4 0 rfl rfl, jq_8.1, jq_8.2.1, jq_8.2.2, jd_1, Nat.le_of_ble_eq_true rfl, (fun h => by cases h), rfl⟩
def mRe_expect : jm_M := (⟨"WhilePress$Reader", "expect", "(I)V"⟩, prog_9_method_10_code, 2, none, 8, 1, 0)
theorem mRe_expect_ok : jm_mok mRe_expect := ⟨jw_s4 4 rfl rfl, jq_8.1, jq_8.2.1, jq_8.2.2, jd_4, Nat.le_of_ble_eq_true rfl, (fun h => by cases h), rfl⟩
def mSc_takeLocal : jm_M := (⟨"WhilePress$Script", "takeLocal", "()I"⟩, prog_11_method_7_code, 1, (some .int), 10, 0, 0)
theorem mSc_takeLocal_ok : jm_mok mSc_takeLocal := ⟨jw_s4 8 rfl rfl, jq_10.1, jq_10.2.1, jq_10.2.2, jd_0, Nat.le_of_ble_eq_true rfl, (fun h => by cases h), rfl⟩
def mRe_tellName : jm_M := (⟨"WhilePress$Reader", "tellName", "(II)V"⟩, prog_9_method_13_code, 5, none, 8, 2, 0)
theorem mRe_tellName_ok : jm_mok mRe_tellName := ⟨jw_s4 12 rfl rfl, jq_8.1, jq_8.2.1, jq_8.2.2, jd_8, Nat.le_of_ble_eq_true rfl, (fun h => by cases h), rfl⟩
def mNa_tell : jm_M := (⟨"WhilePress$Names", "tell", "(JII)V"⟩, prog_8_method_5_code, 5, none, 7, 3, 0)
theorem mNa_tell_ok : jm_mok mNa_tell := ⟨jw_s4 16 rfl rfl, jq_7.1, jq_7.2.1, jq_7.2.2, jd_27, Nat.le_of_ble_eq_true rfl, (fun h => by cases h), rfl⟩
def mRe_closeRound : jm_M := (⟨"WhilePress$Reader", "closeRound", "()V"⟩, prog_9_method_23_code, 1, none, 8, 0, 0)
theorem mRe_closeRound_ok : jm_mok mRe_closeRound := ⟨jw_s4 20 rfl rfl, jq_8.1, jq_8.2.1, jq_8.2.2, jd_1, Nat.le_of_ble_eq_true rfl, (fun h => by cases h), rfl⟩
def mRe_takeItems : jm_M := (⟨"WhilePress$Reader", "takeItems", "()V"⟩, prog_9_method_21_code, 2, none, 8, 0, 0)
theorem mRe_takeItems_ok : jm_mok mRe_takeItems := ⟨jw_s4 24 rfl rfl, jq_8.1, jq_8.2.1, jq_8.2.2, jd_1, Nat.le_of_ble_eq_true rfl, (fun h => by cases h), rfl⟩
def mRe_statement : jm_M := (⟨"WhilePress$Reader", "statement", "(Z)V"⟩, prog_9_method_19_code, 2, none, 8, 1, 0)
theorem mRe_statement_ok : jm_mok mRe_statement := ⟨jw_s4 28 rfl rfl, jq_8.1, jq_8.2.1, jq_8.2.2, jd_44, Nat.le_of_ble_eq_true rfl, (fun h => by cases h), rfl⟩
def mRe_takeBlock : jm_M := (⟨"WhilePress$Reader", "takeBlock", "()V"⟩, prog_9_method_20_code, 3, none, 8, 0, 0)
theorem mRe_takeBlock_ok : jm_mok mRe_takeBlock := ⟨jw_s4 32 rfl rfl, jq_8.1, jq_8.2.1, jq_8.2.2, jd_1, Nat.le_of_ble_eq_true rfl, (fun h => by cases h), rfl⟩
def mRe_tellInts : jm_M := (⟨"WhilePress$Reader", "tellInts", "(Z)V"⟩, prog_9_method_14_code, 5, none, 8, 1, 0)
theorem mRe_tellInts_ok : jm_mok mRe_tellInts := ⟨jw_s4 36 rfl rfl, jq_8.1, jq_8.2.1, jq_8.2.2, jd_44, Nat.le_of_ble_eq_true rfl, (fun h => by cases h), rfl⟩
def mSc_takeGlobal : jm_M := (⟨"WhilePress$Script", "takeGlobal", "()I"⟩, prog_11_method_6_code, 1, (some .int), 10, 0, 0)
theorem mSc_takeGlobal_ok : jm_mok mSc_takeGlobal := ⟨jw_s4 40 rfl rfl, jq_10.1, jq_10.2.1, jq_10.2.2, jd_0, Nat.le_of_ble_eq_true rfl, (fun h => by cases h), rfl⟩
def mSc_add : jm_M := (⟨"WhilePress$Script", "add", "(II)I"⟩, prog_11_method_3_code, 3, (some .int), 10, 2, 0)
theorem mSc_add_ok : jm_mok mSc_add := ⟨jw_s4 44 rfl rfl, jq_10.1, jq_10.2.1, jq_10.2.2, jd_6, Nat.le_of_ble_eq_true rfl, (fun h => by cases h), rfl⟩
def mRe_takeIf : jm_M := (⟨"WhilePress$Reader", "takeIf", "()V"⟩, prog_9_method_24_code, 3, none, 8, 0, 0)
theorem mRe_takeIf_ok : jm_mok mRe_takeIf := ⟨jw_s4 48 rfl rfl, jq_8.1, jq_8.2.1, jq_8.2.2, jd_1, Nat.le_of_ble_eq_true rfl, (fun h => by cases h), rfl⟩
def mRe_takeExpr : jm_M := (⟨"WhilePress$Reader", "takeExpr", "(Z)V"⟩, prog_9_method_32_code, 7, none, 8, 1, 0)
theorem mRe_takeExpr_ok : jm_mok mRe_takeExpr := ⟨jw_s4 52 rfl rfl, jq_8.1, jq_8.2.1, jq_8.2.2, jd_44, Nat.le_of_ble_eq_true rfl, (fun h => by cases h), rfl⟩
def mRe_pend : jm_M := (⟨"WhilePress$Reader", "pend", "(III)V"⟩, prog_9_method_34_code, 4, none, 8, 3, 0)
theorem mRe_pend_ok : jm_mok mRe_pend := ⟨jw_s4 56 rfl rfl, jq_8.1, jq_8.2.1, jq_8.2.2, jd_11, Nat.le_of_ble_eq_true rfl, (fun h => by cases h), rfl⟩
def mRe_takeOperand : jm_M := (⟨"WhilePress$Reader", "takeOperand", "()Z"⟩, prog_9_method_35_code, 7, (some .boolean), 8, 0, 0)
theorem mRe_takeOperand_ok : jm_mok mRe_takeOperand := ⟨jw_s4 60 rfl rfl, jq_8.1, jq_8.2.1, jq_8.2.2, jd_2, Nat.le_of_ble_eq_true rfl, (fun h => by cases h), rfl⟩
def mRe_nextKind : jm_M := (⟨"WhilePress$Reader", "nextKind", "()I"⟩, prog_9_method_5_code, 1, (some .int), 8, 0, 0)
theorem mRe_nextKind_ok : jm_mok mRe_nextKind := ⟨jw_s4 64 rfl rfl, jq_8.1, jq_8.2.1, jq_8.2.2, jd_0, Nat.le_of_ble_eq_true rfl, (fun h => by cases h), rfl⟩
def mNa_find : jm_M := (⟨"WhilePress$Names", "find", "(JI)I"⟩, prog_8_method_3_code, 5, (some .int), 7, 2, 0)
theorem mNa_find_ok : jm_mok mNa_find := ⟨jw_s4 68 rfl rfl, jq_7.1, jq_7.2.1, jq_7.2.2, jd_26, Nat.le_of_ble_eq_true rfl, (fun h => by cases h), rfl⟩
def mRe_isBinary : jm_M := (⟨"WhilePress$Reader", "isBinary", "(I)Z"⟩, prog_9_method_33_code, 1, (some .boolean), 8, 1, 0)
theorem mRe_isBinary_ok : jm_mok mRe_isBinary := ⟨jw_s4 74 rfl rfl, jq_8.1, jq_8.2.1, jq_8.2.2, jd_5, Nat.le_of_ble_eq_true rfl, (fun h => by cases h), rfl⟩
def mRe_settle : jm_M := (⟨"WhilePress$Reader", "settle", "(I)V"⟩, prog_9_method_36_code, 4, none, 8, 1, 0)
theorem mRe_settle_ok : jm_mok mRe_settle := ⟨jw_s4 80 rfl rfl, jq_8.1, jq_8.2.1, jq_8.2.2, jd_4, Nat.le_of_ble_eq_true rfl, (fun h => by cases h), rfl⟩
def mRe_takeBinary : jm_M := (⟨"WhilePress$Reader", "takeBinary", "(I)V"⟩, prog_9_method_37_code, 3, none, 8, 1, 0)
theorem mRe_takeBinary_ok : jm_mok mRe_takeBinary := ⟨jw_s4 84 rfl rfl, jq_8.1, jq_8.2.1, jq_8.2.2, jd_4, Nat.le_of_ble_eq_true rfl, (fun h => by cases h), rfl⟩
def mSc_wrap : jm_M := (⟨"WhilePress$Script", "wrap", "(II)V"⟩, prog_11_method_4_code, 3, none, 10, 2, 0)
theorem mSc_wrap_ok : jm_mok mSc_wrap := ⟨jw_s4 88 rfl rfl, jq_10.1, jq_10.2.1, jq_10.2.2, jd_8, Nat.le_of_ble_eq_true rfl, (fun h => by cases h), rfl⟩
def mRe_takeClosing : jm_M := (⟨"WhilePress$Reader", "takeClosing", "(I)Z"⟩, prog_9_method_38_code, 5, (some .boolean), 8, 1, 0)
theorem mRe_takeClosing_ok : jm_mok mRe_takeClosing := ⟨jw_s4 92 rfl rfl, jq_8.1, jq_8.2.1, jq_8.2.2, jd_5, Nat.le_of_ble_eq_true rfl, (fun h => by cases h), rfl⟩
def mRe_takeWhile : jm_M := (⟨"WhilePress$Reader", "takeWhile", "()V"⟩, prog_9_method_25_code, 6, none, 8, 0, 0)
theorem mRe_takeWhile_ok : jm_mok mRe_takeWhile := ⟨jw_s4 96 rfl rfl, jq_8.1, jq_8.2.1, jq_8.2.2, jd_1, Nat.le_of_ble_eq_true rfl, (fun h => by cases h), rfl⟩
def mSc_aim : jm_M := (⟨"WhilePress$Script", "aim", "(II)V"⟩, prog_11_method_5_code, 6, none, 10, 2, 0)
theorem mSc_aim_ok : jm_mok mSc_aim := ⟨jw_s4 100 rfl rfl, jq_10.1, jq_10.2.1, jq_10.2.2, jd_8, Nat.le_of_ble_eq_true rfl, (fun h => by cases h), rfl⟩
def mRe_takeDo : jm_M := (⟨"WhilePress$Reader", "takeDo", "()V"⟩, prog_9_method_26_code, 6, none, 8, 0, 0)
theorem mRe_takeDo_ok : jm_mok mRe_takeDo := ⟨jw_s4 104 rfl rfl, jq_8.1, jq_8.2.1, jq_8.2.2, jd_1, Nat.le_of_ble_eq_true rfl, (fun h => by cases h), rfl⟩
def mRe_takeNamed : jm_M := (⟨"WhilePress$Reader", "takeNamed", "(I)V"⟩, prog_9_method_31_code, 3, none, 8, 1, 0)
theorem mRe_takeNamed_ok : jm_mok mRe_takeNamed := ⟨jw_s4 108 rfl rfl, jq_8.1, jq_8.2.1, jq_8.2.2, jd_4, Nat.le_of_ble_eq_true rfl, (fun h => by cases h), rfl⟩
def mRe_wanted : jm_M := (⟨"WhilePress$Reader", "wanted", "(II)I"⟩, prog_9_method_30_code, 4, (some .int), 8, 2, 0)
theorem mRe_wanted_ok : jm_mok mRe_wanted := ⟨jw_s4 112 rfl rfl, jq_8.1, jq_8.2.1, jq_8.2.2, jd_6, Nat.le_of_ble_eq_true rfl, (fun h => by cases h), rfl⟩
def mRe_takeSimple : jm_M := (⟨"WhilePress$Reader", "takeSimple", "()V"⟩, prog_9_method_27_code, 1, none, 8, 0, 0)
theorem mRe_takeSimple_ok : jm_mok mRe_takeSimple := ⟨jw_s4 116 rfl rfl, jq_8.1, jq_8.2.1, jq_8.2.2, jd_1, Nat.le_of_ble_eq_true rfl, (fun h => by cases h), rfl⟩
def mRe_takeLeave : jm_M := (⟨"WhilePress$Reader", "takeLeave", "(I)I"⟩, prog_9_method_28_code, 2, (some .int), 8, 1, 0)
theorem mRe_takeLeave_ok : jm_mok mRe_takeLeave := ⟨jw_s4 120 rfl rfl, jq_8.1, jq_8.2.1, jq_8.2.2, jd_3, Nat.le_of_ble_eq_true rfl, (fun h => by cases h), rfl⟩
def mRe_takeRead : jm_M := (⟨"WhilePress$Reader", "takeRead", "()V"⟩, prog_9_method_29_code, 2, none, 8, 0, 0)
theorem mRe_takeRead_ok : jm_mok mRe_takeRead := ⟨jw_s4 124 rfl rfl, jq_8.1, jq_8.2.1, jq_8.2.2, jd_1, Nat.le_of_ble_eq_true rfl, (fun h => by cases h), rfl⟩
def mRe_tellRow : jm_M := (⟨"WhilePress$Reader", "tellRow", "()V"⟩, prog_9_method_15_code, 3, none, 8, 0, 0)
theorem mRe_tellRow_ok : jm_mok mRe_tellRow := ⟨jw_s4 128 rfl rfl, jq_8.1, jq_8.2.1, jq_8.2.2, jd_1, Nat.le_of_ble_eq_true rfl, (fun h => by cases h), rfl⟩
def mRe_beginStatements : jm_M := (⟨"WhilePress$Reader", "beginStatements", "()V"⟩, prog_9_method_18_code, 1, none, 8, 0, 0)
theorem mRe_beginStatements_ok : jm_mok mRe_beginStatements := ⟨jw_s4 137 rfl rfl, jq_8.1, jq_8.2.1, jq_8.2.2, jd_1, Nat.le_of_ble_eq_true rfl, (fun h => by cases h), rfl⟩
def mRe_hasMore : jm_M := (⟨"WhilePress$Reader", "hasMore", "()Z"⟩, prog_9_method_8_code, 1, (some .boolean), 8, 0, 0)
theorem mRe_hasMore_ok : jm_mok mRe_hasMore := ⟨jw_s4 141 rfl rfl, jq_8.1, jq_8.2.1, jq_8.2.2, jd_2, Nat.le_of_ble_eq_true rfl, (fun h => by cases h), rfl⟩
def mRe_finish : jm_M := (⟨"WhilePress$Reader", "finish", "()I"⟩, prog_9_method_3_code, 1, (some .int), 8, 0, 0)
theorem mRe_finish_ok : jm_mok mRe_finish := ⟨jw_s4 146 rfl rfl, jq_8.1, jq_8.2.1, jq_8.2.2, jd_0, Nat.le_of_ble_eq_true rfl, (fun h => by cases h), rfl⟩
def mP_place : jm_M := (⟨"WhilePress", "place", "()I"⟩, prog_1_method_4_code, 1, (some .int), 0, 0, 0)
theorem mP_place_ok : jm_mok mP_place := ⟨jw_s4 150 rfl rfl, jq_0.1, jq_0.2.1, jq_0.2.2, jd_0, Nat.le_of_ble_eq_true rfl, (fun h => by cases h), rfl⟩
def mP_clear : jm_M := (⟨"WhilePress", "clear", "()I"⟩, prog_1_method_14_code, 2, (some .int), 0, 0, 0)
theorem mP_clear_ok : jm_mok mP_clear := ⟨jw_s4 154 rfl rfl, jq_0.1, jq_0.2.1, jq_0.2.2, jd_0, Nat.le_of_ble_eq_true rfl, (fun h => by cases h), rfl⟩
def mP_feed : jm_M := (⟨"WhilePress", "feed", "(JI)I"⟩, prog_1_method_2_code, 6, (some .int), 0, 2, 0)
theorem mP_feed_ok : jm_mok mP_feed := ⟨jw_s4 163 rfl rfl, jq_0.1, jq_0.2.1, jq_0.2.2, jd_26, Nat.le_of_ble_eq_true rfl, (fun h => by cases h), rfl⟩
def mP_lower : jm_M := (⟨"WhilePress", "lower", "()I"⟩, prog_1_method_5_code, 1, (some .int), 0, 0, 0)
theorem mP_lower_ok : jm_mok mP_lower := ⟨jw_s5 16 rfl rfl, jq_0.1, jq_0.2.1, jq_0.2.2, jd_0, Nat.le_of_ble_eq_true rfl, (fun h => by cases h), rfl⟩
def mMa_make : jm_M := (⟨"WhilePress$Maker", "make", "(LWhilePress$Script;LWhilePress$Code;)Z"⟩, prog_7_method_2_code, 6, (some .boolean), 6, 2, 0)
theorem mMa_make_ok : jm_mok mMa_make := ⟨jw_s5 21 rfl rfl, jq_6.1, jq_6.2.1, jq_6.2.2, jd_43, Nat.le_of_ble_eq_true rfl, (fun h => by cases h), rfl⟩
def mCo_begin : jm_M := (⟨"WhilePress$Code", "begin", "([I)V"⟩, prog_2_method_2_code, 2, none, 1, 1, 0)
theorem mCo_begin_ok : jm_mok mCo_begin := ⟨jw_s5 25 rfl rfl, jq_1.1, jq_1.2.1, jq_1.2.2, jd_48, Nat.le_of_ble_eq_true rfl, (fun h => by cases h), rfl⟩
def mArr_fill : jm_M := (⟨"java/util/Arrays", "fill", "([II)V"⟩, prog_32_method_103_code, 4, none, 14, 2, 0)
theorem mArr_fill_ok : jm_mok mArr_fill := ⟨jw_s5 31 rfl rfl, jq_14.1, jq_14.2.1, jq_14.2.2, jd_49, Nat.le_of_ble_eq_true rfl, (fun h => by cases h), rfl⟩
def mCo_takeRegister : jm_M := (⟨"WhilePress$Code", "takeRegister", "()I"⟩, prog_2_method_4_code, 1, (some .int), 1, 0, 0)
theorem mCo_takeRegister_ok : jm_mok mCo_takeRegister := ⟨jw_s5 35 rfl rfl, jq_1.1, jq_1.2.1, jq_1.2.2, jd_0, Nat.le_of_ble_eq_true rfl, (fun h => by cases h), rfl⟩
def mCo_fits : jm_M := (⟨"WhilePress$Code", "fits", "()Z"⟩, prog_2_method_7_code, 1, (some .boolean), 1, 0, 0)
theorem mCo_fits_ok : jm_mok mCo_fits := ⟨jw_s5 39 rfl rfl, jq_1.1, jq_1.2.1, jq_1.2.2, jd_2, Nat.le_of_ble_eq_true rfl, (fun h => by cases h), rfl⟩
def mMa_arrive : jm_M := (⟨"WhilePress$Maker", "arrive", "()V"⟩, prog_7_method_3_code, 4, none, 6, 0, 0)
theorem mMa_arrive_ok : jm_mok mMa_arrive := ⟨jw_s5 44 rfl rfl, jq_6.1, jq_6.2.1, jq_6.2.2, jd_1, Nat.le_of_ble_eq_true rfl, (fun h => by cases h), rfl⟩
def mCo_add : jm_M := (⟨"WhilePress$Code", "add", "(IIIII)I"⟩, prog_2_method_5_code, 6, (some .int), 1, 5, 0)
theorem mCo_add_ok : jm_mok mCo_add := ⟨jw_s5 48 rfl rfl, jq_1.1, jq_1.2.1, jq_1.2.2, jd_14, Nat.le_of_ble_eq_true rfl, (fun h => by cases h), rfl⟩
def mCo_put : jm_M := (⟨"WhilePress$Code", "put", "(IIIII)V"⟩, prog_2_method_6_code, 6, none, 1, 5, 0)
theorem mCo_put_ok : jm_mok mCo_put := ⟨jw_s5 52 rfl rfl, jq_1.1, jq_1.2.1, jq_1.2.2, jd_15, Nat.le_of_ble_eq_true rfl, (fun h => by cases h), rfl⟩
def mMa_takeStep : jm_M := (⟨"WhilePress$Maker", "takeStep", "(II)V"⟩, prog_7_method_4_code, 3, none, 6, 2, 0)
theorem mMa_takeStep_ok : jm_mok mMa_takeStep := ⟨jw_s5 56 rfl rfl, jq_6.1, jq_6.2.1, jq_6.2.2, jd_8, Nat.le_of_ble_eq_true rfl, (fun h => by cases h), rfl⟩
def mMa_takeWork : jm_M := (⟨"WhilePress$Maker", "takeWork", "(II)V"⟩, prog_7_method_10_code, 10, none, 6, 2, 0)
theorem mMa_takeWork_ok : jm_mok mMa_takeWork := ⟨jw_s5 60 rfl rfl, jq_6.1, jq_6.2.1, jq_6.2.2, jd_8, Nat.le_of_ble_eq_true rfl, (fun h => by cases h), rfl⟩
def mMa_pop : jm_M := (⟨"WhilePress$Maker", "pop", "()I"⟩, prog_7_method_6_code, 1, (some .int), 6, 0, 0)
theorem mMa_pop_ok : jm_mok mMa_pop := ⟨jw_s5 64 rfl rfl, jq_6.1, jq_6.2.1, jq_6.2.2, jd_0, Nat.le_of_ble_eq_true rfl, (fun h => by cases h), rfl⟩
def mMa_push : jm_M := (⟨"WhilePress$Maker", "push", "(II)V"⟩, prog_7_method_5_code, 3, none, 6, 2, 0)
theorem mMa_push_ok : jm_mok mMa_push := ⟨jw_s5 68 rfl rfl, jq_6.1, jq_6.2.1, jq_6.2.2, jd_8, Nat.le_of_ble_eq_true rfl, (fun h => by cases h), rfl⟩
def mMa_pushCopy : jm_M := (⟨"WhilePress$Maker", "pushCopy", "(I)V"⟩, prog_7_method_7_code, 3, none, 6, 1, 0)
theorem mMa_pushCopy_ok : jm_mok mMa_pushCopy := ⟨jw_s5 72 rfl rfl, jq_6.1, jq_6.2.1, jq_6.2.2, jd_4, Nat.le_of_ble_eq_true rfl, (fun h => by cases h), rfl⟩
def mMa_lay : jm_M := (⟨"WhilePress$Maker", "lay", "(I)V"⟩, prog_7_method_9_code, 3, none, 6, 1, 0)
theorem mMa_lay_ok : jm_mok mMa_lay := ⟨jw_s5 76 rfl rfl, jq_6.1, jq_6.2.1, jq_6.2.2, jd_4, Nat.le_of_ble_eq_true rfl, (fun h => by cases h), rfl⟩
def mMa_tellInt : jm_M := (⟨"WhilePress$Maker", "tellInt", "(I)V"⟩, prog_7_method_8_code, 2, none, 6, 1, 0)
theorem mMa_tellInt_ok : jm_mok mMa_tellInt := ⟨jw_s5 80 rfl rfl, jq_6.1, jq_6.2.1, jq_6.2.2, jd_4, Nat.le_of_ble_eq_true rfl, (fun h => by cases h), rfl⟩
def mMa_call : jm_M := (⟨"WhilePress$Maker", "call", "(I)V"⟩, prog_7_method_15_code, 7, none, 6, 1, 0)
theorem mMa_call_ok : jm_mok mMa_call := ⟨jw_s5 84 rfl rfl, jq_6.1, jq_6.2.1, jq_6.2.2, jd_4, Nat.le_of_ble_eq_true rfl, (fun h => by cases h), rfl⟩
def mMa_giveBack : jm_M := (⟨"WhilePress$Maker", "giveBack", "(I)V"⟩, prog_7_method_16_code, 2, none, 6, 1, 0)
theorem mMa_giveBack_ok : jm_mok mMa_giveBack := ⟨jw_s5 88 rfl rfl, jq_6.1, jq_6.2.1, jq_6.2.2, jd_4, Nat.le_of_ble_eq_true rfl, (fun h => by cases h), rfl⟩
def mMa_leap : jm_M := (⟨"WhilePress$Maker", "leap", "(IIII)V"⟩, prog_7_method_13_code, 7, none, 6, 4, 0)
theorem mMa_leap_ok : jm_mok mMa_leap := ⟨jw_s5 92 rfl rfl, jq_6.1, jq_6.2.1, jq_6.2.2, jd_12, Nat.le_of_ble_eq_true rfl, (fun h => by cases h), rfl⟩
def mMa_endCall : jm_M := (⟨"WhilePress$Maker", "endCall", "()V"⟩, prog_7_method_17_code, 1, none, 6, 0, 0)
theorem mMa_endCall_ok : jm_mok mMa_endCall := ⟨jw_s5 96 rfl rfl, jq_6.1, jq_6.2.1, jq_6.2.2, jd_1, Nat.le_of_ble_eq_true rfl, (fun h => by cases h), rfl⟩
def mMa_test : jm_M := (⟨"WhilePress$Maker", "test", "(II)V"⟩, prog_7_method_12_code, 4, none, 6, 2, 0)
theorem mMa_test_ok : jm_mok mMa_test := ⟨jw_s5 100 rfl rfl, jq_6.1, jq_6.2.1, jq_6.2.2, jd_8, Nat.le_of_ble_eq_true rfl, (fun h => by cases h), rfl⟩
def mMa_endTruth : jm_M := (⟨"WhilePress$Maker", "endTruth", "(I)V"⟩, prog_7_method_14_code, 3, none, 6, 1, 0)
theorem mMa_endTruth_ok : jm_mok mMa_endTruth := ⟨jw_s5 104 rfl rfl, jq_6.1, jq_6.2.1, jq_6.2.2, jd_4, Nat.le_of_ble_eq_true rfl, (fun h => by cases h), rfl⟩
def mMa_show : jm_M := (⟨"WhilePress$Maker", "show", "()V"⟩, prog_7_method_11_code, 2, none, 6, 0, 0)
theorem mMa_show_ok : jm_mok mMa_show := ⟨jw_s5 108 rfl rfl, jq_6.1, jq_6.2.1, jq_6.2.2, jd_1, Nat.le_of_ble_eq_true rfl, (fun h => by cases h), rfl⟩
def mLi_find : jm_M := (⟨"WhilePress$Lives", "find", "(LWhilePress$Code;)V"⟩, prog_6_method_2_code, 5, none, 5, 1, 0)
theorem mLi_find_ok : jm_mok mLi_find := ⟨jw_s5 112 rfl rfl, jq_5.1, jq_5.2.1, jq_5.2.2, jd_28, Nat.le_of_ble_eq_true rfl, (fun h => by cases h), rfl⟩
def mArr_fill2 : jm_M := (⟨"java/util/Arrays", "fill", "([JJ)V"⟩, prog_32_method_101_code, 5, none, 14, 2, 0)
theorem mArr_fill2_ok : jm_mok mArr_fill2 := ⟨jw_s5 115 rfl rfl, jq_14.1, jq_14.2.1, jq_14.2.2, jd_53, Nat.le_of_ble_eq_true rfl, (fun h => by cases h), rfl⟩
def mLi_look : jm_M := (⟨"WhilePress$Lives", "look", "(LWhilePress$Code;I)Z"⟩, prog_6_method_3_code, 8, (some .boolean), 5, 2, 0)
theorem mLi_look_ok : jm_mok mLi_look := ⟨jw_s5 120 rfl rfl, jq_5.1, jq_5.2.1, jq_5.2.2, jd_33, Nat.le_of_ble_eq_true rfl, (fun h => by cases h), rfl⟩
def mCo_goesOn : jm_M := (⟨"WhilePress$Code", "goesOn", "(I)Z"⟩, prog_2_method_13_code, 2, (some .boolean), 1, 1, 0)
theorem mCo_goesOn_ok : jm_mok mCo_goesOn := ⟨jw_s5 124 rfl rfl, jq_1.1, jq_1.2.1, jq_1.2.2, jd_5, Nat.le_of_ble_eq_true rfl, (fun h => by cases h), rfl⟩
def mLi_join : jm_M := (⟨"WhilePress$Lives", "join", "(II)V"⟩, prog_6_method_4_code, 4, none, 5, 2, 0)
theorem mLi_join_ok : jm_mok mLi_join := ⟨jw_s5 128 rfl rfl, jq_5.1, jq_5.2.1, jq_5.2.2, jd_8, Nat.le_of_ble_eq_true rfl, (fun h => by cases h), rfl⟩
def mCo_leapsInside : jm_M := (⟨"WhilePress$Code", "leapsInside", "(I)Z"⟩, prog_2_method_14_code, 2, (some .boolean), 1, 1, 0)
theorem mCo_leapsInside_ok : jm_mok mCo_leapsInside := ⟨jw_s5 132 rfl rfl, jq_1.1, jq_1.2.1, jq_1.2.2, jd_5, Nat.le_of_ble_eq_true rfl, (fun h => by cases h), rfl⟩
def mCo_leaps : jm_M := (⟨"WhilePress$Code", "leaps", "(I)Z"⟩, prog_2_method_12_code, 2, (some .boolean), 1, 1, 0)
theorem mCo_leaps_ok : jm_mok mCo_leaps := ⟨jw_s5 136 rfl rfl, jq_1.1, jq_1.2.1, jq_1.2.2, jd_5, Nat.le_of_ble_eq_true rfl, (fun h => by cases h), rfl⟩
def mCo_defines : jm_M := (⟨"WhilePress$Code", "defines", "(I)Z"⟩, prog_2_method_8_code, 2, (some .boolean), 1, 1, 0)
theorem mCo_defines_ok : jm_mok mCo_defines := ⟨jw_s5 140 rfl rfl, jq_1.1, jq_1.2.1, jq_1.2.2, jd_5, Nat.le_of_ble_eq_true rfl, (fun h => by cases h), rfl⟩
def mCo_usesA : jm_M := (⟨"WhilePress$Code", "usesA", "(I)Z"⟩, prog_2_method_9_code, 4, (some .boolean), 1, 1, 0)
theorem mCo_usesA_ok : jm_mok mCo_usesA := ⟨jw_s5 145 rfl rfl, jq_1.1, jq_1.2.1, jq_1.2.2, jd_5, Nat.le_of_ble_eq_true rfl, (fun h => by cases h), rfl⟩
def mCo_usesB : jm_M := (⟨"WhilePress$Code", "usesB", "(I)Z"⟩, prog_2_method_10_code, 3, (some .boolean), 1, 1, 0)
theorem mCo_usesB_ok : jm_mok mCo_usesB := ⟨jw_s5 149 rfl rfl, jq_1.1, jq_1.2.1, jq_1.2.2, jd_5, Nat.le_of_ble_eq_true rfl, (fun h => by cases h), rfl⟩
def mP_improve : jm_M := (⟨"WhilePress", "improve", "()I"⟩, prog_1_method_6_code, 1, (some .int), 0, 0, 0)
theorem mP_improve_ok : jm_mok mP_improve := ⟨jw_s5 156 rfl rfl, jq_0.1, jq_0.2.1, jq_0.2.2, jd_0, Nat.le_of_ble_eq_true rfl, (fun h => by cases h), rfl⟩
def mIm_press : jm_M := (⟨"WhilePress$Improver", "press", "(LWhilePress$Code;LWhilePress$Code;)V"⟩, prog_4_method_2_code, 5, none, 3, 2, 0)
theorem mIm_press_ok : jm_mok mIm_press := ⟨jw_s5 161 rfl rfl, jq_3.1, jq_3.2.1, jq_3.2.2, jd_37, Nat.le_of_ble_eq_true rfl, (fun h => by cases h), rfl⟩
def mCo_copyFrom : jm_M := (⟨"WhilePress$Code", "copyFrom", "(LWhilePress$Code;)V"⟩, prog_2_method_3_code, 2, none, 1, 1, 0)
theorem mCo_copyFrom_ok : jm_mok mCo_copyFrom := ⟨jw_s5 165 rfl rfl, jq_1.1, jq_1.2.1, jq_1.2.2, jd_28, Nat.le_of_ble_eq_true rfl, (fun h => by cases h), rfl⟩
def mIm_putConstants : jm_M := (⟨"WhilePress$Improver", "putConstants", "(LWhilePress$Code;)Z"⟩, prog_4_method_3_code, 4, (some .boolean), 3, 1, 0)
theorem mIm_putConstants_ok : jm_mok mIm_putConstants := ⟨jw_s5 171 rfl rfl, jq_3.1, jq_3.2.1, jq_3.2.2, jd_29, Nat.le_of_ble_eq_true rfl, (fun h => by cases h), rfl⟩
def mKn_learn : jm_M := (⟨"WhilePress$Knowledge", "learn", "(LWhilePress$Code;)V"⟩, prog_5_method_2_code, 4, none, 4, 1, 0)
theorem mKn_learn_ok : jm_mok mKn_learn := ⟨jw_s5 175 rfl rfl, jq_4.1, jq_4.2.1, jq_4.2.2, jd_28, Nat.le_of_ble_eq_true rfl, (fun h => by cases h), rfl⟩
def mCo_findLeaders : jm_M := (⟨"WhilePress$Code", "findLeaders", "()V"⟩, prog_2_method_15_code, 2, none, 1, 0, 0)
theorem mCo_findLeaders_ok : jm_mok mCo_findLeaders := ⟨jw_s5 179 rfl rfl, jq_1.1, jq_1.2.1, jq_1.2.2, jd_1, Nat.le_of_ble_eq_true rfl, (fun h => by cases h), rfl⟩
def mKn_flow : jm_M := (⟨"WhilePress$Knowledge", "flow", "(LWhilePress$Code;I)V"⟩, prog_5_method_4_code, 7, none, 4, 2, 0)
theorem mKn_flow_ok : jm_mok mKn_flow := ⟨jw_s5 185 rfl rfl, jq_4.1, jq_4.2.1, jq_4.2.2, jd_32, Nat.le_of_ble_eq_true rfl, (fun h => by cases h), rfl⟩
def mKn_follow : jm_M := (⟨"WhilePress$Knowledge", "follow", "(LWhilePress$Code;I)V"⟩, prog_5_method_3_code, 9, none, 4, 2, 0)
theorem mKn_follow_ok : jm_mok mKn_follow := ⟨jw_s5 192 rfl rfl, jq_4.1, jq_4.2.1, jq_4.2.2, jd_32, Nat.le_of_ble_eq_true rfl, (fun h => by cases h), rfl⟩
def mKn_begin : jm_M := (⟨"WhilePress$Knowledge", "begin", "(I)V"⟩, prog_5_method_5_code, 2, none, 4, 1, 0)
theorem mKn_begin_ok : jm_mok mKn_begin := ⟨jw_s5 196 rfl rfl, jq_4.1, jq_4.2.1, jq_4.2.2, jd_4, Nat.le_of_ble_eq_true rfl, (fun h => by cases h), rfl⟩
def mCo_lastOf : jm_M := (⟨"WhilePress$Code", "lastOf", "(I)I"⟩, prog_2_method_16_code, 3, (some .int), 1, 1, 0)
theorem mCo_lastOf_ok : jm_mok mCo_lastOf := ⟨jw_s5 200 rfl rfl, jq_1.1, jq_1.2.1, jq_1.2.2, jd_3, Nat.le_of_ble_eq_true rfl, (fun h => by cases h), rfl⟩
def mKn_pass : jm_M := (⟨"WhilePress$Knowledge", "pass", "(LWhilePress$Code;I)V"⟩, prog_5_method_8_code, 10, none, 4, 2, 0)
theorem mKn_pass_ok : jm_mok mKn_pass := ⟨jw_s5 204 rfl rfl, jq_4.1, jq_4.2.1, jq_4.2.2, jd_32, Nat.le_of_ble_eq_true rfl, (fun h => by cases h), rfl⟩
def mKn_first : jm_M := (⟨"WhilePress$Knowledge", "first", "(LWhilePress$Code;I)J"⟩, prog_5_method_6_code, 3, (some .long), 4, 2, 0)
theorem mKn_first_ok : jm_mok mKn_first := ⟨jw_s5 209 rfl rfl, jq_4.1, jq_4.2.1, jq_4.2.2, jd_31, Nat.le_of_ble_eq_true rfl, (fun h => by cases h), rfl⟩
def mKn_second : jm_M := (⟨"WhilePress$Knowledge", "second", "(LWhilePress$Code;I)J"⟩, prog_5_method_7_code, 3, (some .long), 4, 2, 0)
theorem mKn_second_ok : jm_mok mKn_second := ⟨jw_s5 214 rfl rfl, jq_4.1, jq_4.2.1, jq_4.2.2, jd_31, Nat.le_of_ble_eq_true rfl, (fun h => by cases h), rfl⟩
def mP_isDivision : jm_M := (⟨"WhilePress", "isDivision", "(I)Z"⟩, prog_1_method_18_code, 1, (some .boolean), 0, 1, 0)
theorem mP_isDivision_ok : jm_mok mP_isDivision := ⟨jw_s5 218 rfl rfl, jq_0.1, jq_0.2.1, jq_0.2.2, jd_5, Nat.le_of_ble_eq_true rfl, (fun h => by cases h), rfl⟩
def mP_work : jm_M := (⟨"WhilePress", "work", "(III)I"⟩, prog_1_method_19_code, 3, (some .int), 0, 3, 0)
theorem mP_work_ok : jm_mok mP_work := ⟨jw_s5 221 rfl rfl, jq_0.1, jq_0.2.1, jq_0.2.2, jd_10, Nat.le_of_ble_eq_true rfl, (fun h => by cases h), rfl⟩
def mIm_putConstant : jm_M := (⟨"WhilePress$Improver", "putConstant", "(LWhilePress$Code;I)Z"⟩, prog_4_method_4_code, 9, (some .boolean), 3, 2, 0)
theorem mIm_putConstant_ok : jm_mok mIm_putConstant := ⟨jw_s5 227 rfl rfl, jq_3.1, jq_3.2.1, jq_3.2.2, jd_33, Nat.le_of_ble_eq_true rfl, (fun h => by cases h), rfl⟩
def mCo_isWorkedOut : jm_M := (⟨"WhilePress$Code", "isWorkedOut", "(I)Z"⟩, prog_2_method_11_code, 2, (some .boolean), 1, 1, 0)
theorem mCo_isWorkedOut_ok : jm_mok mCo_isWorkedOut := ⟨jw_s5 236 rfl rfl, jq_1.1, jq_1.2.1, jq_1.2.2, jd_5, Nat.le_of_ble_eq_true rfl, (fun h => by cases h), rfl⟩
def mIm_putCopies : jm_M := (⟨"WhilePress$Improver", "putCopies", "(LWhilePress$Code;)Z"⟩, prog_4_method_5_code, 4, (some .boolean), 3, 1, 0)
theorem mIm_putCopies_ok : jm_mok mIm_putCopies := ⟨jw_s6 4 rfl rfl, jq_3.1, jq_3.2.1, jq_3.2.2, jd_29, Nat.le_of_ble_eq_true rfl, (fun h => by cases h), rfl⟩
def mHo_find : jm_M := (⟨"WhilePress$Holdings", "find", "(LWhilePress$Code;)V"⟩, prog_3_method_2_code, 5, none, 2, 1, 0)
theorem mHo_find_ok : jm_mok mHo_find := ⟨jw_s6 8 rfl rfl, jq_2.1, jq_2.2.1, jq_2.2.2, jd_28, Nat.le_of_ble_eq_true rfl, (fun h => by cases h), rfl⟩
def mCo_findReached : jm_M := (⟨"WhilePress$Code", "findReached", "()V"⟩, prog_2_method_17_code, 4, none, 1, 0, 0)
theorem mCo_findReached_ok : jm_mok mCo_findReached := ⟨jw_s6 12 rfl rfl, jq_1.1, jq_1.2.1, jq_1.2.2, jd_1, Nat.le_of_ble_eq_true rfl, (fun h => by cases h), rfl⟩
def mArr_fill3 : jm_M := (⟨"java/util/Arrays", "fill", "([JIIJ)V"⟩, prog_32_method_102_code, 6, none, 14, 4, 0)
theorem mArr_fill3_ok : jm_mok mArr_fill3 := ⟨jw_s6 17 rfl rfl, jq_14.1, jq_14.2.1, jq_14.2.2, jd_52, Nat.le_of_ble_eq_true rfl, (fun h => by cases h), rfl⟩
def mArr_rangeCheck : jm_M := (⟨"java/util/Arrays", "rangeCheck", "(III)V"⟩, prog_32_method_30_code, 3, none, 14, 3, 0)
theorem mArr_rangeCheck_ok : jm_mok mArr_rangeCheck := ⟨jw_s6 20 rfl rfl, jq_14.1, jq_14.2.1, jq_14.2.2, jd_11, Nat.le_of_ble_eq_true rfl, (fun h => by cases h), rfl⟩
def mHo_factFor : jm_M := (⟨"WhilePress$Holdings", "factFor", "(LWhilePress$Code;I)I"⟩, prog_3_method_3_code, 5, (some .int), 2, 2, 0)
theorem mHo_factFor_ok : jm_mok mHo_factFor := ⟨jw_s7 43 rfl rfl, jq_2.1, jq_2.2.1, jq_2.2.2, jd_30, Nat.le_of_ble_eq_true rfl, (fun h => by cases h), rfl⟩
def mHo_isOf : jm_M := (⟨"WhilePress$Holdings", "isOf", "(ILWhilePress$Code;I)Z"⟩, prog_3_method_5_code, 4, (some .boolean), 2, 3, 0)
theorem mHo_isOf_ok : jm_mok mHo_isOf := ⟨jw_s7 49 rfl rfl, jq_2.1, jq_2.2.1, jq_2.2.2, jd_22, Nat.le_of_ble_eq_true rfl, (fun h => by cases h), rfl⟩
def mHo_endBy : jm_M := (⟨"WhilePress$Holdings", "endBy", "(II)V"⟩, prog_3_method_4_code, 3, none, 2, 2, 0)
theorem mHo_endBy_ok : jm_mok mHo_endBy := ⟨jw_s7 53 rfl rfl, jq_2.1, jq_2.2.1, jq_2.2.2, jd_8, Nat.le_of_ble_eq_true rfl, (fun h => by cases h), rfl⟩
def mHo_follow : jm_M := (⟨"WhilePress$Holdings", "follow", "(LWhilePress$Code;I)Z"⟩, prog_3_method_6_code, 5, (some .boolean), 2, 2, 0)
theorem mHo_follow_ok : jm_mok mHo_follow := ⟨jw_s7 59 rfl rfl, jq_2.1, jq_2.2.1, jq_2.2.2, jd_33, Nat.le_of_ble_eq_true rfl, (fun h => by cases h), rfl⟩
def mHo_begin : jm_M := (⟨"WhilePress$Holdings", "begin", "(I)V"⟩, prog_3_method_8_code, 2, none, 2, 1, 0)
theorem mHo_begin_ok : jm_mok mHo_begin := ⟨jw_s7 63 rfl rfl, jq_2.1, jq_2.2.1, jq_2.2.2, jd_4, Nat.le_of_ble_eq_true rfl, (fun h => by cases h), rfl⟩
def mHo_pass : jm_M := (⟨"WhilePress$Holdings", "pass", "(LWhilePress$Code;I)V"⟩, prog_3_method_9_code, 5, none, 2, 2, 0)
theorem mHo_pass_ok : jm_mok mHo_pass := ⟨jw_s7 69 rfl rfl, jq_2.1, jq_2.2.1, jq_2.2.2, jd_32, Nat.le_of_ble_eq_true rfl, (fun h => by cases h), rfl⟩
def mHo_flow : jm_M := (⟨"WhilePress$Holdings", "flow", "(I)Z"⟩, prog_3_method_7_code, 6, (some .boolean), 2, 1, 0)
theorem mHo_flow_ok : jm_mok mHo_flow := ⟨jw_s7 75 rfl rfl, jq_2.1, jq_2.2.1, jq_2.2.2, jd_5, Nat.le_of_ble_eq_true rfl, (fun h => by cases h), rfl⟩
def mIm_putCopy : jm_M := (⟨"WhilePress$Improver", "putCopy", "(LWhilePress$Code;I)Z"⟩, prog_4_method_6_code, 5, (some .boolean), 3, 2, 0)
theorem mIm_putCopy_ok : jm_mok mIm_putCopy := ⟨jw_s7 81 rfl rfl, jq_3.1, jq_3.2.1, jq_3.2.2, jd_33, Nat.le_of_ble_eq_true rfl, (fun h => by cases h), rfl⟩
def mHo_original : jm_M := (⟨"WhilePress$Holdings", "original", "(I)I"⟩, prog_3_method_10_code, 7, (some .int), 2, 1, 0)
theorem mHo_original_ok : jm_mok mHo_original := ⟨jw_s7 85 rfl rfl, jq_2.1, jq_2.2.1, jq_2.2.2, jd_3, Nat.le_of_ble_eq_true rfl, (fun h => by cases h), rfl⟩
def mLong_numberOfTrailingZeros : jm_M := (⟨"java/lang/Long", "numberOfTrailingZeros", "(J)I"⟩, prog_23_method_49_code, 3, (some .int), 16, 1, 0)
theorem mLong_numberOfTrailingZeros_ok : jm_mok mLong_numberOfTrailingZeros := ⟨jw_s7 88 rfl rfl, jq_16.1, jq_16.2.1, jq_16.2.2, jd_24, Nat.le_of_ble_eq_true rfl, (fun h => by cases h), rfl⟩
def mInt_numberOfTrailingZeros : jm_M := (⟨"java/lang/Integer", "numberOfTrailingZeros", "(I)I"⟩, prog_22_method_48_code, 2, (some .int), 17, 1, 0)
theorem mInt_numberOfTrailingZeros_ok : jm_mok mInt_numberOfTrailingZeros := ⟨jw_s7 91 rfl rfl, jq_17.1, jq_17.2.1, jq_17.2.2, jd_3, Nat.le_of_ble_eq_true rfl, (fun h => by cases h), rfl⟩
def mHo_holder : jm_M := (⟨"WhilePress$Holdings", "holder", "(LWhilePress$Code;I)I"⟩, prog_3_method_11_code, 9, (some .int), 2, 2, 0)
theorem mHo_holder_ok : jm_mok mHo_holder := ⟨jw_s7 96 rfl rfl, jq_2.1, jq_2.2.1, jq_2.2.2, jd_30, Nat.le_of_ble_eq_true rfl, (fun h => by cases h), rfl⟩
def mCo_leaveOut : jm_M := (⟨"WhilePress$Code", "leaveOut", "(I)V"⟩, prog_2_method_18_code, 2, none, 1, 1, 0)
theorem mCo_leaveOut_ok : jm_mok mCo_leaveOut := ⟨jw_s7 100 rfl rfl, jq_1.1, jq_1.2.1, jq_1.2.2, jd_4, Nat.le_of_ble_eq_true rfl, (fun h => by cases h), rfl⟩
def mCo_sweep : jm_M := (⟨"WhilePress$Code", "sweep", "()Z"⟩, prog_2_method_19_code, 5, (some .boolean), 1, 0, 0)
theorem mCo_sweep_ok : jm_mok mCo_sweep := ⟨jw_s7 105 rfl rfl, jq_1.1, jq_1.2.1, jq_1.2.2, jd_2, Nat.le_of_ble_eq_true rfl, (fun h => by cases h), rfl⟩
def mIm_leaveDead : jm_M := (⟨"WhilePress$Improver", "leaveDead", "(LWhilePress$Code;)Z"⟩, prog_4_method_7_code, 3, (some .boolean), 3, 1, 0)
theorem mIm_leaveDead_ok : jm_mok mIm_leaveDead := ⟨jw_s7 109 rfl rfl, jq_3.1, jq_3.2.1, jq_3.2.2, jd_29, Nat.le_of_ble_eq_true rfl, (fun h => by cases h), rfl⟩
def mLi_isBehind : jm_M := (⟨"WhilePress$Lives", "isBehind", "(II)Z"⟩, prog_6_method_5_code, 3, (some .boolean), 5, 2, 0)
theorem mLi_isBehind_ok : jm_mok mLi_isBehind := ⟨jw_s7 114 rfl rfl, jq_5.1, jq_5.2.1, jq_5.2.2, jd_9, Nat.le_of_ble_eq_true rfl, (fun h => by cases h), rfl⟩
def mIm_isHarmless : jm_M := (⟨"WhilePress$Improver", "isHarmless", "(LWhilePress$Code;I)Z"⟩, prog_4_method_8_code, 5, (some .boolean), 3, 2, 0)
theorem mIm_isHarmless_ok : jm_mok mIm_isHarmless := ⟨jw_s7 117 rfl rfl, jq_3.1, jq_3.2.1, jq_3.2.2, jd_33, Nat.le_of_ble_eq_true rfl, (fun h => by cases h), rfl⟩
def mIm_mendJumps : jm_M := (⟨"WhilePress$Improver", "mendJumps", "(LWhilePress$Code;)Z"⟩, prog_4_method_9_code, 4, (some .boolean), 3, 1, 0)
theorem mIm_mendJumps_ok : jm_mok mIm_mendJumps := ⟨jw_s7 121 rfl rfl, jq_3.1, jq_3.2.1, jq_3.2.2, jd_29, Nat.le_of_ble_eq_true rfl, (fun h => by cases h), rfl⟩
def mIm_settleTests : jm_M := (⟨"WhilePress$Improver", "settleTests", "(LWhilePress$Code;)Z"⟩, prog_4_method_10_code, 4, (some .boolean), 3, 1, 0)
theorem mIm_settleTests_ok : jm_mok mIm_settleTests := ⟨jw_s7 124 rfl rfl, jq_3.1, jq_3.2.1, jq_3.2.2, jd_29, Nat.le_of_ble_eq_true rfl, (fun h => by cases h), rfl⟩
def mIm_leaveUnreached : jm_M := (⟨"WhilePress$Improver", "leaveUnreached", "(LWhilePress$Code;)Z"⟩, prog_4_method_11_code, 2, (some .boolean), 3, 1, 0)
theorem mIm_leaveUnreached_ok : jm_mok mIm_leaveUnreached := ⟨jw_s7 127 rfl rfl, jq_3.1, jq_3.2.1, jq_3.2.2, jd_29, Nat.le_of_ble_eq_true rfl, (fun h => by cases h), rfl⟩
def mIm_goThrough : jm_M := (⟨"WhilePress$Improver", "goThrough", "(LWhilePress$Code;)Z"⟩, prog_4_method_12_code, 5, (some .boolean), 3, 1, 0)
theorem mIm_goThrough_ok : jm_mok mIm_goThrough := ⟨jw_s7 131 rfl rfl, jq_3.1, jq_3.2.1, jq_3.2.2, jd_29, Nat.le_of_ble_eq_true rfl, (fun h => by cases h), rfl⟩
def mLi_giveColours : jm_M := (⟨"WhilePress$Lives", "giveColours", "(LWhilePress$Code;)V"⟩, prog_6_method_6_code, 3, none, 5, 1, 0)
theorem mLi_giveColours_ok : jm_mok mLi_giveColours := ⟨jw_s7 137 rfl rfl, jq_5.1, jq_5.2.1, jq_5.2.2, jd_28, Nat.le_of_ble_eq_true rfl, (fun h => by cases h), rfl⟩
def mLi_setApart : jm_M := (⟨"WhilePress$Lives", "setApart", "(LWhilePress$Code;I)V"⟩, prog_6_method_7_code, 6, none, 5, 2, 0)
theorem mLi_setApart_ok : jm_mok mLi_setApart := ⟨jw_s7 141 rfl rfl, jq_5.1, jq_5.2.1, jq_5.2.2, jd_32, Nat.le_of_ble_eq_true rfl, (fun h => by cases h), rfl⟩
def mLi_leastColour : jm_M := (⟨"WhilePress$Lives", "leastColour", "(I)I"⟩, prog_6_method_8_code, 4, (some .int), 5, 1, 0)
theorem mLi_leastColour_ok : jm_mok mLi_leastColour := ⟨jw_s7 146 rfl rfl, jq_5.1, jq_5.2.1, jq_5.2.2, jd_3, Nat.le_of_ble_eq_true rfl, (fun h => by cases h), rfl⟩
def mP_code : jm_M := (⟨"WhilePress", "code", "(ZII)I"⟩, prog_1_method_7_code, 5, (some .int), 0, 3, 0)
theorem mP_code_ok : jm_mok mP_code := ⟨jw_s7 155 rfl rfl, jq_0.1, jq_0.2.1, jq_0.2.2, jd_45, Nat.le_of_ble_eq_true rfl, (fun h => by cases h), rfl⟩
def mP_isKnown : jm_M := (⟨"WhilePress", "isKnown", "(II)Z"⟩, prog_1_method_8_code, 3, (some .boolean), 0, 2, 0)
theorem mP_isKnown_ok : jm_mok mP_isKnown := ⟨jw_s7 176 rfl rfl, jq_0.1, jq_0.2.1, jq_0.2.2, jd_9, Nat.le_of_ble_eq_true rfl, (fun h => by cases h), rfl⟩
def mP_knownBefore : jm_M := (⟨"WhilePress", "knownBefore", "(II)J"⟩, prog_1_method_10_code, 3, (some .long), 0, 2, 0)
theorem mP_knownBefore_ok : jm_mok mP_knownBefore := ⟨jw_s7 180 rfl rfl, jq_0.1, jq_0.2.1, jq_0.2.2, jd_7, Nat.le_of_ble_eq_true rfl, (fun h => by cases h), rfl⟩
def mKn_before : jm_M := (⟨"WhilePress$Knowledge", "before", "(LWhilePress$Code;II)J"⟩, prog_5_method_9_code, 6, (some .long), 4, 3, 0)
theorem mKn_before_ok : jm_mok mKn_before := ⟨jw_s7 186 rfl rfl, jq_4.1, jq_4.2.1, jq_4.2.2, jd_34, Nat.le_of_ble_eq_true rfl, (fun h => by cases h), rfl⟩
def mP_known : jm_M := (⟨"WhilePress", "known", "(II)I"⟩, prog_1_method_9_code, 5, (some .int), 0, 2, 0)
theorem mP_known_ok : jm_mok mP_known := ⟨jw_s7 194 rfl rfl, jq_0.1, jq_0.2.1, jq_0.2.2, jd_6, Nat.le_of_ble_eq_true rfl, (fun h => by cases h), rfl⟩
def mP_isLive : jm_M := (⟨"WhilePress", "isLive", "(ZII)Z"⟩, prog_1_method_11_code, 5, (some .boolean), 0, 3, 0)
theorem mP_isLive_ok : jm_mok mP_isLive := ⟨jw_s7 201 rfl rfl, jq_0.1, jq_0.2.1, jq_0.2.2, jd_47, Nat.le_of_ble_eq_true rfl, (fun h => by cases h), rfl⟩
def mP_colour : jm_M := (⟨"WhilePress", "colour", "(I)I"⟩, prog_1_method_12_code, 2, (some .int), 0, 1, 0)
theorem mP_colour_ok : jm_mok mP_colour := ⟨jw_s7 209 rfl rfl, jq_0.1, jq_0.2.1, jq_0.2.2, jd_3, Nat.le_of_ble_eq_true rfl, (fun h => by cases h), rfl⟩
def mP_input : jm_M := (⟨"WhilePress", "input", "(I)I"⟩, prog_1_method_13_code, 2, (some .int), 0, 1, 0)
theorem mP_input_ok : jm_mok mP_input := ⟨jw_s7 218 rfl rfl, jq_0.1, jq_0.2.1, jq_0.2.2, jd_3, Nat.le_of_ble_eq_true rfl, (fun h => by cases h), rfl⟩
def mP_run : jm_M := (⟨"WhilePress", "run", "(II)I"⟩, prog_1_method_15_code, 3, (some .int), 0, 2, 0)
theorem mP_run_ok : jm_mok mP_run := ⟨jw_s7 226 rfl rfl, jq_0.1, jq_0.2.1, jq_0.2.2, jd_6, Nat.le_of_ble_eq_true rfl, (fun h => by cases h), rfl⟩
def mRu_goText : jm_M := (⟨"WhilePress$Runner", "goText", "(LWhilePress$Script;I)I"⟩, prog_10_method_7_code, 7, (some .int), 9, 2, 0)
theorem mRu_goText_ok : jm_mok mRu_goText := ⟨jw_s7 233 rfl rfl, jq_9.1, jq_9.2.1, jq_9.2.2, jd_40, Nat.le_of_ble_eq_true rfl, (fun h => by cases h), rfl⟩
def mRu_begin : jm_M := (⟨"WhilePress$Runner", "begin", "(II)V"⟩, prog_10_method_2_code, 3, none, 9, 2, 0)
theorem mRu_begin_ok : jm_mok mRu_begin := ⟨jw_s7 237 rfl rfl, jq_9.1, jq_9.2.1, jq_9.2.2, jd_8, Nat.le_of_ble_eq_true rfl, (fun h => by cases h), rfl⟩
def mRu_takeWork : jm_M := (⟨"WhilePress$Runner", "takeWork", "(I)V"⟩, prog_10_method_10_code, 4, none, 9, 1, 0)
theorem mRu_takeWork_ok : jm_mok mRu_takeWork := ⟨jw_s8 3 rfl rfl, jq_9.1, jq_9.2.1, jq_9.2.2, jd_4, Nat.le_of_ble_eq_true rfl, (fun h => by cases h), rfl⟩
def mRu_pop : jm_M := (⟨"WhilePress$Runner", "pop", "()I"⟩, prog_10_method_9_code, 1, (some .int), 9, 0, 0)
theorem mRu_pop_ok : jm_mok mRu_pop := ⟨jw_s8 7 rfl rfl, jq_9.1, jq_9.2.1, jq_9.2.2, jd_0, Nat.le_of_ble_eq_true rfl, (fun h => by cases h), rfl⟩
def mRu_push : jm_M := (⟨"WhilePress$Runner", "push", "(I)V"⟩, prog_10_method_8_code, 2, none, 9, 1, 0)
theorem mRu_push_ok : jm_mok mRu_push := ⟨jw_s8 13 rfl rfl, jq_9.1, jq_9.2.1, jq_9.2.2, jd_4, Nat.le_of_ble_eq_true rfl, (fun h => by cases h), rfl⟩
def mRu_takePlain : jm_M := (⟨"WhilePress$Runner", "takePlain", "(LWhilePress$Script;II)V"⟩, prog_10_method_11_code, 7, none, 9, 3, 0)
theorem mRu_takePlain_ok : jm_mok mRu_takePlain := ⟨jw_s8 17 rfl rfl, jq_9.1, jq_9.2.1, jq_9.2.2, jd_42, Nat.le_of_ble_eq_true rfl, (fun h => by cases h), rfl⟩
def mRu_cellPlace : jm_M := (⟨"WhilePress$Runner", "cellPlace", "([III)I"⟩, prog_10_method_6_code, 4, (some .int), 9, 3, 0)
theorem mRu_cellPlace_ok : jm_mok mRu_cellPlace := ⟨jw_s8 21 rfl rfl, jq_9.1, jq_9.2.1, jq_9.2.2, jd_50, Nat.le_of_ble_eq_true rfl, (fun h => by cases h), rfl⟩
def mRu_takeInput : jm_M := (⟨"WhilePress$Runner", "takeInput", "()I"⟩, prog_10_method_4_code, 1, (some .int), 9, 0, 0)
theorem mRu_takeInput_ok : jm_mok mRu_takeInput := ⟨jw_s8 25 rfl rfl, jq_9.1, jq_9.2.1, jq_9.2.2, jd_0, Nat.le_of_ble_eq_true rfl, (fun h => by cases h), rfl⟩
def mRu_show : jm_M := (⟨"WhilePress$Runner", "show", "(I)V"⟩, prog_10_method_5_code, 2, none, 9, 1, 0)
theorem mRu_show_ok : jm_mok mRu_show := ⟨jw_s8 29 rfl rfl, jq_9.1, jq_9.2.1, jq_9.2.2, jd_4, Nat.le_of_ble_eq_true rfl, (fun h => by cases h), rfl⟩
def mRu_takeWay : jm_M := (⟨"WhilePress$Runner", "takeWay", "(LWhilePress$Script;II)V"⟩, prog_10_method_12_code, 4, none, 9, 3, 0)
theorem mRu_takeWay_ok : jm_mok mRu_takeWay := ⟨jw_s8 33 rfl rfl, jq_9.1, jq_9.2.1, jq_9.2.2, jd_42, Nat.le_of_ble_eq_true rfl, (fun h => by cases h), rfl⟩
def mRu_burn : jm_M := (⟨"WhilePress$Runner", "burn", "()V"⟩, prog_10_method_3_code, 1, none, 9, 0, 0)
theorem mRu_burn_ok : jm_mok mRu_burn := ⟨jw_s8 37 rfl rfl, jq_9.1, jq_9.2.1, jq_9.2.2, jd_1, Nat.le_of_ble_eq_true rfl, (fun h => by cases h), rfl⟩
def mRu_call : jm_M := (⟨"WhilePress$Runner", "call", "(LWhilePress$Script;I)V"⟩, prog_10_method_14_code, 4, none, 9, 2, 0)
theorem mRu_call_ok : jm_mok mRu_call := ⟨jw_s8 41 rfl rfl, jq_9.1, jq_9.2.1, jq_9.2.2, jd_41, Nat.le_of_ble_eq_true rfl, (fun h => by cases h), rfl⟩
def mRu_goBack : jm_M := (⟨"WhilePress$Runner", "goBack", "()V"⟩, prog_10_method_15_code, 1, none, 9, 0, 0)
theorem mRu_goBack_ok : jm_mok mRu_goBack := ⟨jw_s8 45 rfl rfl, jq_9.1, jq_9.2.1, jq_9.2.2, jd_1, Nat.le_of_ble_eq_true rfl, (fun h => by cases h), rfl⟩
def mRu_tellEarly : jm_M := (⟨"WhilePress$Runner", "tellEarly", "(ZII)V"⟩, prog_10_method_13_code, 4, none, 9, 3, 0)
theorem mRu_tellEarly_ok : jm_mok mRu_tellEarly := ⟨jw_s8 49 rfl rfl, jq_9.1, jq_9.2.1, jq_9.2.2, jd_46, Nat.le_of_ble_eq_true rfl, (fun h => by cases h), rfl⟩
def mRu_goCode : jm_M := (⟨"WhilePress$Runner", "goCode", "(LWhilePress$Code;[II)I"⟩, prog_10_method_16_code, 5, (some .int), 9, 3, 0)
theorem mRu_goCode_ok : jm_mok mRu_goCode := ⟨jw_s8 53 rfl rfl, jq_9.1, jq_9.2.1, jq_9.2.2, jd_38, Nat.le_of_ble_eq_true rfl, (fun h => by cases h), rfl⟩
def mRu_takeInstruction : jm_M := (⟨"WhilePress$Runner", "takeInstruction", "(LWhilePress$Code;I[I)V"⟩, prog_10_method_17_code, 8, none, 9, 3, 0)
theorem mRu_takeInstruction_ok : jm_mok mRu_takeInstruction := ⟨jw_s8 57 rfl rfl, jq_9.1, jq_9.2.1, jq_9.2.2, jd_36, Nat.le_of_ble_eq_true rfl, (fun h => by cases h), rfl⟩
def mRu_resultOf : jm_M := (⟨"WhilePress$Runner", "resultOf", "(LWhilePress$Code;III)I"⟩, prog_10_method_18_code, 6, (some .int), 9, 4, 0)
theorem mRu_resultOf_ok : jm_mok mRu_resultOf := ⟨jw_s8 64 rfl rfl, jq_9.1, jq_9.2.1, jq_9.2.2, jd_35, Nat.le_of_ble_eq_true rfl, (fun h => by cases h), rfl⟩
def mP_printed : jm_M := (⟨"WhilePress", "printed", "(I)I"⟩, prog_1_method_16_code, 2, (some .int), 0, 1, 0)
theorem mP_printed_ok : jm_mok mP_printed := ⟨jw_s8 71 rfl rfl, jq_0.1, jq_0.2.1, jq_0.2.2, jd_3, Nat.le_of_ble_eq_true rfl, (fun h => by cases h), rfl⟩
def mP_told : jm_M := (⟨"WhilePress", "told", "(I)I"⟩, prog_1_method_17_code, 2, (some .int), 0, 1, 0)
theorem mP_told_ok : jm_mok mP_told := ⟨jw_s8 79 rfl rfl, jq_0.1, jq_0.2.1, jq_0.2.2, jd_3, Nat.le_of_ble_eq_true rfl, (fun h => by cases h), rfl⟩
def mM_thrown : jm_M := (⟨"WhilePressModel", "thrown", "()I"⟩, prog_14_method_1_code, 1, (some .int), 12, 0, 0)
theorem mM_thrown_ok : jm_mok mM_thrown := ⟨jw_s8 84 rfl rfl, jq_12.1, jq_12.2.1, jq_12.2.2, jd_0, Nat.le_of_ble_eq_true rfl, (fun h => by cases h), rfl⟩
def mM_init : jm_M := (⟨"WhilePressModel", "<init>", "()V"⟩, prog_14_method_2_code, 1, none, 12, 0, 1)
theorem mM_init_ok : jm_mok mM_init := ⟨jw_s8 89 rfl rfl, jq_12.1, jq_12.2.1, jq_12.2.2, jd_1, Nat.le_of_ble_eq_true rfl, fun _ => rfl, rfl⟩
def mM_feed : jm_M := (⟨"WhilePressModel", "feed", "(JI)I"⟩, prog_14_method_4_code, 5, (some .int), 12, 2, 0)
theorem mM_feed_ok : jm_mok mM_feed := ⟨jw_s9 190 rfl rfl, jq_12.1, jq_12.2.1, jq_12.2.2, jd_26, Nat.le_of_ble_eq_true rfl, (fun h => by cases h), rfl⟩
def mM_isFine : jm_M := (⟨"WhilePressModel", "isFine", "(I)Z"⟩, prog_14_method_3_code, 1, (some .boolean), 12, 1, 0)
theorem mM_isFine_ok : jm_mok mM_isFine := ⟨jw_s9 194 rfl rfl, jq_12.1, jq_12.2.1, jq_12.2.2, jd_5, Nat.le_of_ble_eq_true rfl, (fun h => by cases h), rfl⟩
def mM_read : jm_M := (⟨"WhilePressModel", "read", "()I"⟩, prog_14_method_56_code, 2, (some .int), 12, 0, 0)
theorem mM_read_ok : jm_mok mM_read := ⟨jw_s9 198 rfl rfl, jq_12.1, jq_12.2.1, jq_12.2.2, jd_0, Nat.le_of_ble_eq_true rfl, (fun h => by cases h), rfl⟩
def mM_cutWords : jm_M := (⟨"WhilePressModel", "cutWords", "()V"⟩, prog_14_method_11_code, 6, none, 12, 0, 0)
theorem mM_cutWords_ok : jm_mok mM_cutWords := ⟨jw_s9 202 rfl rfl, jq_12.1, jq_12.2.1, jq_12.2.2, jd_1, Nat.le_of_ble_eq_true rfl, (fun h => by cases h), rfl⟩
def mM_isSmall : jm_M := (⟨"WhilePressModel", "isSmall", "(I)Z"⟩, prog_14_method_6_code, 1, (some .boolean), 12, 1, 0)
theorem mM_isSmall_ok : jm_mok mM_isSmall := ⟨jw_s9 205 rfl rfl, jq_12.1, jq_12.2.1, jq_12.2.2, jd_5, Nat.le_of_ble_eq_true rfl, (fun h => by cases h), rfl⟩
def mM_byteAt : jm_M := (⟨"WhilePressModel", "byteAt", "(I)I"⟩, prog_14_method_8_code, 2, (some .int), 12, 1, 0)
theorem mM_byteAt_ok : jm_mok mM_byteAt := ⟨jw_s9 209 rfl rfl, jq_12.1, jq_12.2.1, jq_12.2.2, jd_3, Nat.le_of_ble_eq_true rfl, (fun h => by cases h), rfl⟩
def mM_isFigure : jm_M := (⟨"WhilePressModel", "isFigure", "(I)Z"⟩, prog_14_method_7_code, 1, (some .boolean), 12, 1, 0)
theorem mM_isFigure_ok : jm_mok mM_isFigure := ⟨jw_s9 212 rfl rfl, jq_12.1, jq_12.2.1, jq_12.2.2, jd_5, Nat.le_of_ble_eq_true rfl, (fun h => by cases h), rfl⟩
def mM_keyOf : jm_M := (⟨"WhilePressModel", "keyOf", "(J)I"⟩, prog_14_method_5_code, 2, (some .int), 12, 1, 0)
theorem mM_keyOf_ok : jm_mok mM_keyOf := ⟨jw_s9 215 rfl rfl, jq_12.1, jq_12.2.1, jq_12.2.2, jd_24, Nat.le_of_ble_eq_true rfl, (fun h => by cases h), rfl⟩
def mM_pairOf : jm_M := (⟨"WhilePressModel", "pairOf", "(II)I"⟩, prog_14_method_9_code, 2, (some .int), 12, 2, 0)
theorem mM_pairOf_ok : jm_mok mM_pairOf := ⟨jw_s9 234 rfl rfl, jq_12.1, jq_12.2.1, jq_12.2.2, jd_6, Nat.le_of_ble_eq_true rfl, (fun h => by cases h), rfl⟩
def mM_isSign : jm_M := (⟨"WhilePressModel", "isSign", "(I)Z"⟩, prog_14_method_10_code, 1, (some .boolean), 12, 1, 0)
theorem mM_isSign_ok : jm_mok mM_isSign := ⟨jw_s9 237 rfl rfl, jq_12.1, jq_12.2.1, jq_12.2.2, jd_5, Nat.le_of_ble_eq_true rfl, (fun h => by cases h), rfl⟩
def mM_goOver : jm_M := (⟨"WhilePressModel", "goOver", "()V"⟩, prog_14_method_55_code, 1, none, 12, 0, 0)
theorem mM_goOver_ok : jm_mok mM_goOver := ⟨jw_s10 1 rfl rfl, jq_12.1, jq_12.2.1, jq_12.2.2, jd_1, Nat.le_of_ble_eq_true rfl, (fun h => by cases h), rfl⟩
def mM_readDecl : jm_M := (⟨"WhilePressModel", "readDecl", "()V"⟩, prog_14_method_35_code, 1, none, 12, 0, 0)
theorem mM_readDecl_ok : jm_mok mM_readDecl := ⟨jw_s10 5 rfl rfl, jq_12.1, jq_12.2.1, jq_12.2.2, jd_1, Nat.le_of_ble_eq_true rfl, (fun h => by cases h), rfl⟩
def mM_readInts : jm_M := (⟨"WhilePressModel", "readInts", "(Z)V"⟩, prog_14_method_31_code, 4, none, 12, 1, 0)
theorem mM_readInts_ok : jm_mok mM_readInts := ⟨jw_s10 9 rfl rfl, jq_12.1, jq_12.2.1, jq_12.2.2, jd_44, Nat.le_of_ble_eq_true rfl, (fun h => by cases h), rfl⟩
def mM_misfit : jm_M := (⟨"WhilePressModel", "misfit", "()V"⟩, prog_14_method_20_code, 1, none, 12, 0, 0)
theorem mM_misfit_ok : jm_mok mM_misfit := ⟨jw_s10 13 rfl rfl, jq_12.1, jq_12.2.1, jq_12.2.2, jd_1, Nat.le_of_ble_eq_true rfl, (fun h => by cases h), rfl⟩
def mM_fail : jm_M := (⟨"WhilePressModel", "fail", "(II)V"⟩, prog_14_method_19_code, 3, none, 12, 2, 0)
theorem mM_fail_ok : jm_mok mM_fail := ⟨jw_s10 17 rfl rfl, jq_12.1, jq_12.2.1, jq_12.2.2, jd_8, Nat.le_of_ble_eq_true rfl, (fun h => by cases h), rfl⟩
def mM_newInt : jm_M := (⟨"WhilePressModel", "newInt", "(I)I"⟩, prog_14_method_18_code, 2, (some .int), 12, 1, 0)
theorem mM_newInt_ok : jm_mok mM_newInt := ⟨jw_s10 21 rfl rfl, jq_12.1, jq_12.2.1, jq_12.2.2, jd_3, Nat.le_of_ble_eq_true rfl, (fun h => by cases h), rfl⟩
def mM_isTold : jm_M := (⟨"WhilePressModel", "isTold", "(J)Z"⟩, prog_14_method_15_code, 5, (some .boolean), 12, 1, 0)
theorem mM_isTold_ok : jm_mok mM_isTold := ⟨jw_s10 25 rfl rfl, jq_12.1, jq_12.2.1, jq_12.2.2, jd_25, Nat.le_of_ble_eq_true rfl, (fun h => by cases h), rfl⟩
def mM_addName : jm_M := (⟨"WhilePressModel", "addName", "(JII)V"⟩, prog_14_method_16_code, 5, none, 12, 3, 0)
theorem mM_addName_ok : jm_mok mM_addName := ⟨jw_s10 29 rfl rfl, jq_12.1, jq_12.2.1, jq_12.2.2, jd_27, Nat.le_of_ble_eq_true rfl, (fun h => by cases h), rfl⟩
def mM_step : jm_M := (⟨"WhilePressModel", "step", "(II)I"⟩, prog_14_method_12_code, 4, (some .int), 12, 2, 0)
theorem mM_step_ok : jm_mok mM_step := ⟨jw_s10 33 rfl rfl, jq_12.1, jq_12.2.1, jq_12.2.2, jd_6, Nat.le_of_ble_eq_true rfl, (fun h => by cases h), rfl⟩
def mM_take : jm_M := (⟨"WhilePressModel", "take", "(I)Z"⟩, prog_14_method_21_code, 2, (some .boolean), 12, 1, 0)
theorem mM_take_ok : jm_mok mM_take := ⟨jw_s10 37 rfl rfl, jq_12.1, jq_12.2.1, jq_12.2.2, jd_5, Nat.le_of_ble_eq_true rfl, (fun h => by cases h), rfl⟩
def mM_readRow : jm_M := (⟨"WhilePressModel", "readRow", "()V"⟩, prog_14_method_32_code, 4, none, 12, 0, 0)
theorem mM_readRow_ok : jm_mok mM_readRow := ⟨jw_s10 41 rfl rfl, jq_12.1, jq_12.2.1, jq_12.2.2, jd_1, Nat.le_of_ble_eq_true rfl, (fun h => by cases h), rfl⟩
def mM_takeOpen : jm_M := (⟨"WhilePressModel", "takeOpen", "(I)Z"⟩, prog_14_method_23_code, 2, (some .boolean), 12, 1, 0)
theorem mM_takeOpen_ok : jm_mok mM_takeOpen := ⟨jw_s10 45 rfl rfl, jq_12.1, jq_12.2.1, jq_12.2.2, jd_5, Nat.le_of_ble_eq_true rfl, (fun h => by cases h), rfl⟩
def mM_opens : jm_M := (⟨"WhilePressModel", "opens", "()Z"⟩, prog_14_method_22_code, 1, (some .boolean), 12, 0, 0)
theorem mM_opens_ok : jm_mok mM_opens := ⟨jw_s10 49 rfl rfl, jq_12.1, jq_12.2.1, jq_12.2.2, jd_2, Nat.le_of_ble_eq_true rfl, (fun h => by cases h), rfl⟩
def mM_takeClose : jm_M := (⟨"WhilePressModel", "takeClose", "(I)Z"⟩, prog_14_method_24_code, 2, (some .boolean), 12, 1, 0)
theorem mM_takeClose_ok : jm_mok mM_takeClose := ⟨jw_s10 53 rfl rfl, jq_12.1, jq_12.2.1, jq_12.2.2, jd_5, Nat.le_of_ble_eq_true rfl, (fun h => by cases h), rfl⟩
def mM_readDef : jm_M := (⟨"WhilePressModel", "readDef", "()V"⟩, prog_14_method_33_code, 5, none, 12, 0, 0)
theorem mM_readDef_ok : jm_mok mM_readDef := ⟨jw_s10 57 rfl rfl, jq_12.1, jq_12.2.1, jq_12.2.2, jd_1, Nat.le_of_ble_eq_true rfl, (fun h => by cases h), rfl⟩
def mM_push : jm_M := (⟨"WhilePressModel", "push", "(III)V"⟩, prog_14_method_25_code, 4, none, 12, 3, 0)
theorem mM_push_ok : jm_mok mM_push := ⟨jw_s10 61 rfl rfl, jq_12.1, jq_12.2.1, jq_12.2.2, jd_11, Nat.le_of_ble_eq_true rfl, (fun h => by cases h), rfl⟩
def mM_beginBlock : jm_M := (⟨"WhilePressModel", "beginBlock", "()V"⟩, prog_14_method_29_code, 1, none, 12, 0, 0)
theorem mM_beginBlock_ok : jm_mok mM_beginBlock := ⟨jw_s10 65 rfl rfl, jq_12.1, jq_12.2.1, jq_12.2.2, jd_1, Nat.le_of_ble_eq_true rfl, (fun h => by cases h), rfl⟩
def mM_readStatement : jm_M := (⟨"WhilePressModel", "readStatement", "()V"⟩, prog_14_method_37_code, 4, none, 12, 0, 0)
theorem mM_readStatement_ok : jm_mok mM_readStatement := ⟨jw_s10 69 rfl rfl, jq_12.1, jq_12.2.1, jq_12.2.2, jd_1, Nat.le_of_ble_eq_true rfl, (fun h => by cases h), rfl⟩
def mM_top : jm_M := (⟨"WhilePressModel", "top", "()I"⟩, prog_14_method_26_code, 1, (some .int), 12, 0, 0)
theorem mM_top_ok : jm_mok mM_top := ⟨jw_s10 73 rfl rfl, jq_12.1, jq_12.2.1, jq_12.2.2, jd_0, Nat.le_of_ble_eq_true rfl, (fun h => by cases h), rfl⟩
def mM_endDef : jm_M := (⟨"WhilePressModel", "endDef", "()V"⟩, prog_14_method_34_code, 3, none, 12, 0, 0)
theorem mM_endDef_ok : jm_mok mM_endDef := ⟨jw_s10 77 rfl rfl, jq_12.1, jq_12.2.1, jq_12.2.2, jd_1, Nat.le_of_ble_eq_true rfl, (fun h => by cases h), rfl⟩
def mM_tellChain : jm_M := (⟨"WhilePressModel", "tellChain", "(II)V"⟩, prog_14_method_14_code, 5, none, 12, 2, 0)
theorem mM_tellChain_ok : jm_mok mM_tellChain := ⟨jw_s10 81 rfl rfl, jq_12.1, jq_12.2.1, jq_12.2.2, jd_8, Nat.le_of_ble_eq_true rfl, (fun h => by cases h), rfl⟩
def mM_tell : jm_M := (⟨"WhilePressModel", "tell", "(II)V"⟩, prog_14_method_13_code, 3, none, 12, 2, 0)
theorem mM_tell_ok : jm_mok mM_tell := ⟨jw_s10 85 rfl rfl, jq_12.1, jq_12.2.1, jq_12.2.2, jd_8, Nat.le_of_ble_eq_true rfl, (fun h => by cases h), rfl⟩
def mM_endBlock : jm_M := (⟨"WhilePressModel", "endBlock", "()V"⟩, prog_14_method_30_code, 1, none, 12, 0, 0)
theorem mM_endBlock_ok : jm_mok mM_endBlock := ⟨jw_s10 89 rfl rfl, jq_12.1, jq_12.2.1, jq_12.2.2, jd_1, Nat.le_of_ble_eq_true rfl, (fun h => by cases h), rfl⟩
def mM_readNamed : jm_M := (⟨"WhilePressModel", "readNamed", "()V"⟩, prog_14_method_38_code, 4, none, 12, 0, 0)
theorem mM_readNamed_ok : jm_mok mM_readNamed := ⟨jw_s10 93 rfl rfl, jq_12.1, jq_12.2.1, jq_12.2.2, jd_1, Nat.le_of_ble_eq_true rfl, (fun h => by cases h), rfl⟩
def mM_meaningOfCall : jm_M := (⟨"WhilePressModel", "meaningOfCall", "(I)I"⟩, prog_14_method_40_code, 3, (some .int), 12, 1, 0)
theorem mM_meaningOfCall_ok : jm_mok mM_meaningOfCall := ⟨jw_s10 97 rfl rfl, jq_12.1, jq_12.2.1, jq_12.2.2, jd_3, Nat.le_of_ble_eq_true rfl, (fun h => by cases h), rfl⟩
def mM_meaning : jm_M := (⟨"WhilePressModel", "meaning", "(II)I"⟩, prog_14_method_17_code, 4, (some .int), 12, 2, 0)
theorem mM_meaning_ok : jm_mok mM_meaning := ⟨jw_s10 101 rfl rfl, jq_12.1, jq_12.2.1, jq_12.2.2, jd_6, Nat.le_of_ble_eq_true rfl, (fun h => by cases h), rfl⟩
def mM_begun : jm_M := (⟨"WhilePressModel", "begun", "()V"⟩, prog_14_method_36_code, 2, none, 12, 0, 0)
theorem mM_begun_ok : jm_mok mM_begun := ⟨jw_s10 105 rfl rfl, jq_12.1, jq_12.2.1, jq_12.2.2, jd_1, Nat.le_of_ble_eq_true rfl, (fun h => by cases h), rfl⟩
def mM_beginCall : jm_M := (⟨"WhilePressModel", "beginCall", "()V"⟩, prog_14_method_39_code, 1, none, 12, 0, 0)
theorem mM_beginCall_ok : jm_mok mM_beginCall := ⟨jw_s10 109 rfl rfl, jq_12.1, jq_12.2.1, jq_12.2.2, jd_1, Nat.le_of_ble_eq_true rfl, (fun h => by cases h), rfl⟩
def mM_endCall : jm_M := (⟨"WhilePressModel", "endCall", "()V"⟩, prog_14_method_41_code, 5, none, 12, 0, 0)
theorem mM_endCall_ok : jm_mok mM_endCall := ⟨jw_s10 113 rfl rfl, jq_12.1, jq_12.2.1, jq_12.2.2, jd_1, Nat.le_of_ble_eq_true rfl, (fun h => by cases h), rfl⟩
def mM_readTested : jm_M := (⟨"WhilePressModel", "readTested", "(I)V"⟩, prog_14_method_42_code, 2, none, 12, 1, 0)
theorem mM_readTested_ok : jm_mok mM_readTested := ⟨jw_s10 117 rfl rfl, jq_12.1, jq_12.2.1, jq_12.2.2, jd_4, Nat.le_of_ble_eq_true rfl, (fun h => by cases h), rfl⟩
def mM_readLeave : jm_M := (⟨"WhilePressModel", "readLeave", "(I)V"⟩, prog_14_method_44_code, 4, none, 12, 1, 0)
theorem mM_readLeave_ok : jm_mok mM_readLeave := ⟨jw_s10 121 rfl rfl, jq_12.1, jq_12.2.1, jq_12.2.2, jd_4, Nat.le_of_ble_eq_true rfl, (fun h => by cases h), rfl⟩
def mM_loop : jm_M := (⟨"WhilePressModel", "loop", "()I"⟩, prog_14_method_43_code, 2, (some .int), 12, 0, 0)
theorem mM_loop_ok : jm_mok mM_loop := ⟨jw_s10 125 rfl rfl, jq_12.1, jq_12.2.1, jq_12.2.2, jd_0, Nat.le_of_ble_eq_true rfl, (fun h => by cases h), rfl⟩
def mM_readTold : jm_M := (⟨"WhilePressModel", "readTold", "(I)V"⟩, prog_14_method_46_code, 2, none, 12, 1, 0)
theorem mM_readTold_ok : jm_mok mM_readTold := ⟨jw_s10 129 rfl rfl, jq_12.1, jq_12.2.1, jq_12.2.2, jd_4, Nat.le_of_ble_eq_true rfl, (fun h => by cases h), rfl⟩
def mM_isInDef : jm_M := (⟨"WhilePressModel", "isInDef", "()Z"⟩, prog_14_method_45_code, 3, (some .boolean), 12, 0, 0)
theorem mM_isInDef_ok : jm_mok mM_isInDef := ⟨jw_s10 133 rfl rfl, jq_12.1, jq_12.2.1, jq_12.2.2, jd_2, Nat.le_of_ble_eq_true rfl, (fun h => by cases h), rfl⟩
def mM_readRead : jm_M := (⟨"WhilePressModel", "readRead", "()V"⟩, prog_14_method_47_code, 3, none, 12, 0, 0)
theorem mM_readRead_ok : jm_mok mM_readRead := ⟨jw_s10 137 rfl rfl, jq_12.1, jq_12.2.1, jq_12.2.2, jd_1, Nat.le_of_ble_eq_true rfl, (fun h => by cases h), rfl⟩
def mM_readOperand : jm_M := (⟨"WhilePressModel", "readOperand", "()V"⟩, prog_14_method_50_code, 6, none, 12, 0, 0)
theorem mM_readOperand_ok : jm_mok mM_readOperand := ⟨jw_s10 141 rfl rfl, jq_12.1, jq_12.2.1, jq_12.2.2, jd_1, Nat.le_of_ble_eq_true rfl, (fun h => by cases h), rfl⟩
def mM_beginAll : jm_M := (⟨"WhilePressModel", "beginAll", "()V"⟩, prog_14_method_49_code, 3, none, 12, 0, 0)
theorem mM_beginAll_ok : jm_mok mM_beginAll := ⟨jw_s10 145 rfl rfl, jq_12.1, jq_12.2.1, jq_12.2.2, jd_1, Nat.le_of_ble_eq_true rfl, (fun h => by cases h), rfl⟩
def mM_readBehind : jm_M := (⟨"WhilePressModel", "readBehind", "()V"⟩, prog_14_method_52_code, 3, none, 12, 0, 0)
theorem mM_readBehind_ok : jm_mok mM_readBehind := ⟨jw_s10 149 rfl rfl, jq_12.1, jq_12.2.1, jq_12.2.2, jd_1, Nat.le_of_ble_eq_true rfl, (fun h => by cases h), rfl⟩
def mM_reduce : jm_M := (⟨"WhilePressModel", "reduce", "()V"⟩, prog_14_method_51_code, 3, none, 12, 0, 0)
theorem mM_reduce_ok : jm_mok mM_reduce := ⟨jw_s10 153 rfl rfl, jq_12.1, jq_12.2.1, jq_12.2.2, jd_1, Nat.le_of_ble_eq_true rfl, (fun h => by cases h), rfl⟩
def mM_operationOf : jm_M := (⟨"WhilePressModel", "operationOf", "(I)I"⟩, prog_14_method_28_code, 1, (some .int), 12, 1, 0)
theorem mM_operationOf_ok : jm_mok mM_operationOf := ⟨jw_s10 156 rfl rfl, jq_12.1, jq_12.2.1, jq_12.2.2, jd_3, Nat.le_of_ble_eq_true rfl, (fun h => by cases h), rfl⟩
def mM_strength : jm_M := (⟨"WhilePressModel", "strength", "(I)I"⟩, prog_14_method_27_code, 1, (some .int), 12, 1, 0)
theorem mM_strength_ok : jm_mok mM_strength := ⟨jw_s10 159 rfl rfl, jq_12.1, jq_12.2.1, jq_12.2.2, jd_3, Nat.le_of_ble_eq_true rfl, (fun h => by cases h), rfl⟩
def mM_endExpr : jm_M := (⟨"WhilePressModel", "endExpr", "()V"⟩, prog_14_method_53_code, 5, none, 12, 0, 0)
theorem mM_endExpr_ok : jm_mok mM_endExpr := ⟨jw_s10 163 rfl rfl, jq_12.1, jq_12.2.1, jq_12.2.2, jd_1, Nat.le_of_ble_eq_true rfl, (fun h => by cases h), rfl⟩
def mM_endStatementExpr : jm_M := (⟨"WhilePressModel", "endStatementExpr", "(II)V"⟩, prog_14_method_54_code, 7, none, 12, 2, 0)
theorem mM_endStatementExpr_ok : jm_mok mM_endStatementExpr := ⟨jw_s10 167 rfl rfl, jq_12.1, jq_12.2.1, jq_12.2.2, jd_8, Nat.le_of_ble_eq_true rfl, (fun h => by cases h), rfl⟩
def mM_statementDone : jm_M := (⟨"WhilePressModel", "statementDone", "()V"⟩, prog_14_method_48_code, 5, none, 12, 0, 0)
theorem mM_statementDone_ok : jm_mok mM_statementDone := ⟨jw_s10 171 rfl rfl, jq_12.1, jq_12.2.1, jq_12.2.2, jd_1, Nat.le_of_ble_eq_true rfl, (fun h => by cases h), rfl⟩
def mM_place : jm_M := (⟨"WhilePressModel", "place", "()I"⟩, prog_14_method_57_code, 1, (some .int), 12, 0, 0)
theorem mM_place_ok : jm_mok mM_place := ⟨jw_s10 175 rfl rfl, jq_12.1, jq_12.2.1, jq_12.2.2, jd_0, Nat.le_of_ble_eq_true rfl, (fun h => by cases h), rfl⟩
def mM_input : jm_M := (⟨"WhilePressModel", "input", "(I)I"⟩, prog_14_method_58_code, 2, (some .int), 12, 1, 0)
theorem mM_input_ok : jm_mok mM_input := ⟨jw_s10 179 rfl rfl, jq_12.1, jq_12.2.1, jq_12.2.2, jd_3, Nat.le_of_ble_eq_true rfl, (fun h => by cases h), rfl⟩
def mM_clear : jm_M := (⟨"WhilePressModel", "clear", "()I"⟩, prog_14_method_59_code, 2, (some .int), 12, 0, 0)
theorem mM_clear_ok : jm_mok mM_clear := ⟨jw_s10 183 rfl rfl, jq_12.1, jq_12.2.1, jq_12.2.2, jd_0, Nat.le_of_ble_eq_true rfl, (fun h => by cases h), rfl⟩
def mM_lower : jm_M := (⟨"WhilePressModel", "lower", "()I"⟩, prog_14_method_73_code, 6, (some .int), 12, 0, 0)
theorem mM_lower_ok : jm_mok mM_lower := ⟨jw_s10 187 rfl rfl, jq_12.1, jq_12.2.1, jq_12.2.2, jd_0, Nat.le_of_ble_eq_true rfl, (fun h => by cases h), rfl⟩
def mM_newRegister : jm_M := (⟨"WhilePressModel", "newRegister", "()I"⟩, prog_14_method_66_code, 1, (some .int), 12, 0, 0)
theorem mM_newRegister_ok : jm_mok mM_newRegister := ⟨jw_s10 191 rfl rfl, jq_12.1, jq_12.2.1, jq_12.2.2, jd_0, Nat.le_of_ble_eq_true rfl, (fun h => by cases h), rfl⟩
def mM_lowerCall : jm_M := (⟨"WhilePressModel", "lowerCall", "(II)V"⟩, prog_14_method_74_code, 6, none, 12, 2, 0)
theorem mM_lowerCall_ok : jm_mok mM_lowerCall := ⟨jw_s10 195 rfl rfl, jq_12.1, jq_12.2.1, jq_12.2.2, jd_8, Nat.le_of_ble_eq_true rfl, (fun h => by cases h), rfl⟩
def mM_lay : jm_M := (⟨"WhilePressModel", "lay", "(II)V"⟩, prog_14_method_69_code, 4, none, 12, 2, 0)
theorem mM_lay_ok : jm_mok mM_lay := ⟨jw_s10 199 rfl rfl, jq_12.1, jq_12.2.1, jq_12.2.2, jd_8, Nat.le_of_ble_eq_true rfl, (fun h => by cases h), rfl⟩
def mM_emit : jm_M := (⟨"WhilePressModel", "emit", "(IIIZIZ)I"⟩, prog_14_method_67_code, 7, (some .int), 12, 6, 0)
theorem mM_emit_ok : jm_mok mM_emit := ⟨jw_s10 203 rfl rfl, jq_12.1, jq_12.2.1, jq_12.2.2, jd_16, Nat.le_of_ble_eq_true rfl, (fun h => by cases h), rfl⟩
def mM_landChain : jm_M := (⟨"WhilePressModel", "landChain", "(I)V"⟩, prog_14_method_71_code, 4, none, 12, 1, 0)
theorem mM_landChain_ok : jm_mok mM_landChain := ⟨jw_s10 207 rfl rfl, jq_12.1, jq_12.2.1, jq_12.2.2, jd_4, Nat.le_of_ble_eq_true rfl, (fun h => by cases h), rfl⟩
def mM_giveOperand : jm_M := (⟨"WhilePressModel", "giveOperand", "(IZ)V"⟩, prog_14_method_68_code, 3, none, 12, 2, 0)
theorem mM_giveOperand_ok : jm_mok mM_giveOperand := ⟨jw_s10 211 rfl rfl, jq_12.1, jq_12.2.1, jq_12.2.2, jd_23, Nat.le_of_ble_eq_true rfl, (fun h => by cases h), rfl⟩
def mM_lowerValue : jm_M := (⟨"WhilePressModel", "lowerValue", "(IIZ)V"⟩, prog_14_method_75_code, 6, none, 12, 3, 0)
theorem mM_lowerValue_ok : jm_mok mM_lowerValue := ⟨jw_s10 215 rfl rfl, jq_12.1, jq_12.2.1, jq_12.2.2, jd_20, Nat.le_of_ble_eq_true rfl, (fun h => by cases h), rfl⟩
def mM_openUp : jm_M := (⟨"WhilePressModel", "openUp", "(III)V"⟩, prog_14_method_70_code, 4, none, 12, 3, 0)
theorem mM_openUp_ok : jm_mok mM_openUp := ⟨jw_s10 219 rfl rfl, jq_12.1, jq_12.2.1, jq_12.2.2, jd_11, Nat.le_of_ble_eq_true rfl, (fun h => by cases h), rfl⟩
def mM_lowerStep : jm_M := (⟨"WhilePressModel", "lowerStep", "(II)V"⟩, prog_14_method_76_code, 12, none, 12, 2, 0)
theorem mM_lowerStep_ok : jm_mok mM_lowerStep := ⟨jw_s10 223 rfl rfl, jq_12.1, jq_12.2.1, jq_12.2.2, jd_8, Nat.le_of_ble_eq_true rfl, (fun h => by cases h), rfl⟩
def mM_loopOpen : jm_M := (⟨"WhilePressModel", "loopOpen", "()I"⟩, prog_14_method_72_code, 2, (some .int), 12, 0, 0)
theorem mM_loopOpen_ok : jm_mok mM_loopOpen := ⟨jw_s10 227 rfl rfl, jq_12.1, jq_12.2.1, jq_12.2.2, jd_0, Nat.le_of_ble_eq_true rfl, (fun h => by cases h), rfl⟩
def mM_improve : jm_M := (⟨"WhilePressModel", "improve", "()I"⟩, prog_14_method_102_code, 3, (some .int), 12, 0, 0)
theorem mM_improve_ok : jm_mok mM_improve := ⟨jw_s10 231 rfl rfl, jq_12.1, jq_12.2.1, jq_12.2.2, jd_0, Nat.le_of_ble_eq_true rfl, (fun h => by cases h), rfl⟩
def mM_putConstants : jm_M := (⟨"WhilePressModel", "putConstants", "(I)V"⟩, prog_14_method_87_code, 6, none, 12, 1, 0)
theorem mM_putConstants_ok : jm_mok mM_putConstants := ⟨jw_s10 235 rfl rfl, jq_12.1, jq_12.2.1, jq_12.2.2, jd_4, Nat.le_of_ble_eq_true rfl, (fun h => by cases h), rfl⟩
def mM_findKnown : jm_M := (⟨"WhilePressModel", "findKnown", "(II)V"⟩, prog_14_method_86_code, 9, none, 12, 2, 0)
theorem mM_findKnown_ok : jm_mok mM_findKnown := ⟨jw_s10 239 rfl rfl, jq_12.1, jq_12.2.1, jq_12.2.2, jd_8, Nat.le_of_ble_eq_true rfl, (fun h => by cases h), rfl⟩
def mM_make : jm_M := (⟨"WhilePressModel", "make", "(II)V"⟩, prog_14_method_84_code, 6, none, 12, 2, 0)
theorem mM_make_ok : jm_mok mM_make := ⟨jw_s11 3 rfl rfl, jq_12.1, jq_12.2.1, jq_12.2.2, jd_8, Nat.le_of_ble_eq_true rfl, (fun h => by cases h), rfl⟩
def mM_isSure : jm_M := (⟨"WhilePressModel", "isSure", "(IIZ)Z"⟩, prog_14_method_82_code, 4, (some .boolean), 12, 3, 0)
theorem mM_isSure_ok : jm_mok mM_isSure := ⟨jw_s11 7 rfl rfl, jq_12.1, jq_12.2.1, jq_12.2.2, jd_21, Nat.le_of_ble_eq_true rfl, (fun h => by cases h), rfl⟩
def mM_whatOf : jm_M := (⟨"WhilePressModel", "whatOf", "(IIZ)I"⟩, prog_14_method_83_code, 4, (some .int), 12, 3, 0)
theorem mM_whatOf_ok : jm_mok mM_whatOf := ⟨jw_s11 11 rfl rfl, jq_12.1, jq_12.2.1, jq_12.2.2, jd_19, Nat.le_of_ble_eq_true rfl, (fun h => by cases h), rfl⟩
def mM_one : jm_M := (⟨"WhilePressModel", "one", "(II)I"⟩, prog_14_method_61_code, 2, (some .int), 12, 2, 0)
theorem mM_one_ok : jm_mok mM_one := ⟨jw_s11 14 rfl rfl, jq_12.1, jq_12.2.1, jq_12.2.2, jd_6, Nat.le_of_ble_eq_true rfl, (fun h => by cases h), rfl⟩
def mM_isByNothing : jm_M := (⟨"WhilePressModel", "isByNothing", "(II)Z"⟩, prog_14_method_62_code, 2, (some .boolean), 12, 2, 0)
theorem mM_isByNothing_ok : jm_mok mM_isByNothing := ⟨jw_s11 17 rfl rfl, jq_12.1, jq_12.2.1, jq_12.2.2, jd_9, Nat.le_of_ble_eq_true rfl, (fun h => by cases h), rfl⟩
def mM_two : jm_M := (⟨"WhilePressModel", "two", "(III)I"⟩, prog_14_method_60_code, 3, (some .int), 12, 3, 0)
theorem mM_two_ok : jm_mok mM_two := ⟨jw_s11 20 rfl rfl, jq_12.1, jq_12.2.1, jq_12.2.2, jd_10, Nat.le_of_ble_eq_true rfl, (fun h => by cases h), rfl⟩
def mM_goesOn : jm_M := (⟨"WhilePressModel", "goesOn", "(I)Z"⟩, prog_14_method_80_code, 2, (some .boolean), 12, 1, 0)
theorem mM_goesOn_ok : jm_mok mM_goesOn := ⟨jw_s11 24 rfl rfl, jq_12.1, jq_12.2.1, jq_12.2.2, jd_5, Nat.le_of_ble_eq_true rfl, (fun h => by cases h), rfl⟩
def mM_flow : jm_M := (⟨"WhilePressModel", "flow", "(III)V"⟩, prog_14_method_85_code, 11, none, 12, 3, 0)
theorem mM_flow_ok : jm_mok mM_flow := ⟨jw_s11 28 rfl rfl, jq_12.1, jq_12.2.1, jq_12.2.2, jd_11, Nat.le_of_ble_eq_true rfl, (fun h => by cases h), rfl⟩
def mM_defines : jm_M := (⟨"WhilePressModel", "defines", "(I)Z"⟩, prog_14_method_77_code, 2, (some .boolean), 12, 1, 0)
theorem mM_defines_ok : jm_mok mM_defines := ⟨jw_s11 32 rfl rfl, jq_12.1, jq_12.2.1, jq_12.2.2, jd_5, Nat.le_of_ble_eq_true rfl, (fun h => by cases h), rfl⟩
def mM_leaps : jm_M := (⟨"WhilePressModel", "leaps", "(I)Z"⟩, prog_14_method_81_code, 2, (some .boolean), 12, 1, 0)
theorem mM_leaps_ok : jm_mok mM_leaps := ⟨jw_s11 36 rfl rfl, jq_12.1, jq_12.2.1, jq_12.2.2, jd_5, Nat.le_of_ble_eq_true rfl, (fun h => by cases h), rfl⟩
def mM_usesA : jm_M := (⟨"WhilePressModel", "usesA", "(I)Z"⟩, prog_14_method_78_code, 3, (some .boolean), 12, 1, 0)
theorem mM_usesA_ok : jm_mok mM_usesA := ⟨jw_s11 40 rfl rfl, jq_12.1, jq_12.2.1, jq_12.2.2, jd_5, Nat.le_of_ble_eq_true rfl, (fun h => by cases h), rfl⟩
def mM_usesB : jm_M := (⟨"WhilePressModel", "usesB", "(I)Z"⟩, prog_14_method_79_code, 3, (some .boolean), 12, 1, 0)
theorem mM_usesB_ok : jm_mok mM_usesB := ⟨jw_s11 44 rfl rfl, jq_12.1, jq_12.2.1, jq_12.2.2, jd_5, Nat.le_of_ble_eq_true rfl, (fun h => by cases h), rfl⟩
def mM_putCopies : jm_M := (⟨"WhilePressModel", "putCopies", "(I)V"⟩, prog_14_method_92_code, 9, none, 12, 1, 0)
theorem mM_putCopies_ok : jm_mok mM_putCopies := ⟨jw_s11 48 rfl rfl, jq_12.1, jq_12.2.1, jq_12.2.2, jd_4, Nat.le_of_ble_eq_true rfl, (fun h => by cases h), rfl⟩
def mM_findHeld : jm_M := (⟨"WhilePressModel", "findHeld", "(I)V"⟩, prog_14_method_91_code, 5, none, 12, 1, 0)
theorem mM_findHeld_ok : jm_mok mM_findHeld := ⟨jw_s11 52 rfl rfl, jq_12.1, jq_12.2.1, jq_12.2.2, jd_4, Nat.le_of_ble_eq_true rfl, (fun h => by cases h), rfl⟩
def mM_isExpr : jm_M := (⟨"WhilePressModel", "isExpr", "(IIIZIZ)Z"⟩, prog_14_method_88_code, 7, (some .boolean), 12, 6, 0)
theorem mM_isExpr_ok : jm_mok mM_isExpr := ⟨jw_s11 56 rfl rfl, jq_12.1, jq_12.2.1, jq_12.2.2, jd_17, Nat.le_of_ble_eq_true rfl, (fun h => by cases h), rfl⟩
def mM_hand : jm_M := (⟨"WhilePressModel", "hand", "(II)V"⟩, prog_14_method_90_code, 10, none, 12, 2, 0)
theorem mM_hand_ok : jm_mok mM_hand := ⟨jw_s11 60 rfl rfl, jq_12.1, jq_12.2.1, jq_12.2.2, jd_8, Nat.le_of_ble_eq_true rfl, (fun h => by cases h), rfl⟩
def mM_has : jm_M := (⟨"WhilePressModel", "has", "(II)Z"⟩, prog_14_method_89_code, 3, (some .boolean), 12, 2, 0)
theorem mM_has_ok : jm_mok mM_has := ⟨jw_s11 64 rfl rfl, jq_12.1, jq_12.2.1, jq_12.2.2, jd_9, Nat.le_of_ble_eq_true rfl, (fun h => by cases h), rfl⟩
def mM_leaveOut : jm_M := (⟨"WhilePressModel", "leaveOut", "()V"⟩, prog_14_method_93_code, 5, none, 12, 0, 0)
theorem mM_leaveOut_ok : jm_mok mM_leaveOut := ⟨jw_s11 68 rfl rfl, jq_12.1, jq_12.2.1, jq_12.2.2, jd_1, Nat.le_of_ble_eq_true rfl, (fun h => by cases h), rfl⟩
def mM_putOutDead : jm_M := (⟨"WhilePressModel", "putOutDead", "(I)V"⟩, prog_14_method_96_code, 5, none, 12, 1, 0)
theorem mM_putOutDead_ok : jm_mok mM_putOutDead := ⟨jw_s11 72 rfl rfl, jq_12.1, jq_12.2.1, jq_12.2.2, jd_4, Nat.le_of_ble_eq_true rfl, (fun h => by cases h), rfl⟩
def mM_findLive : jm_M := (⟨"WhilePressModel", "findLive", "(II)V"⟩, prog_14_method_95_code, 7, none, 12, 2, 0)
theorem mM_findLive_ok : jm_mok mM_findLive := ⟨jw_s11 76 rfl rfl, jq_12.1, jq_12.2.1, jq_12.2.2, jd_8, Nat.le_of_ble_eq_true rfl, (fun h => by cases h), rfl⟩
def mM_isWanted : jm_M := (⟨"WhilePressModel", "isWanted", "(IIII)Z"⟩, prog_14_method_94_code, 6, (some .boolean), 12, 4, 0)
theorem mM_isWanted_ok : jm_mok mM_isWanted := ⟨jw_s11 80 rfl rfl, jq_12.1, jq_12.2.1, jq_12.2.2, jd_13, Nat.le_of_ble_eq_true rfl, (fun h => by cases h), rfl⟩
def mM_isCell : jm_M := (⟨"WhilePressModel", "isCell", "(II)Z"⟩, prog_14_method_64_code, 3, (some .boolean), 12, 2, 0)
theorem mM_isCell_ok : jm_mok mM_isCell := ⟨jw_s11 84 rfl rfl, jq_12.1, jq_12.2.1, jq_12.2.2, jd_9, Nat.le_of_ble_eq_true rfl, (fun h => by cases h), rfl⟩
def mM_putJumps : jm_M := (⟨"WhilePressModel", "putJumps", "()V"⟩, prog_14_method_100_code, 5, none, 12, 0, 0)
theorem mM_putJumps_ok : jm_mok mM_putJumps := ⟨jw_s11 88 rfl rfl, jq_12.1, jq_12.2.1, jq_12.2.2, jd_1, Nat.le_of_ble_eq_true rfl, (fun h => by cases h), rfl⟩
def mM_leaveUnreached : jm_M := (⟨"WhilePressModel", "leaveUnreached", "()V"⟩, prog_14_method_98_code, 2, none, 12, 0, 0)
theorem mM_leaveUnreached_ok : jm_mok mM_leaveUnreached := ⟨jw_s11 92 rfl rfl, jq_12.1, jq_12.2.1, jq_12.2.2, jd_1, Nat.le_of_ble_eq_true rfl, (fun h => by cases h), rfl⟩
def mM_findReached : jm_M := (⟨"WhilePressModel", "findReached", "(I)V"⟩, prog_14_method_97_code, 5, none, 12, 1, 0)
theorem mM_findReached_ok : jm_mok mM_findReached := ⟨jw_s11 96 rfl rfl, jq_12.1, jq_12.2.1, jq_12.2.2, jd_4, Nat.le_of_ble_eq_true rfl, (fun h => by cases h), rfl⟩
def mM_leads : jm_M := (⟨"WhilePressModel", "leads", "(I)I"⟩, prog_14_method_99_code, 3, (some .int), 12, 1, 0)
theorem mM_leads_ok : jm_mok mM_leads := ⟨jw_s11 100 rfl rfl, jq_12.1, jq_12.2.1, jq_12.2.2, jd_3, Nat.le_of_ble_eq_true rfl, (fun h => by cases h), rfl⟩
def mM_findColours : jm_M := (⟨"WhilePressModel", "findColours", "()V"⟩, prog_14_method_101_code, 5, none, 12, 0, 0)
theorem mM_findColours_ok : jm_mok mM_findColours := ⟨jw_s11 104 rfl rfl, jq_12.1, jq_12.2.1, jq_12.2.2, jd_1, Nat.le_of_ble_eq_true rfl, (fun h => by cases h), rfl⟩
def mM_code : jm_M := (⟨"WhilePressModel", "code", "(ZII)I"⟩, prog_14_method_103_code, 5, (some .int), 12, 3, 0)
theorem mM_code_ok : jm_mok mM_code := ⟨jw_s11 108 rfl rfl, jq_12.1, jq_12.2.1, jq_12.2.2, jd_45, Nat.le_of_ble_eq_true rfl, (fun h => by cases h), rfl⟩
def mM_isKnown : jm_M := (⟨"WhilePressModel", "isKnown", "(II)Z"⟩, prog_14_method_105_code, 3, (some .boolean), 12, 2, 0)
theorem mM_isKnown_ok : jm_mok mM_isKnown := ⟨jw_s11 112 rfl rfl, jq_12.1, jq_12.2.1, jq_12.2.2, jd_9, Nat.le_of_ble_eq_true rfl, (fun h => by cases h), rfl⟩
def mM_looksUp : jm_M := (⟨"WhilePressModel", "looksUp", "(II)Z"⟩, prog_14_method_104_code, 3, (some .boolean), 12, 2, 0)
theorem mM_looksUp_ok : jm_mok mM_looksUp := ⟨jw_s11 116 rfl rfl, jq_12.1, jq_12.2.1, jq_12.2.2, jd_9, Nat.le_of_ble_eq_true rfl, (fun h => by cases h), rfl⟩
def mM_known : jm_M := (⟨"WhilePressModel", "known", "(II)I"⟩, prog_14_method_106_code, 3, (some .int), 12, 2, 0)
theorem mM_known_ok : jm_mok mM_known := ⟨jw_s11 120 rfl rfl, jq_12.1, jq_12.2.1, jq_12.2.2, jd_6, Nat.le_of_ble_eq_true rfl, (fun h => by cases h), rfl⟩
def mM_isLive : jm_M := (⟨"WhilePressModel", "isLive", "(ZII)Z"⟩, prog_14_method_107_code, 4, (some .boolean), 12, 3, 0)
theorem mM_isLive_ok : jm_mok mM_isLive := ⟨jw_s11 124 rfl rfl, jq_12.1, jq_12.2.1, jq_12.2.2, jd_47, Nat.le_of_ble_eq_true rfl, (fun h => by cases h), rfl⟩
def mM_colour : jm_M := (⟨"WhilePressModel", "colour", "(I)I"⟩, prog_14_method_108_code, 2, (some .int), 12, 1, 0)
theorem mM_colour_ok : jm_mok mM_colour := ⟨jw_s11 128 rfl rfl, jq_12.1, jq_12.2.1, jq_12.2.2, jd_3, Nat.le_of_ble_eq_true rfl, (fun h => by cases h), rfl⟩
def mM_run : jm_M := (⟨"WhilePressModel", "run", "(II)I"⟩, prog_14_method_113_code, 3, (some .int), 12, 2, 0)
theorem mM_run_ok : jm_mok mM_run := ⟨jw_s11 132 rfl rfl, jq_12.1, jq_12.2.1, jq_12.2.2, jd_6, Nat.le_of_ble_eq_true rfl, (fun h => by cases h), rfl⟩
def mM_beginRun : jm_M := (⟨"WhilePressModel", "beginRun", "()V"⟩, prog_14_method_63_code, 2, none, 12, 0, 0)
theorem mM_beginRun_ok : jm_mok mM_beginRun := ⟨jw_s11 137 rfl rfl, jq_12.1, jq_12.2.1, jq_12.2.2, jd_1, Nat.le_of_ble_eq_true rfl, (fun h => by cases h), rfl⟩
def mM_runText : jm_M := (⟨"WhilePressModel", "runText", "(I)I"⟩, prog_14_method_65_code, 9, (some .int), 12, 1, 0)
theorem mM_runText_ok : jm_mok mM_runText := ⟨jw_s11 141 rfl rfl, jq_12.1, jq_12.2.1, jq_12.2.2, jd_3, Nat.le_of_ble_eq_true rfl, (fun h => by cases h), rfl⟩
def mM_runCode : jm_M := (⟨"WhilePressModel", "runCode", "(II)I"⟩, prog_14_method_112_code, 6, (some .int), 12, 2, 0)
theorem mM_runCode_ok : jm_mok mM_runCode := ⟨jw_s11 145 rfl rfl, jq_12.1, jq_12.2.1, jq_12.2.2, jd_6, Nat.le_of_ble_eq_true rfl, (fun h => by cases h), rfl⟩
def mM_valueA : jm_M := (⟨"WhilePressModel", "valueA", "(I)I"⟩, prog_14_method_110_code, 2, (some .int), 12, 1, 0)
theorem mM_valueA_ok : jm_mok mM_valueA := ⟨jw_s11 149 rfl rfl, jq_12.1, jq_12.2.1, jq_12.2.2, jd_3, Nat.le_of_ble_eq_true rfl, (fun h => by cases h), rfl⟩
def mM_slotOf : jm_M := (⟨"WhilePressModel", "slotOf", "(I)I"⟩, prog_14_method_109_code, 2, (some .int), 12, 1, 0)
theorem mM_slotOf_ok : jm_mok mM_slotOf := ⟨jw_s11 153 rfl rfl, jq_12.1, jq_12.2.1, jq_12.2.2, jd_3, Nat.le_of_ble_eq_true rfl, (fun h => by cases h), rfl⟩
def mM_valueB : jm_M := (⟨"WhilePressModel", "valueB", "(I)I"⟩, prog_14_method_111_code, 2, (some .int), 12, 1, 0)
theorem mM_valueB_ok : jm_mok mM_valueB := ⟨jw_s11 157 rfl rfl, jq_12.1, jq_12.2.1, jq_12.2.2, jd_3, Nat.le_of_ble_eq_true rfl, (fun h => by cases h), rfl⟩
def mM_printed : jm_M := (⟨"WhilePressModel", "printed", "(I)I"⟩, prog_14_method_114_code, 2, (some .int), 12, 1, 0)
theorem mM_printed_ok : jm_mok mM_printed := ⟨jw_s11 161 rfl rfl, jq_12.1, jq_12.2.1, jq_12.2.2, jd_3, Nat.le_of_ble_eq_true rfl, (fun h => by cases h), rfl⟩
def mM_told : jm_M := (⟨"WhilePressModel", "told", "(I)I"⟩, prog_14_method_115_code, 2, (some .int), 12, 1, 0)
theorem mM_told_ok : jm_mok mM_told := ⟨jw_s11 165 rfl rfl, jq_12.1, jq_12.2.1, jq_12.2.2, jd_3, Nat.le_of_ble_eq_true rfl, (fun h => by cases h), rfl⟩
end
section
/-! THE PROGRAM'S TABLES, part c: the pools -/
/-- the links to private members of nest mates: they stay under warmer tables by another law -/
def jn : List Cond := [
  .methodLinkNest "WhilePress" 17 ⟨"WhilePress$Reader", "<init>", "()V"⟩ "WhilePress",
  .methodLinkNest "WhilePress$Reader" 11 ⟨"WhilePress$Words", "<init>", "()V"⟩ "WhilePress",
  .methodLinkNest "WhilePress$Reader" 20 ⟨"WhilePress$Names", "<init>", "()V"⟩ "WhilePress",
  .methodLinkNest "WhilePress" 24 ⟨"WhilePress$Script", "<init>", "()V"⟩ "WhilePress",
  .methodLinkNest "WhilePress" 38 ⟨"WhilePress$Maker", "<init>", "()V"⟩ "WhilePress",
  .methodLinkNest "WhilePress" 45 ⟨"WhilePress$Code", "<init>", "()V"⟩ "WhilePress",
  .methodLinkNest "WhilePress" 52 ⟨"WhilePress$Lives", "<init>", "()V"⟩ "WhilePress",
  .methodLinkNest "WhilePress" 59 ⟨"WhilePress$Knowledge", "<init>", "()V"⟩ "WhilePress",
  .methodLinkNest "WhilePress$Improver" 11 ⟨"WhilePress$Holdings", "<init>", "()V"⟩ "WhilePress",
  .methodLinkNest "WhilePress$Improver" 20 ⟨"WhilePress$Lives", "<init>", "()V"⟩ "WhilePress",
  .fieldLinkNest "WhilePress$Words" 56 "WhilePress" "KEYS" "[J" "WhilePress",
  .fieldLinkNest "WhilePress$Reader" 265 "WhilePress" "STRENGTH" "[I" "WhilePress",
  .methodLinkNest "WhilePress$Knowledge" 110 ⟨"WhilePress", "isDivision", "(I)Z"⟩ "WhilePress",
  .methodLinkNest "WhilePress$Knowledge" 113 ⟨"WhilePress", "work", "(III)I"⟩ "WhilePress",
  .methodLinkNest "WhilePress$Improver" 118 ⟨"WhilePress", "isDivision", "(I)Z"⟩ "WhilePress",
  .methodLinkNest "WhilePress$Improver" 124 ⟨"WhilePress", "work", "(III)I"⟩ "WhilePress",
  .methodLinkNest "WhilePress$Runner" 105 ⟨"WhilePress", "isDivision", "(I)Z"⟩ "WhilePress",
  .methodLinkNest "WhilePress$Runner" 109 ⟨"WhilePress", "work", "(III)I"⟩ "WhilePress",
  .castable "java/lang/IllegalArgumentException" "java/lang/IllegalArgumentException",
  .castable "java/lang/IllegalStateException" "java/lang/IllegalStateException",
  .castable "java/lang/IndexOutOfBoundsException" "java/lang/IndexOutOfBoundsException",
  .declares ⟨"java/lang/RuntimeException", "<init>", "(Ljava/lang/String;)V"⟩,
  .declares ⟨"java/lang/Exception", "<init>", "(Ljava/lang/String;)V"⟩,
  .declares ⟨"java/lang/Throwable", "<init>", "(Ljava/lang/String;)V"⟩]
theorem jn_tbl : ∀ w ∈ jn, w ∈ lw_tbl := by
  have h : jn = ([210, 216, 247, 334, 417, 463, 559, 589, 622, 658, 821, 962, 1343, 1346, 1364, 1365, 1855, 1856, 1053, 1123, 1766, 1055, 1057, 1059] : List Nat).filterMap (fun i => lw_tbl[i]?) := by decide +kernel
  intro w hw
  rw [h] at hw
  obtain ⟨i, -, hi⟩ := List.mem_filterMap.mp hw
  exact List.mem_of_getElem? hi
theorem jn_on : ∀ w ∈ jn, w.onTables = true := by decide +kernel
theorem jn_warm {s U : State} (hW : s.WarmedH U.vm) (h : ∀ w ∈ jn, va_Nw w s) : ∀ w ∈ jn, va_Nw w U := by
  intro w hw
  have hs := h w hw
  simp only [jn, List.mem_cons, List.not_mem_nil, or_false] at hw
  rcases hw with rfl | rfl | rfl | rfl | rfl | rfl | rfl | rfl | rfl | rfl | rfl | rfl | rfl | rfl | rfl | rfl | rfl | rfl | rfl | rfl | rfl | rfl | rfl | rfl
  all_goals first | exact va_Nw.warmM hW hs | exact va_Nw.warmF hW hs | exact va_Nw.warmC hW hs | exact va_Nw.warmD hW hs
/-- the class's String constants -/
def jstr : List (Nat × String) := [(88, "n"), (93, "byte"), (97, "tape"), (147, "nothing read"), (163, "nothing lowered"), (169, "no such code"), (173, "instruction"), (200, "instruction or register"), (216, "nothing improved"), (218, "register"), (226, "input"), (232, "which or fuel"), (234, "nothing to run"), (250, "printed"), (267, "what")]
def jp_F_P (q i : Nat) (r : Nat × Nat × Nat) : Prop := r.1 < 13 ∧ r.2.1 < jp_N r.1 ∧ Cond.fieldLink (jp_O q) i (jp_T r.1 r.2.1).1 (jp_T r.1 r.2.1).2.1 (jp_T r.1 r.2.1).2.2.1 ∈ jw ∧ (r.2.2 = 0 → (jp_T r.1 r.2.1).2.2.2 = false) ∧ (jp_T r.1 r.2.1).1 = jp_C r.1
def jp_F_0 (i : Nat) : Option (Nat × Nat × Nat) := (bif Nat.blt i 149 then (bif Nat.blt i 69 then (bif Nat.blt i 32 then (bif Nat.blt i 25 then (bif Nat.blt i 18 then (bif Nat.beq i 11 then some (0, 0, 1) else none) else (bif Nat.beq i 18 then some (0, 2, 1) else none)) else (bif Nat.blt i 29 then (bif Nat.beq i 25 then some (0, 3, 0) else none) else (bif Nat.beq i 29 then some (0, 4, 0) else none))) else (bif Nat.blt i 46 then (bif Nat.blt i 39 then (bif Nat.beq i 32 then some (0, 6, 0) else none) else (bif Nat.beq i 39 then some (0, 7, 1) else none)) else (bif Nat.blt i 53 then (bif Nat.beq i 46 then some (0, 8, 1) else none) else (bif Nat.blt i 60 then (bif Nat.beq i 53 then some (0, 10, 1) else none) else (bif Nat.beq i 60 then some (0, 11, 1) else none))))) else (bif Nat.blt i 133 then (bif Nat.blt i 79 then (bif Nat.blt i 73 then (bif Nat.beq i 69 then some (0, 13, 1) else none) else (bif Nat.beq i 73 then some (0, 14, 1) else none)) else (bif Nat.blt i 83 then (bif Nat.beq i 79 then some (0, 16, 1) else none) else (bif Nat.beq i 83 then some (0, 1, 0) else none))) else (bif Nat.blt i 138 then (bif Nat.blt i 134 then (bif Nat.beq i 133 then some (8, 6, 0) else none) else (bif Nat.beq i 134 then some (0, 5, 0) else none)) else (bif Nat.blt i 141 then (bif Nat.beq i 138 then some (0, 9, 0) else none) else (bif Nat.blt i 144 then (bif Nat.beq i 141 then some (0, 15, 0) else none) else (bif Nat.beq i 144 then some (8, 9, 0) else none)))))) else (bif Nat.blt i 220 then (bif Nat.blt i 182 then (bif Nat.blt i 176 then (bif Nat.blt i 160 then (bif Nat.beq i 149 then some (0, 12, 0) else none) else (bif Nat.beq i 160 then some (1, 5, 0) else none)) else (bif Nat.blt i 179 then (bif Nat.beq i 176 then some (1, 0, 1) else none) else (bif Nat.beq i 179 then some (1, 1, 1) else none))) else (bif Nat.blt i 188 then (bif Nat.blt i 185 then (bif Nat.beq i 182 then some (1, 2, 1) else none) else (bif Nat.beq i 185 then some (1, 3, 1) else none)) else (bif Nat.blt i 197 then (bif Nat.beq i 188 then some (1, 4, 1) else none) else (bif Nat.blt i 209 then (bif Nat.beq i 197 then some (1, 6, 0) else none) else (bif Nat.beq i 209 then some (3, 2, 1) else none))))) else (bif Nat.blt i 252 then (bif Nat.blt i 228 then (bif Nat.blt i 223 then (bif Nat.beq i 220 then some (5, 5, 1) else none) else (bif Nat.beq i 223 then some (9, 1, 0) else none)) else (bif Nat.blt i 244 then (bif Nat.beq i 228 then some (9, 0, 1) else none) else (bif Nat.blt i 247 then (bif Nat.beq i 244 then some (9, 16, 1) else none) else (bif Nat.beq i 247 then some (9, 3, 0) else none)))) else (bif Nat.blt i 258 then (bif Nat.blt i 255 then (bif Nat.beq i 252 then some (9, 2, 1) else none) else (bif Nat.beq i 255 then some (9, 4, 0) else none)) else (bif Nat.blt i 261 then (bif Nat.beq i 258 then some (9, 5, 0) else none) else (bif Nat.blt i 264 then (bif Nat.beq i 261 then some (5, 6, 0) else none) else (bif Nat.beq i 264 then some (3, 3, 0) else none)))))))
def jp_F_1 (i : Nat) : Option (Nat × Nat × Nat) := (bif Nat.blt i 34 then (bif Nat.blt i 21 then (bif Nat.blt i 15 then (bif Nat.beq i 9 then some (1, 0, 1) else none) else (bif Nat.blt i 18 then (bif Nat.beq i 15 then some (1, 1, 1) else none) else (bif Nat.beq i 18 then some (1, 2, 1) else none))) else (bif Nat.blt i 27 then (bif Nat.blt i 24 then (bif Nat.beq i 21 then some (1, 3, 1) else none) else (bif Nat.beq i 24 then some (1, 4, 1) else none)) else (bif Nat.blt i 30 then (bif Nat.beq i 27 then some (1, 8, 1) else none) else (bif Nat.beq i 30 then some (1, 9, 1) else none)))) else (bif Nat.blt i 43 then (bif Nat.blt i 37 then (bif Nat.beq i 34 then some (1, 10, 1) else none) else (bif Nat.blt i 40 then (bif Nat.beq i 37 then some (1, 11, 1) else none) else (bif Nat.beq i 40 then some (1, 12, 1) else none))) else (bif Nat.blt i 50 then (bif Nat.blt i 46 then (bif Nat.beq i 43 then some (1, 13, 1) else none) else (bif Nat.beq i 46 then some (1, 5, 0) else none)) else (bif Nat.blt i 53 then (bif Nat.beq i 50 then some (1, 6, 0) else none) else (bif Nat.beq i 53 then some (1, 7, 0) else none)))))
def jp_F_2 (i : Nat) : Option (Nat × Nat × Nat) := (bif Nat.blt i 48 then (bif Nat.blt i 24 then (bif Nat.blt i 18 then (bif Nat.blt i 15 then (bif Nat.beq i 9 then some (2, 0, 1) else none) else (bif Nat.beq i 15 then some (2, 1, 1) else none)) else (bif Nat.blt i 21 then (bif Nat.beq i 18 then some (2, 2, 1) else none) else (bif Nat.beq i 21 then some (2, 3, 1) else none))) else (bif Nat.blt i 30 then (bif Nat.blt i 27 then (bif Nat.beq i 24 then some (2, 4, 1) else none) else (bif Nat.beq i 27 then some (2, 5, 1) else none)) else (bif Nat.blt i 34 then (bif Nat.beq i 30 then some (2, 7, 1) else none) else (bif Nat.blt i 37 then (bif Nat.beq i 34 then some (2, 8, 1) else none) else (bif Nat.beq i 37 then some (2, 9, 1) else none))))) else (bif Nat.blt i 78 then (bif Nat.blt i 61 then (bif Nat.blt i 52 then (bif Nat.beq i 48 then some (2, 6, 0) else none) else (bif Nat.beq i 52 then some (1, 6, 0) else none)) else (bif Nat.blt i 62 then (bif Nat.beq i 61 then some (1, 5, 0) else none) else (bif Nat.blt i 66 then (bif Nat.beq i 62 then some (1, 10, 1) else none) else (bif Nat.beq i 66 then some (1, 0, 1) else none)))) else (bif Nat.blt i 91 then (bif Nat.blt i 85 then (bif Nat.beq i 78 then some (1, 9, 1) else none) else (bif Nat.beq i 85 then some (1, 1, 1) else none)) else (bif Nat.blt i 95 then (bif Nat.beq i 91 then some (1, 2, 1) else none) else (bif Nat.blt i 100 then (bif Nat.beq i 95 then some (1, 3, 1) else none) else (bif Nat.beq i 100 then some (1, 4, 1) else none))))))
def jp_F_3 (i : Nat) : Option (Nat × Nat × Nat) := (bif Nat.blt i 96 then (bif Nat.blt i 35 then (bif Nat.blt i 21 then (bif Nat.beq i 12 then some (3, 1, 1) else none) else (bif Nat.blt i 25 then (bif Nat.beq i 21 then some (3, 2, 1) else none) else (bif Nat.beq i 25 then some (3, 0, 1) else none))) else (bif Nat.blt i 67 then (bif Nat.blt i 64 then (bif Nat.beq i 35 then some (3, 3, 0) else none) else (bif Nat.beq i 64 then some (1, 5, 0) else none)) else (bif Nat.blt i 75 then (bif Nat.beq i 67 then some (1, 9, 1) else none) else (bif Nat.beq i 75 then some (4, 1, 1) else none)))) else (bif Nat.blt i 112 then (bif Nat.blt i 100 then (bif Nat.beq i 96 then some (1, 2, 1) else none) else (bif Nat.blt i 109 then (bif Nat.beq i 100 then some (1, 4, 1) else none) else (bif Nat.beq i 109 then some (1, 3, 1) else none))) else (bif Nat.blt i 134 then (bif Nat.blt i 121 then (bif Nat.beq i 112 then some (1, 0, 1) else none) else (bif Nat.beq i 121 then some (1, 1, 1) else none)) else (bif Nat.blt i 163 then (bif Nat.beq i 134 then some (1, 10, 1) else none) else (bif Nat.beq i 163 then some (1, 8, 1) else none)))))
def jp_F_4 (i : Nat) : Option (Nat × Nat × Nat) := (bif Nat.blt i 39 then (bif Nat.blt i 23 then (bif Nat.blt i 16 then (bif Nat.beq i 10 then some (4, 0, 1) else none) else (bif Nat.blt i 20 then (bif Nat.beq i 16 then some (4, 1, 1) else none) else (bif Nat.beq i 20 then some (4, 2, 1) else none))) else (bif Nat.blt i 27 then (bif Nat.beq i 23 then some (4, 3, 1) else none) else (bif Nat.blt i 35 then (bif Nat.beq i 27 then some (4, 5, 1) else none) else (bif Nat.beq i 35 then some (1, 5, 0) else none)))) else (bif Nat.blt i 83 then (bif Nat.blt i 67 then (bif Nat.beq i 39 then some (4, 4, 0) else none) else (bif Nat.blt i 80 then (bif Nat.beq i 67 then some (1, 0, 1) else none) else (bif Nat.beq i 80 then some (1, 1, 1) else none))) else (bif Nat.blt i 101 then (bif Nat.blt i 95 then (bif Nat.beq i 83 then some (1, 6, 0) else none) else (bif Nat.beq i 95 then some (1, 2, 1) else none)) else (bif Nat.blt i 117 then (bif Nat.beq i 101 then some (1, 3, 1) else none) else (bif Nat.beq i 117 then some (1, 9, 1) else none)))))
def jp_F_5 (i : Nat) : Option (Nat × Nat × Nat) := (bif Nat.blt i 39 then (bif Nat.blt i 21 then (bif Nat.blt i 15 then (bif Nat.beq i 9 then some (5, 0, 1) else none) else (bif Nat.blt i 18 then (bif Nat.beq i 15 then some (5, 1, 1) else none) else (bif Nat.beq i 18 then some (5, 2, 1) else none))) else (bif Nat.blt i 25 then (bif Nat.beq i 21 then some (5, 3, 1) else none) else (bif Nat.blt i 28 then (bif Nat.beq i 25 then some (5, 4, 1) else none) else (bif Nat.beq i 28 then some (5, 5, 1) else none)))) else (bif Nat.blt i 77 then (bif Nat.blt i 60 then (bif Nat.beq i 39 then some (1, 5, 0) else none) else (bif Nat.blt i 71 then (bif Nat.beq i 60 then some (1, 1, 1) else none) else (bif Nat.beq i 71 then some (1, 2, 1) else none))) else (bif Nat.blt i 97 then (bif Nat.blt i 84 then (bif Nat.beq i 77 then some (1, 3, 1) else none) else (bif Nat.beq i 84 then some (5, 6, 0) else none)) else (bif Nat.blt i 100 then (bif Nat.beq i 97 then some (1, 6, 0) else none) else (bif Nat.beq i 100 then some (1, 0, 1) else none)))))
def jp_F_6 (i : Nat) : Option (Nat × Nat × Nat) := (bif Nat.blt i 68 then (bif Nat.blt i 30 then (bif Nat.blt i 21 then (bif Nat.blt i 15 then (bif Nat.beq i 9 then some (6, 3, 1) else none) else (bif Nat.blt i 18 then (bif Nat.beq i 15 then some (6, 4, 1) else none) else (bif Nat.beq i 18 then some (6, 5, 1) else none))) else (bif Nat.blt i 24 then (bif Nat.beq i 21 then some (6, 6, 1) else none) else (bif Nat.blt i 27 then (bif Nat.beq i 24 then some (6, 7, 1) else none) else (bif Nat.beq i 27 then some (6, 8, 1) else none)))) else (bif Nat.blt i 40 then (bif Nat.blt i 33 then (bif Nat.beq i 30 then some (6, 10, 1) else none) else (bif Nat.blt i 36 then (bif Nat.beq i 33 then some (6, 11, 1) else none) else (bif Nat.beq i 36 then some (6, 0, 0) else none))) else (bif Nat.blt i 55 then (bif Nat.blt i 44 then (bif Nat.beq i 40 then some (6, 1, 0) else none) else (bif Nat.beq i 44 then some (10, 9, 1) else none)) else (bif Nat.blt i 59 then (bif Nat.beq i 55 then some (6, 9, 0) else none) else (bif Nat.beq i 59 then some (6, 12, 0) else none))))) else (bif Nat.blt i 103 then (bif Nat.blt i 86 then (bif Nat.blt i 75 then (bif Nat.beq i 68 then some (10, 6, 0) else none) else (bif Nat.blt i 78 then (bif Nat.beq i 75 then some (10, 5, 0) else none) else (bif Nat.beq i 78 then some (6, 2, 0) else none))) else (bif Nat.blt i 95 then (bif Nat.blt i 92 then (bif Nat.beq i 86 then some (10, 4, 0) else none) else (bif Nat.beq i 92 then some (10, 0, 1) else none)) else (bif Nat.blt i 102 then (bif Nat.beq i 95 then some (10, 1, 1) else none) else (bif Nat.beq i 102 then some (1, 5, 0) else none)))) else (bif Nat.blt i 157 then (bif Nat.blt i 106 then (bif Nat.beq i 103 then some (1, 1, 1) else none) else (bif Nat.blt i 113 then (bif Nat.beq i 106 then some (10, 2, 1) else none) else (bif Nat.beq i 113 then some (10, 3, 1) else none))) else (bif Nat.blt i 163 then (bif Nat.blt i 160 then (bif Nat.beq i 157 then some (10, 14, 1) else none) else (bif Nat.beq i 160 then some (10, 13, 1) else none)) else (bif Nat.blt i 166 then (bif Nat.beq i 163 then some (10, 11, 1) else none) else (bif Nat.beq i 166 then some (10, 12, 1) else none))))))
def jp_F_7 (i : Nat) : Option (Nat × Nat × Nat) := (bif Nat.blt i 19 then (bif Nat.blt i 15 then (bif Nat.beq i 9 then some (7, 0, 1) else none) else (bif Nat.beq i 15 then some (7, 1, 1) else none)) else (bif Nat.blt i 22 then (bif Nat.beq i 19 then some (7, 2, 1) else none) else (bif Nat.blt i 26 then (bif Nat.beq i 22 then some (7, 3, 0) else none) else (bif Nat.beq i 26 then some (7, 4, 0) else none))))
def jp_F_8 (i : Nat) : Option (Nat × Nat × Nat) := (bif Nat.blt i 87 then (bif Nat.blt i 59 then (bif Nat.blt i 32 then (bif Nat.blt i 25 then (bif Nat.blt i 21 then (bif Nat.beq i 12 then some (8, 0, 1) else none) else (bif Nat.beq i 21 then some (8, 1, 1) else none)) else (bif Nat.blt i 29 then (bif Nat.beq i 25 then some (8, 14, 1) else none) else (bif Nat.beq i 29 then some (8, 15, 1) else none))) else (bif Nat.blt i 38 then (bif Nat.blt i 35 then (bif Nat.beq i 32 then some (8, 16, 1) else none) else (bif Nat.beq i 35 then some (8, 17, 1) else none)) else (bif Nat.blt i 48 then (bif Nat.beq i 38 then some (8, 18, 1) else none) else (bif Nat.blt i 55 then (bif Nat.beq i 48 then some (8, 2, 0) else none) else (bif Nat.beq i 55 then some (8, 3, 0) else none))))) else (bif Nat.blt i 72 then (bif Nat.blt i 66 then (bif Nat.blt i 63 then (bif Nat.beq i 59 then some (8, 4, 0) else none) else (bif Nat.beq i 63 then some (8, 5, 0) else none)) else (bif Nat.blt i 69 then (bif Nat.beq i 66 then some (8, 6, 0) else none) else (bif Nat.beq i 69 then some (8, 7, 0) else none))) else (bif Nat.blt i 78 then (bif Nat.blt i 75 then (bif Nat.beq i 72 then some (8, 8, 0) else none) else (bif Nat.beq i 75 then some (8, 9, 0) else none)) else (bif Nat.blt i 81 then (bif Nat.beq i 78 then some (8, 10, 0) else none) else (bif Nat.blt i 84 then (bif Nat.beq i 81 then some (8, 11, 0) else none) else (bif Nat.beq i 84 then some (8, 12, 0) else none)))))) else (bif Nat.blt i 162 then (bif Nat.blt i 113 then (bif Nat.blt i 97 then (bif Nat.blt i 94 then (bif Nat.beq i 87 then some (8, 13, 0) else none) else (bif Nat.beq i 94 then some (11, 3, 0) else none)) else (bif Nat.blt i 104 then (bif Nat.beq i 97 then some (11, 0, 1) else none) else (bif Nat.beq i 104 then some (11, 1, 1) else none))) else (bif Nat.blt i 155 then (bif Nat.blt i 142 then (bif Nat.beq i 113 then some (11, 2, 1) else none) else (bif Nat.beq i 142 then some (10, 8, 0) else none)) else (bif Nat.blt i 158 then (bif Nat.beq i 155 then some (10, 9, 1) else none) else (bif Nat.blt i 161 then (bif Nat.beq i 158 then some (10, 10, 0) else none) else (bif Nat.beq i 161 then some (7, 3, 0) else none))))) else (bif Nat.blt i 181 then (bif Nat.blt i 171 then (bif Nat.blt i 168 then (bif Nat.beq i 162 then some (7, 4, 0) else none) else (bif Nat.beq i 168 then some (10, 11, 1) else none)) else (bif Nat.blt i 175 then (bif Nat.beq i 171 then some (10, 4, 0) else none) else (bif Nat.blt i 178 then (bif Nat.beq i 175 then some (10, 12, 1) else none) else (bif Nat.beq i 178 then some (10, 13, 1) else none)))) else (bif Nat.blt i 193 then (bif Nat.blt i 184 then (bif Nat.beq i 181 then some (10, 7, 0) else none) else (bif Nat.beq i 184 then some (10, 14, 1) else none)) else (bif Nat.blt i 227 then (bif Nat.beq i 193 then some (10, 5, 0) else none) else (bif Nat.blt i 250 then (bif Nat.beq i 227 then some (10, 1, 1) else none) else (bif Nat.beq i 250 then some (8, 19, 0) else none)))))))
def jp_F_9 (i : Nat) : Option (Nat × Nat × Nat) := (bif Nat.blt i 64 then (bif Nat.blt i 33 then (bif Nat.blt i 21 then (bif Nat.blt i 15 then (bif Nat.beq i 9 then some (9, 0, 1) else none) else (bif Nat.blt i 18 then (bif Nat.beq i 15 then some (9, 2, 1) else none) else (bif Nat.beq i 18 then some (9, 9, 1) else none))) else (bif Nat.blt i 27 then (bif Nat.blt i 24 then (bif Nat.beq i 21 then some (9, 10, 1) else none) else (bif Nat.beq i 24 then some (9, 11, 1) else none)) else (bif Nat.blt i 30 then (bif Nat.beq i 27 then some (9, 13, 1) else none) else (bif Nat.beq i 30 then some (9, 15, 1) else none)))) else (bif Nat.blt i 46 then (bif Nat.blt i 40 then (bif Nat.blt i 36 then (bif Nat.beq i 33 then some (9, 16, 1) else none) else (bif Nat.beq i 36 then some (9, 3, 0) else none)) else (bif Nat.blt i 43 then (bif Nat.beq i 40 then some (9, 4, 0) else none) else (bif Nat.beq i 43 then some (9, 5, 0) else none))) else (bif Nat.blt i 52 then (bif Nat.blt i 49 then (bif Nat.beq i 46 then some (9, 6, 0) else none) else (bif Nat.beq i 49 then some (9, 7, 0) else none)) else (bif Nat.blt i 61 then (bif Nat.beq i 52 then some (9, 8, 0) else none) else (bif Nat.beq i 61 then some (9, 1, 0) else none))))) else (bif Nat.blt i 144 then (bif Nat.blt i 84 then (bif Nat.blt i 76 then (bif Nat.blt i 73 then (bif Nat.beq i 64 then some (10, 5, 0) else none) else (bif Nat.beq i 73 then some (9, 12, 0) else none)) else (bif Nat.blt i 81 then (bif Nat.beq i 76 then some (9, 14, 0) else none) else (bif Nat.beq i 81 then some (10, 4, 0) else none))) else (bif Nat.blt i 116 then (bif Nat.blt i 87 then (bif Nat.beq i 84 then some (10, 0, 1) else none) else (bif Nat.beq i 87 then some (10, 1, 1) else none)) else (bif Nat.blt i 141 then (bif Nat.beq i 116 then some (10, 9, 1) else none) else (bif Nat.beq i 141 then some (10, 14, 1) else none)))) else (bif Nat.blt i 161 then (bif Nat.blt i 150 then (bif Nat.blt i 147 then (bif Nat.beq i 144 then some (10, 13, 1) else none) else (bif Nat.beq i 147 then some (10, 11, 1) else none)) else (bif Nat.blt i 157 then (bif Nat.beq i 150 then some (1, 5, 0) else none) else (bif Nat.beq i 157 then some (1, 0, 1) else none))) else (bif Nat.blt i 177 then (bif Nat.blt i 167 then (bif Nat.beq i 161 then some (1, 2, 1) else none) else (bif Nat.beq i 167 then some (1, 3, 1) else none)) else (bif Nat.blt i 180 then (bif Nat.beq i 177 then some (1, 1, 1) else none) else (bif Nat.beq i 180 then some (1, 8, 1) else none))))))
def jp_F_10 (i : Nat) : Option (Nat × Nat × Nat) := (bif Nat.blt i 33 then (bif Nat.blt i 21 then (bif Nat.blt i 15 then (bif Nat.beq i 9 then some (10, 0, 1) else none) else (bif Nat.blt i 18 then (bif Nat.beq i 15 then some (10, 1, 1) else none) else (bif Nat.beq i 18 then some (10, 2, 1) else none))) else (bif Nat.blt i 27 then (bif Nat.blt i 24 then (bif Nat.beq i 21 then some (10, 3, 1) else none) else (bif Nat.beq i 24 then some (10, 9, 1) else none)) else (bif Nat.blt i 30 then (bif Nat.beq i 27 then some (10, 11, 1) else none) else (bif Nat.beq i 30 then some (10, 12, 1) else none)))) else (bif Nat.blt i 46 then (bif Nat.blt i 39 then (bif Nat.blt i 36 then (bif Nat.beq i 33 then some (10, 13, 1) else none) else (bif Nat.beq i 36 then some (10, 14, 1) else none)) else (bif Nat.blt i 43 then (bif Nat.beq i 39 then some (10, 4, 0) else none) else (bif Nat.beq i 43 then some (10, 5, 0) else none))) else (bif Nat.blt i 52 then (bif Nat.blt i 49 then (bif Nat.beq i 46 then some (10, 6, 0) else none) else (bif Nat.beq i 49 then some (10, 7, 0) else none)) else (bif Nat.blt i 55 then (bif Nat.beq i 52 then some (10, 8, 0) else none) else (bif Nat.beq i 55 then some (10, 10, 0) else none)))))
def jp_F_11 (i : Nat) : Option (Nat × Nat × Nat) := (bif Nat.blt i 22 then (bif Nat.blt i 15 then (bif Nat.beq i 9 then some (11, 0, 1) else none) else (bif Nat.blt i 18 then (bif Nat.beq i 15 then some (11, 1, 1) else none) else (bif Nat.beq i 18 then some (11, 2, 1) else none))) else (bif Nat.blt i 25 then (bif Nat.beq i 22 then some (11, 4, 0) else none) else (bif Nat.blt i 29 then (bif Nat.beq i 25 then some (11, 5, 0) else none) else (bif Nat.beq i 29 then some (11, 3, 0) else none))))
def jp_F_12 (i : Nat) : Option (Nat × Nat × Nat) := (bif Nat.blt i 180 then (bif Nat.blt i 95 then (bif Nat.blt i 53 then (bif Nat.blt i 31 then (bif Nat.blt i 21 then (bif Nat.blt i 13 then (bif Nat.beq i 1 then some (12, 0, 0) else none) else (bif Nat.blt i 17 then (bif Nat.beq i 13 then some (12, 1, 1) else none) else (bif Nat.beq i 17 then some (12, 3, 1) else none))) else (bif Nat.blt i 24 then (bif Nat.beq i 21 then some (12, 4, 1) else none) else (bif Nat.blt i 27 then (bif Nat.beq i 24 then some (12, 5, 1) else none) else (bif Nat.beq i 27 then some (12, 6, 1) else none)))) else (bif Nat.blt i 41 then (bif Nat.blt i 34 then (bif Nat.beq i 31 then some (12, 8, 1) else none) else (bif Nat.blt i 37 then (bif Nat.beq i 34 then some (12, 9, 1) else none) else (bif Nat.beq i 37 then some (12, 10, 1) else none))) else (bif Nat.blt i 47 then (bif Nat.blt i 44 then (bif Nat.beq i 41 then some (12, 11, 1) else none) else (bif Nat.beq i 44 then some (12, 12, 1) else none)) else (bif Nat.blt i 50 then (bif Nat.beq i 47 then some (12, 13, 1) else none) else (bif Nat.beq i 50 then some (12, 14, 1) else none))))) else (bif Nat.blt i 74 then (bif Nat.blt i 62 then (bif Nat.blt i 56 then (bif Nat.beq i 53 then some (12, 15, 1) else none) else (bif Nat.blt i 59 then (bif Nat.beq i 56 then some (12, 16, 1) else none) else (bif Nat.beq i 59 then some (12, 17, 1) else none))) else (bif Nat.blt i 68 then (bif Nat.blt i 65 then (bif Nat.beq i 62 then some (12, 23, 1) else none) else (bif Nat.beq i 65 then some (12, 24, 1) else none)) else (bif Nat.blt i 71 then (bif Nat.beq i 68 then some (12, 25, 1) else none) else (bif Nat.beq i 71 then some (12, 26, 1) else none)))) else (bif Nat.blt i 83 then (bif Nat.blt i 77 then (bif Nat.beq i 74 then some (12, 33, 1) else none) else (bif Nat.blt i 80 then (bif Nat.beq i 77 then some (12, 34, 1) else none) else (bif Nat.beq i 80 then some (12, 35, 1) else none))) else (bif Nat.blt i 89 then (bif Nat.blt i 86 then (bif Nat.beq i 83 then some (12, 36, 1) else none) else (bif Nat.beq i 86 then some (12, 37, 1) else none)) else (bif Nat.blt i 92 then (bif Nat.beq i 89 then some (12, 45, 0) else none) else (bif Nat.beq i 92 then some (12, 47, 1) else none)))))) else (bif Nat.blt i 137 then (bif Nat.blt i 116 then (bif Nat.blt i 104 then (bif Nat.blt i 98 then (bif Nat.beq i 95 then some (12, 48, 1) else none) else (bif Nat.blt i 101 then (bif Nat.beq i 98 then some (12, 49, 1) else none) else (bif Nat.beq i 101 then some (12, 50, 1) else none))) else (bif Nat.blt i 110 then (bif Nat.blt i 107 then (bif Nat.beq i 104 then some (12, 52, 1) else none) else (bif Nat.beq i 107 then some (12, 55, 1) else none)) else (bif Nat.blt i 113 then (bif Nat.beq i 110 then some (12, 58, 1) else none) else (bif Nat.beq i 113 then some (12, 59, 1) else none)))) else (bif Nat.blt i 125 then (bif Nat.blt i 119 then (bif Nat.beq i 116 then some (12, 60, 1) else none) else (bif Nat.blt i 122 then (bif Nat.beq i 119 then some (12, 61, 1) else none) else (bif Nat.beq i 122 then some (12, 62, 1) else none))) else (bif Nat.blt i 131 then (bif Nat.blt i 128 then (bif Nat.beq i 125 then some (12, 63, 1) else none) else (bif Nat.beq i 128 then some (12, 64, 1) else none)) else (bif Nat.blt i 134 then (bif Nat.beq i 131 then some (12, 65, 1) else none) else (bif Nat.beq i 134 then some (12, 66, 1) else none))))) else (bif Nat.blt i 158 then (bif Nat.blt i 146 then (bif Nat.blt i 140 then (bif Nat.beq i 137 then some (12, 67, 1) else none) else (bif Nat.blt i 143 then (bif Nat.beq i 140 then some (12, 68, 1) else none) else (bif Nat.beq i 143 then some (12, 75, 1) else none))) else (bif Nat.blt i 152 then (bif Nat.blt i 149 then (bif Nat.beq i 146 then some (12, 76, 1) else none) else (bif Nat.beq i 149 then some (12, 77, 1) else none)) else (bif Nat.blt i 155 then (bif Nat.beq i 152 then some (12, 79, 1) else none) else (bif Nat.beq i 155 then some (12, 80, 1) else none)))) else (bif Nat.blt i 167 then (bif Nat.blt i 161 then (bif Nat.beq i 158 then some (12, 81, 1) else none) else (bif Nat.blt i 164 then (bif Nat.beq i 161 then some (12, 82, 1) else none) else (bif Nat.beq i 164 then some (12, 84, 1) else none))) else (bif Nat.blt i 174 then (bif Nat.blt i 170 then (bif Nat.beq i 167 then some (12, 85, 1) else none) else (bif Nat.beq i 170 then some (12, 86, 1) else none)) else (bif Nat.blt i 177 then (bif Nat.beq i 174 then some (12, 87, 1) else none) else (bif Nat.beq i 177 then some (12, 88, 1) else none))))))) else (bif Nat.blt i 342 then (bif Nat.blt i 223 then (bif Nat.blt i 201 then (bif Nat.blt i 189 then (bif Nat.blt i 183 then (bif Nat.beq i 180 then some (12, 89, 1) else none) else (bif Nat.blt i 186 then (bif Nat.beq i 183 then some (12, 90, 1) else none) else (bif Nat.beq i 186 then some (12, 94, 1) else none))) else (bif Nat.blt i 195 then (bif Nat.blt i 192 then (bif Nat.beq i 189 then some (12, 95, 1) else none) else (bif Nat.beq i 192 then some (12, 96, 1) else none)) else (bif Nat.blt i 198 then (bif Nat.beq i 195 then some (12, 97, 1) else none) else (bif Nat.beq i 198 then some (12, 98, 1) else none)))) else (bif Nat.blt i 210 then (bif Nat.blt i 204 then (bif Nat.beq i 201 then some (12, 99, 1) else none) else (bif Nat.blt i 207 then (bif Nat.beq i 204 then some (12, 100, 1) else none) else (bif Nat.beq i 207 then some (12, 101, 1) else none))) else (bif Nat.blt i 216 then (bif Nat.blt i 213 then (bif Nat.beq i 210 then some (12, 102, 1) else none) else (bif Nat.beq i 213 then some (12, 103, 1) else none)) else (bif Nat.blt i 220 then (bif Nat.beq i 216 then some (12, 106, 1) else none) else (bif Nat.beq i 220 then some (12, 107, 1) else none))))) else (bif Nat.blt i 307 then (bif Nat.blt i 262 then (bif Nat.blt i 226 then (bif Nat.beq i 223 then some (12, 108, 1) else none) else (bif Nat.blt i 235 then (bif Nat.beq i 226 then some (12, 109, 1) else none) else (bif Nat.beq i 235 then some (12, 2, 0) else none))) else (bif Nat.blt i 297 then (bif Nat.blt i 294 then (bif Nat.beq i 262 then some (12, 7, 0) else none) else (bif Nat.beq i 294 then some (12, 22, 0) else none)) else (bif Nat.blt i 300 then (bif Nat.beq i 297 then some (12, 20, 0) else none) else (bif Nat.beq i 300 then some (12, 21, 0) else none)))) else (bif Nat.blt i 327 then (bif Nat.blt i 310 then (bif Nat.beq i 307 then some (12, 27, 0) else none) else (bif Nat.blt i 320 then (bif Nat.beq i 310 then some (12, 29, 0) else none) else (bif Nat.beq i 320 then some (12, 30, 0) else none))) else (bif Nat.blt i 333 then (bif Nat.blt i 330 then (bif Nat.beq i 327 then some (12, 43, 0) else none) else (bif Nat.beq i 330 then some (12, 44, 0) else none)) else (bif Nat.blt i 336 then (bif Nat.beq i 333 then some (12, 39, 0) else none) else (bif Nat.beq i 336 then some (12, 40, 0) else none)))))) else (bif Nat.blt i 510 then (bif Nat.blt i 464 then (bif Nat.blt i 364 then (bif Nat.blt i 352 then (bif Nat.beq i 342 then some (12, 41, 0) else none) else (bif Nat.blt i 355 then (bif Nat.beq i 352 then some (12, 38, 0) else none) else (bif Nat.beq i 355 then some (12, 28, 0) else none))) else (bif Nat.blt i 399 then (bif Nat.blt i 373 then (bif Nat.beq i 364 then some (12, 31, 0) else none) else (bif Nat.beq i 373 then some (12, 32, 0) else none)) else (bif Nat.blt i 440 then (bif Nat.beq i 399 then some (12, 42, 0) else none) else (bif Nat.beq i 440 then some (12, 46, 0) else none)))) else (bif Nat.blt i 498 then (bif Nat.blt i 488 then (bif Nat.beq i 464 then some (12, 51, 0) else none) else (bif Nat.blt i 494 then (bif Nat.beq i 488 then some (12, 18, 0) else none) else (bif Nat.beq i 494 then some (12, 19, 0) else none))) else (bif Nat.blt i 504 then (bif Nat.blt i 501 then (bif Nat.beq i 498 then some (12, 72, 0) else none) else (bif Nat.beq i 501 then some (12, 73, 0) else none)) else (bif Nat.blt i 507 then (bif Nat.beq i 504 then some (12, 53, 0) else none) else (bif Nat.beq i 507 then some (12, 54, 0) else none))))) else (bif Nat.blt i 578 then (bif Nat.blt i 533 then (bif Nat.blt i 513 then (bif Nat.beq i 510 then some (12, 56, 0) else none) else (bif Nat.blt i 530 then (bif Nat.beq i 513 then some (12, 57, 0) else none) else (bif Nat.beq i 530 then some (12, 71, 0) else none))) else (bif Nat.blt i 539 then (bif Nat.blt i 536 then (bif Nat.beq i 533 then some (12, 74, 0) else none) else (bif Nat.beq i 536 then some (12, 69, 0) else none)) else (bif Nat.blt i 546 then (bif Nat.beq i 539 then some (12, 78, 0) else none) else (bif Nat.beq i 546 then some (12, 83, 0) else none)))) else (bif Nat.blt i 635 then (bif Nat.blt i 581 then (bif Nat.beq i 578 then some (12, 91, 0) else none) else (bif Nat.blt i 613 then (bif Nat.beq i 581 then some (12, 92, 0) else none) else (bif Nat.beq i 613 then some (12, 93, 0) else none))) else (bif Nat.blt i 657 then (bif Nat.blt i 654 then (bif Nat.beq i 635 then some (12, 70, 0) else none) else (bif Nat.beq i 654 then some (12, 105, 0) else none)) else (bif Nat.blt i 678 then (bif Nat.beq i 657 then some (12, 104, 0) else none) else (bif Nat.beq i 678 then some (12, 110, 0) else none))))))))
def jp_F (q i : Nat) : Option (Nat × Nat × Nat) := match q with
  | 0 => jp_F_0 i
  | 1 => jp_F_1 i
  | 2 => jp_F_2 i
  | 3 => jp_F_3 i
  | 4 => jp_F_4 i
  | 5 => jp_F_5 i
  | 6 => jp_F_6 i
  | 7 => jp_F_7 i
  | 8 => jp_F_8 i
  | 9 => jp_F_9 i
  | 10 => jp_F_10 i
  | 11 => jp_F_11 i
  | 12 => jp_F_12 i
  | _ => none
set_option maxRecDepth 20000 in
theorem jp_F_0_ok (i : Nat) : ∀ r, jp_F_0 i = some r → jp_F_P 0 i r := (jt_c (jt_c (jt_c (jt_c (jt_c (jt_l (show jp_F_P 0 11 (0, 0, 1) from ⟨by decide, by decide, jw_s3 92 (by decide +kernel) rfl, (fun h => by cases h), rfl⟩)) (jt_l (show jp_F_P 0 18 (0, 2, 1) from ⟨by decide, by decide, jw_s3 94 (by decide +kernel) rfl, (fun h => by cases h), rfl⟩))) (jt_c (jt_l (show jp_F_P 0 25 (0, 3, 0) from ⟨by decide, by decide, jw_s3 95 (by decide +kernel) rfl, fun _ => rfl, rfl⟩)) (jt_l (show jp_F_P 0 29 (0, 4, 0) from ⟨by decide, by decide, jw_s3 96 (by decide +kernel) rfl, fun _ => rfl, rfl⟩)))) (jt_c (jt_c (jt_l (show jp_F_P 0 32 (0, 6, 0) from ⟨by decide, by decide, jw_s3 98 (by decide +kernel) rfl, fun _ => rfl, rfl⟩)) (jt_l (show jp_F_P 0 39 (0, 7, 1) from ⟨by decide, by decide, jw_s3 99 (by decide +kernel) rfl, (fun h => by cases h), rfl⟩))) (jt_c (jt_l (show jp_F_P 0 46 (0, 8, 1) from ⟨by decide, by decide, jw_s3 100 (by decide +kernel) rfl, (fun h => by cases h), rfl⟩)) (jt_c (jt_l (show jp_F_P 0 53 (0, 10, 1) from ⟨by decide, by decide, jw_s3 102 (by decide +kernel) rfl, (fun h => by cases h), rfl⟩)) (jt_l (show jp_F_P 0 60 (0, 11, 1) from ⟨by decide, by decide, jw_s3 103 (by decide +kernel) rfl, (fun h => by cases h), rfl⟩)))))) (jt_c (jt_c (jt_c (jt_l (show jp_F_P 0 69 (0, 13, 1) from ⟨by decide, by decide, jw_s3 105 (by decide +kernel) rfl, (fun h => by cases h), rfl⟩)) (jt_l (show jp_F_P 0 73 (0, 14, 1) from ⟨by decide, by decide, jw_s3 106 (by decide +kernel) rfl, (fun h => by cases h), rfl⟩))) (jt_c (jt_l (show jp_F_P 0 79 (0, 16, 1) from ⟨by decide, by decide, jw_s3 108 (by decide +kernel) rfl, (fun h => by cases h), rfl⟩)) (jt_l (show jp_F_P 0 83 (0, 1, 0) from ⟨by decide, by decide, jw_s3 93 (by decide +kernel) rfl, fun _ => rfl, rfl⟩)))) (jt_c (jt_c (jt_l (show jp_F_P 0 133 (8, 6, 0) from ⟨by decide, by decide, jw_s1 109 (by decide +kernel) rfl, fun _ => rfl, rfl⟩)) (jt_l (show jp_F_P 0 134 (0, 5, 0) from ⟨by decide, by decide, jw_s3 97 (by decide +kernel) rfl, fun _ => rfl, rfl⟩))) (jt_c (jt_l (show jp_F_P 0 138 (0, 9, 0) from ⟨by decide, by decide, jw_s3 101 (by decide +kernel) rfl, fun _ => rfl, rfl⟩)) (jt_c (jt_l (show jp_F_P 0 141 (0, 15, 0) from ⟨by decide, by decide, jw_s3 107 (by decide +kernel) rfl, fun _ => rfl, rfl⟩)) (jt_l (show jp_F_P 0 144 (8, 9, 0) from ⟨by decide, by decide, jw_s1 113 (by decide +kernel) rfl, fun _ => rfl, rfl⟩))))))) (jt_c (jt_c (jt_c (jt_c (jt_l (show jp_F_P 0 149 (0, 12, 0) from ⟨by decide, by decide, jw_s3 104 (by decide +kernel) rfl, fun _ => rfl, rfl⟩)) (jt_l (show jp_F_P 0 160 (1, 5, 0) from ⟨by decide, by decide, jw_s2 99 (by decide +kernel) rfl, fun _ => rfl, rfl⟩))) (jt_c (jt_l (show jp_F_P 0 176 (1, 0, 1) from ⟨by decide, by decide, jw_s2 65 (by decide +kernel) rfl, (fun h => by cases h), rfl⟩)) (jt_l (show jp_F_P 0 179 (1, 1, 1) from ⟨by decide, by decide, jw_s2 73 (by decide +kernel) rfl, (fun h => by cases h), rfl⟩)))) (jt_c (jt_c (jt_l (show jp_F_P 0 182 (1, 2, 1) from ⟨by decide, by decide, jw_s2 80 (by decide +kernel) rfl, (fun h => by cases h), rfl⟩)) (jt_l (show jp_F_P 0 185 (1, 3, 1) from ⟨by decide, by decide, jw_s2 87 (by decide +kernel) rfl, (fun h => by cases h), rfl⟩))) (jt_c (jt_l (show jp_F_P 0 188 (1, 4, 1) from ⟨by decide, by decide, jw_s2 92 (by decide +kernel) rfl, (fun h => by cases h), rfl⟩)) (jt_c (jt_l (show jp_F_P 0 197 (1, 6, 0) from ⟨by decide, by decide, jw_s2 105 (by decide +kernel) rfl, fun _ => rfl, rfl⟩)) (jt_l (show jp_F_P 0 209 (3, 2, 1) from ⟨by decide, by decide, jw_s3 15 (by decide +kernel) rfl, (fun h => by cases h), rfl⟩)))))) (jt_c (jt_c (jt_c (jt_l (show jp_F_P 0 220 (5, 5, 1) from ⟨by decide, by decide, jw_s2 162 (by decide +kernel) rfl, (fun h => by cases h), rfl⟩)) (jt_l (show jp_F_P 0 223 (9, 1, 0) from ⟨by decide, by decide, jw_s3 36 (by decide +kernel) rfl, fun _ => rfl, rfl⟩))) (jt_c (jt_l (show jp_F_P 0 228 (9, 0, 1) from ⟨by decide, by decide, jw_s3 34 (by decide +kernel) rfl, (fun h => by cases h), rfl⟩)) (jt_c (jt_l (show jp_F_P 0 244 (9, 16, 1) from ⟨by decide, by decide, jw_s3 56 (by decide +kernel) rfl, (fun h => by cases h), rfl⟩)) (jt_l (show jp_F_P 0 247 (9, 3, 0) from ⟨by decide, by decide, jw_s3 40 (by decide +kernel) rfl, fun _ => rfl, rfl⟩))))) (jt_c (jt_c (jt_l (show jp_F_P 0 252 (9, 2, 1) from ⟨by decide, by decide, jw_s3 38 (by decide +kernel) rfl, (fun h => by cases h), rfl⟩)) (jt_l (show jp_F_P 0 255 (9, 4, 0) from ⟨by decide, by decide, jw_s3 42 (by decide +kernel) rfl, fun _ => rfl, rfl⟩))) (jt_c (jt_l (show jp_F_P 0 258 (9, 5, 0) from ⟨by decide, by decide, jw_s3 44 (by decide +kernel) rfl, fun _ => rfl, rfl⟩)) (jt_c (jt_l (show jp_F_P 0 261 (5, 6, 0) from ⟨by decide, by decide, jw_s2 164 (by decide +kernel) rfl, fun _ => rfl, rfl⟩)) (jt_l (show jp_F_P 0 264 (3, 3, 0) from ⟨by decide, by decide, jw_s3 17 (by decide +kernel) rfl, fun _ => rfl, rfl⟩))))))))
set_option maxRecDepth 20000 in
theorem jp_F_1_ok (i : Nat) : ∀ r, jp_F_1 i = some r → jp_F_P 1 i r := (jt_c (jt_c (jt_c (jt_l (show jp_F_P 1 9 (1, 0, 1) from ⟨by decide, by decide, jw_s2 60 (by decide +kernel) rfl, (fun h => by cases h), rfl⟩)) (jt_c (jt_l (show jp_F_P 1 15 (1, 1, 1) from ⟨by decide, by decide, jw_s2 67 (by decide +kernel) rfl, (fun h => by cases h), rfl⟩)) (jt_l (show jp_F_P 1 18 (1, 2, 1) from ⟨by decide, by decide, jw_s2 75 (by decide +kernel) rfl, (fun h => by cases h), rfl⟩)))) (jt_c (jt_c (jt_l (show jp_F_P 1 21 (1, 3, 1) from ⟨by decide, by decide, jw_s2 82 (by decide +kernel) rfl, (fun h => by cases h), rfl⟩)) (jt_l (show jp_F_P 1 24 (1, 4, 1) from ⟨by decide, by decide, jw_s2 89 (by decide +kernel) rfl, (fun h => by cases h), rfl⟩))) (jt_c (jt_l (show jp_F_P 1 27 (1, 8, 1) from ⟨by decide, by decide, jw_s2 107 (by decide +kernel) rfl, (fun h => by cases h), rfl⟩)) (jt_l (show jp_F_P 1 30 (1, 9, 1) from ⟨by decide, by decide, jw_s2 110 (by decide +kernel) rfl, (fun h => by cases h), rfl⟩))))) (jt_c (jt_c (jt_l (show jp_F_P 1 34 (1, 10, 1) from ⟨by decide, by decide, jw_s2 114 (by decide +kernel) rfl, (fun h => by cases h), rfl⟩)) (jt_c (jt_l (show jp_F_P 1 37 (1, 11, 1) from ⟨by decide, by decide, jw_s2 117 (by decide +kernel) rfl, (fun h => by cases h), rfl⟩)) (jt_l (show jp_F_P 1 40 (1, 12, 1) from ⟨by decide, by decide, jw_s2 118 (by decide +kernel) rfl, (fun h => by cases h), rfl⟩)))) (jt_c (jt_c (jt_l (show jp_F_P 1 43 (1, 13, 1) from ⟨by decide, by decide, jw_s2 119 (by decide +kernel) rfl, (fun h => by cases h), rfl⟩)) (jt_l (show jp_F_P 1 46 (1, 5, 0) from ⟨by decide, by decide, jw_s2 93 (by decide +kernel) rfl, fun _ => rfl, rfl⟩))) (jt_c (jt_l (show jp_F_P 1 50 (1, 6, 0) from ⟨by decide, by decide, jw_s2 101 (by decide +kernel) rfl, fun _ => rfl, rfl⟩)) (jt_l (show jp_F_P 1 53 (1, 7, 0) from ⟨by decide, by decide, jw_s2 106 (by decide +kernel) rfl, fun _ => rfl, rfl⟩))))))
set_option maxRecDepth 20000 in
theorem jp_F_2_ok (i : Nat) : ∀ r, jp_F_2 i = some r → jp_F_P 2 i r := (jt_c (jt_c (jt_c (jt_c (jt_l (show jp_F_P 2 9 (2, 0, 1) from ⟨by decide, by decide, jw_s2 219 (by decide +kernel) rfl, (fun h => by cases h), rfl⟩)) (jt_l (show jp_F_P 2 15 (2, 1, 1) from ⟨by decide, by decide, jw_s2 220 (by decide +kernel) rfl, (fun h => by cases h), rfl⟩))) (jt_c (jt_l (show jp_F_P 2 18 (2, 2, 1) from ⟨by decide, by decide, jw_s2 221 (by decide +kernel) rfl, (fun h => by cases h), rfl⟩)) (jt_l (show jp_F_P 2 21 (2, 3, 1) from ⟨by decide, by decide, jw_s2 222 (by decide +kernel) rfl, (fun h => by cases h), rfl⟩)))) (jt_c (jt_c (jt_l (show jp_F_P 2 24 (2, 4, 1) from ⟨by decide, by decide, jw_s2 223 (by decide +kernel) rfl, (fun h => by cases h), rfl⟩)) (jt_l (show jp_F_P 2 27 (2, 5, 1) from ⟨by decide, by decide, jw_s2 224 (by decide +kernel) rfl, (fun h => by cases h), rfl⟩))) (jt_c (jt_l (show jp_F_P 2 30 (2, 7, 1) from ⟨by decide, by decide, jw_s2 226 (by decide +kernel) rfl, (fun h => by cases h), rfl⟩)) (jt_c (jt_l (show jp_F_P 2 34 (2, 8, 1) from ⟨by decide, by decide, jw_s2 227 (by decide +kernel) rfl, (fun h => by cases h), rfl⟩)) (jt_l (show jp_F_P 2 37 (2, 9, 1) from ⟨by decide, by decide, jw_s2 228 (by decide +kernel) rfl, (fun h => by cases h), rfl⟩)))))) (jt_c (jt_c (jt_c (jt_l (show jp_F_P 2 48 (2, 6, 0) from ⟨by decide, by decide, jw_s2 225 (by decide +kernel) rfl, fun _ => rfl, rfl⟩)) (jt_l (show jp_F_P 2 52 (1, 6, 0) from ⟨by decide, by decide, jw_s2 102 (by decide +kernel) rfl, fun _ => rfl, rfl⟩))) (jt_c (jt_l (show jp_F_P 2 61 (1, 5, 0) from ⟨by decide, by decide, jw_s2 96 (by decide +kernel) rfl, fun _ => rfl, rfl⟩)) (jt_c (jt_l (show jp_F_P 2 62 (1, 10, 1) from ⟨by decide, by decide, jw_s2 115 (by decide +kernel) rfl, (fun h => by cases h), rfl⟩)) (jt_l (show jp_F_P 2 66 (1, 0, 1) from ⟨by decide, by decide, jw_s2 61 (by decide +kernel) rfl, (fun h => by cases h), rfl⟩))))) (jt_c (jt_c (jt_l (show jp_F_P 2 78 (1, 9, 1) from ⟨by decide, by decide, jw_s2 111 (by decide +kernel) rfl, (fun h => by cases h), rfl⟩)) (jt_l (show jp_F_P 2 85 (1, 1, 1) from ⟨by decide, by decide, jw_s2 68 (by decide +kernel) rfl, (fun h => by cases h), rfl⟩))) (jt_c (jt_l (show jp_F_P 2 91 (1, 2, 1) from ⟨by decide, by decide, jw_s2 76 (by decide +kernel) rfl, (fun h => by cases h), rfl⟩)) (jt_c (jt_l (show jp_F_P 2 95 (1, 3, 1) from ⟨by decide, by decide, jw_s2 83 (by decide +kernel) rfl, (fun h => by cases h), rfl⟩)) (jt_l (show jp_F_P 2 100 (1, 4, 1) from ⟨by decide, by decide, jw_s2 90 (by decide +kernel) rfl, (fun h => by cases h), rfl⟩)))))))
set_option maxRecDepth 20000 in
theorem jp_F_3_ok (i : Nat) : ∀ r, jp_F_3 i = some r → jp_F_P 3 i r := (jt_c (jt_c (jt_c (jt_l (show jp_F_P 3 12 (3, 1, 1) from ⟨by decide, by decide, jw_s3 13 (by decide +kernel) rfl, (fun h => by cases h), rfl⟩)) (jt_c (jt_l (show jp_F_P 3 21 (3, 2, 1) from ⟨by decide, by decide, jw_s3 14 (by decide +kernel) rfl, (fun h => by cases h), rfl⟩)) (jt_l (show jp_F_P 3 25 (3, 0, 1) from ⟨by decide, by decide, jw_s3 12 (by decide +kernel) rfl, (fun h => by cases h), rfl⟩)))) (jt_c (jt_c (jt_l (show jp_F_P 3 35 (3, 3, 0) from ⟨by decide, by decide, jw_s3 16 (by decide +kernel) rfl, fun _ => rfl, rfl⟩)) (jt_l (show jp_F_P 3 64 (1, 5, 0) from ⟨by decide, by decide, jw_s2 98 (by decide +kernel) rfl, fun _ => rfl, rfl⟩))) (jt_c (jt_l (show jp_F_P 3 67 (1, 9, 1) from ⟨by decide, by decide, jw_s2 112 (by decide +kernel) rfl, (fun h => by cases h), rfl⟩)) (jt_l (show jp_F_P 3 75 (4, 1, 1) from ⟨by decide, by decide, jw_s2 189 (by decide +kernel) rfl, (fun h => by cases h), rfl⟩))))) (jt_c (jt_c (jt_l (show jp_F_P 3 96 (1, 2, 1) from ⟨by decide, by decide, jw_s2 78 (by decide +kernel) rfl, (fun h => by cases h), rfl⟩)) (jt_c (jt_l (show jp_F_P 3 100 (1, 4, 1) from ⟨by decide, by decide, jw_s2 91 (by decide +kernel) rfl, (fun h => by cases h), rfl⟩)) (jt_l (show jp_F_P 3 109 (1, 3, 1) from ⟨by decide, by decide, jw_s2 85 (by decide +kernel) rfl, (fun h => by cases h), rfl⟩)))) (jt_c (jt_c (jt_l (show jp_F_P 3 112 (1, 0, 1) from ⟨by decide, by decide, jw_s2 63 (by decide +kernel) rfl, (fun h => by cases h), rfl⟩)) (jt_l (show jp_F_P 3 121 (1, 1, 1) from ⟨by decide, by decide, jw_s2 72 (by decide +kernel) rfl, (fun h => by cases h), rfl⟩))) (jt_c (jt_l (show jp_F_P 3 134 (1, 10, 1) from ⟨by decide, by decide, jw_s2 116 (by decide +kernel) rfl, (fun h => by cases h), rfl⟩)) (jt_l (show jp_F_P 3 163 (1, 8, 1) from ⟨by decide, by decide, jw_s2 108 (by decide +kernel) rfl, (fun h => by cases h), rfl⟩))))))
set_option maxRecDepth 20000 in
theorem jp_F_4_ok (i : Nat) : ∀ r, jp_F_4 i = some r → jp_F_P 4 i r := (jt_c (jt_c (jt_c (jt_l (show jp_F_P 4 10 (4, 0, 1) from ⟨by decide, by decide, jw_s2 187 (by decide +kernel) rfl, (fun h => by cases h), rfl⟩)) (jt_c (jt_l (show jp_F_P 4 16 (4, 1, 1) from ⟨by decide, by decide, jw_s2 188 (by decide +kernel) rfl, (fun h => by cases h), rfl⟩)) (jt_l (show jp_F_P 4 20 (4, 2, 1) from ⟨by decide, by decide, jw_s2 190 (by decide +kernel) rfl, (fun h => by cases h), rfl⟩)))) (jt_c (jt_l (show jp_F_P 4 23 (4, 3, 1) from ⟨by decide, by decide, jw_s2 191 (by decide +kernel) rfl, (fun h => by cases h), rfl⟩)) (jt_c (jt_l (show jp_F_P 4 27 (4, 5, 1) from ⟨by decide, by decide, jw_s2 193 (by decide +kernel) rfl, (fun h => by cases h), rfl⟩)) (jt_l (show jp_F_P 4 35 (1, 5, 0) from ⟨by decide, by decide, jw_s2 94 (by decide +kernel) rfl, fun _ => rfl, rfl⟩))))) (jt_c (jt_c (jt_l (show jp_F_P 4 39 (4, 4, 0) from ⟨by decide, by decide, jw_s2 192 (by decide +kernel) rfl, fun _ => rfl, rfl⟩)) (jt_c (jt_l (show jp_F_P 4 67 (1, 0, 1) from ⟨by decide, by decide, jw_s2 62 (by decide +kernel) rfl, (fun h => by cases h), rfl⟩)) (jt_l (show jp_F_P 4 80 (1, 1, 1) from ⟨by decide, by decide, jw_s2 71 (by decide +kernel) rfl, (fun h => by cases h), rfl⟩)))) (jt_c (jt_c (jt_l (show jp_F_P 4 83 (1, 6, 0) from ⟨by decide, by decide, jw_s2 103 (by decide +kernel) rfl, fun _ => rfl, rfl⟩)) (jt_l (show jp_F_P 4 95 (1, 2, 1) from ⟨by decide, by decide, jw_s2 79 (by decide +kernel) rfl, (fun h => by cases h), rfl⟩))) (jt_c (jt_l (show jp_F_P 4 101 (1, 3, 1) from ⟨by decide, by decide, jw_s2 86 (by decide +kernel) rfl, (fun h => by cases h), rfl⟩)) (jt_l (show jp_F_P 4 117 (1, 9, 1) from ⟨by decide, by decide, jw_s2 113 (by decide +kernel) rfl, (fun h => by cases h), rfl⟩))))))
set_option maxRecDepth 20000 in
theorem jp_F_5_ok (i : Nat) : ∀ r, jp_F_5 i = some r → jp_F_P 5 i r := (jt_c (jt_c (jt_c (jt_l (show jp_F_P 5 9 (5, 0, 1) from ⟨by decide, by decide, jw_s2 156 (by decide +kernel) rfl, (fun h => by cases h), rfl⟩)) (jt_c (jt_l (show jp_F_P 5 15 (5, 1, 1) from ⟨by decide, by decide, jw_s2 157 (by decide +kernel) rfl, (fun h => by cases h), rfl⟩)) (jt_l (show jp_F_P 5 18 (5, 2, 1) from ⟨by decide, by decide, jw_s2 158 (by decide +kernel) rfl, (fun h => by cases h), rfl⟩)))) (jt_c (jt_l (show jp_F_P 5 21 (5, 3, 1) from ⟨by decide, by decide, jw_s2 159 (by decide +kernel) rfl, (fun h => by cases h), rfl⟩)) (jt_c (jt_l (show jp_F_P 5 25 (5, 4, 1) from ⟨by decide, by decide, jw_s2 160 (by decide +kernel) rfl, (fun h => by cases h), rfl⟩)) (jt_l (show jp_F_P 5 28 (5, 5, 1) from ⟨by decide, by decide, jw_s2 161 (by decide +kernel) rfl, (fun h => by cases h), rfl⟩))))) (jt_c (jt_c (jt_l (show jp_F_P 5 39 (1, 5, 0) from ⟨by decide, by decide, jw_s2 95 (by decide +kernel) rfl, fun _ => rfl, rfl⟩)) (jt_c (jt_l (show jp_F_P 5 60 (1, 1, 1) from ⟨by decide, by decide, jw_s2 69 (by decide +kernel) rfl, (fun h => by cases h), rfl⟩)) (jt_l (show jp_F_P 5 71 (1, 2, 1) from ⟨by decide, by decide, jw_s2 77 (by decide +kernel) rfl, (fun h => by cases h), rfl⟩)))) (jt_c (jt_c (jt_l (show jp_F_P 5 77 (1, 3, 1) from ⟨by decide, by decide, jw_s2 84 (by decide +kernel) rfl, (fun h => by cases h), rfl⟩)) (jt_l (show jp_F_P 5 84 (5, 6, 0) from ⟨by decide, by decide, jw_s2 163 (by decide +kernel) rfl, fun _ => rfl, rfl⟩))) (jt_c (jt_l (show jp_F_P 5 97 (1, 6, 0) from ⟨by decide, by decide, jw_s2 104 (by decide +kernel) rfl, fun _ => rfl, rfl⟩)) (jt_l (show jp_F_P 5 100 (1, 0, 1) from ⟨by decide, by decide, jw_s2 64 (by decide +kernel) rfl, (fun h => by cases h), rfl⟩))))))
set_option maxRecDepth 20000 in
theorem jp_F_6_ok (i : Nat) : ∀ r, jp_F_6 i = some r → jp_F_P 6 i r := (jt_c (jt_c (jt_c (jt_c (jt_l (show jp_F_P 6 9 (6, 3, 1) from ⟨by decide, by decide, jw_s2 17 (by decide +kernel) rfl, (fun h => by cases h), rfl⟩)) (jt_c (jt_l (show jp_F_P 6 15 (6, 4, 1) from ⟨by decide, by decide, jw_s2 18 (by decide +kernel) rfl, (fun h => by cases h), rfl⟩)) (jt_l (show jp_F_P 6 18 (6, 5, 1) from ⟨by decide, by decide, jw_s2 19 (by decide +kernel) rfl, (fun h => by cases h), rfl⟩)))) (jt_c (jt_l (show jp_F_P 6 21 (6, 6, 1) from ⟨by decide, by decide, jw_s2 20 (by decide +kernel) rfl, (fun h => by cases h), rfl⟩)) (jt_c (jt_l (show jp_F_P 6 24 (6, 7, 1) from ⟨by decide, by decide, jw_s2 21 (by decide +kernel) rfl, (fun h => by cases h), rfl⟩)) (jt_l (show jp_F_P 6 27 (6, 8, 1) from ⟨by decide, by decide, jw_s2 22 (by decide +kernel) rfl, (fun h => by cases h), rfl⟩))))) (jt_c (jt_c (jt_l (show jp_F_P 6 30 (6, 10, 1) from ⟨by decide, by decide, jw_s2 24 (by decide +kernel) rfl, (fun h => by cases h), rfl⟩)) (jt_c (jt_l (show jp_F_P 6 33 (6, 11, 1) from ⟨by decide, by decide, jw_s2 25 (by decide +kernel) rfl, (fun h => by cases h), rfl⟩)) (jt_l (show jp_F_P 6 36 (6, 0, 0) from ⟨by decide, by decide, jw_s2 14 (by decide +kernel) rfl, fun _ => rfl, rfl⟩)))) (jt_c (jt_c (jt_l (show jp_F_P 6 40 (6, 1, 0) from ⟨by decide, by decide, jw_s2 15 (by decide +kernel) rfl, fun _ => rfl, rfl⟩)) (jt_l (show jp_F_P 6 44 (10, 9, 1) from ⟨by decide, by decide, jw_s1 197 (by decide +kernel) rfl, (fun h => by cases h), rfl⟩))) (jt_c (jt_l (show jp_F_P 6 55 (6, 9, 0) from ⟨by decide, by decide, jw_s2 23 (by decide +kernel) rfl, fun _ => rfl, rfl⟩)) (jt_l (show jp_F_P 6 59 (6, 12, 0) from ⟨by decide, by decide, jw_s2 26 (by decide +kernel) rfl, fun _ => rfl, rfl⟩)))))) (jt_c (jt_c (jt_c (jt_l (show jp_F_P 6 68 (10, 6, 0) from ⟨by decide, by decide, jw_s1 191 (by decide +kernel) rfl, fun _ => rfl, rfl⟩)) (jt_c (jt_l (show jp_F_P 6 75 (10, 5, 0) from ⟨by decide, by decide, jw_s1 187 (by decide +kernel) rfl, fun _ => rfl, rfl⟩)) (jt_l (show jp_F_P 6 78 (6, 2, 0) from ⟨by decide, by decide, jw_s2 16 (by decide +kernel) rfl, fun _ => rfl, rfl⟩)))) (jt_c (jt_c (jt_l (show jp_F_P 6 86 (10, 4, 0) from ⟨by decide, by decide, jw_s1 183 (by decide +kernel) rfl, fun _ => rfl, rfl⟩)) (jt_l (show jp_F_P 6 92 (10, 0, 1) from ⟨by decide, by decide, jw_s1 172 (by decide +kernel) rfl, (fun h => by cases h), rfl⟩))) (jt_c (jt_l (show jp_F_P 6 95 (10, 1, 1) from ⟨by decide, by decide, jw_s1 175 (by decide +kernel) rfl, (fun h => by cases h), rfl⟩)) (jt_l (show jp_F_P 6 102 (1, 5, 0) from ⟨by decide, by decide, jw_s2 97 (by decide +kernel) rfl, fun _ => rfl, rfl⟩))))) (jt_c (jt_c (jt_l (show jp_F_P 6 103 (1, 1, 1) from ⟨by decide, by decide, jw_s2 70 (by decide +kernel) rfl, (fun h => by cases h), rfl⟩)) (jt_c (jt_l (show jp_F_P 6 106 (10, 2, 1) from ⟨by decide, by decide, jw_s1 179 (by decide +kernel) rfl, (fun h => by cases h), rfl⟩)) (jt_l (show jp_F_P 6 113 (10, 3, 1) from ⟨by decide, by decide, jw_s1 181 (by decide +kernel) rfl, (fun h => by cases h), rfl⟩)))) (jt_c (jt_c (jt_l (show jp_F_P 6 157 (10, 14, 1) from ⟨by decide, by decide, jw_s1 215 (by decide +kernel) rfl, (fun h => by cases h), rfl⟩)) (jt_l (show jp_F_P 6 160 (10, 13, 1) from ⟨by decide, by decide, jw_s1 211 (by decide +kernel) rfl, (fun h => by cases h), rfl⟩))) (jt_c (jt_l (show jp_F_P 6 163 (10, 11, 1) from ⟨by decide, by decide, jw_s1 204 (by decide +kernel) rfl, (fun h => by cases h), rfl⟩)) (jt_l (show jp_F_P 6 166 (10, 12, 1) from ⟨by decide, by decide, jw_s1 207 (by decide +kernel) rfl, (fun h => by cases h), rfl⟩)))))))
set_option maxRecDepth 20000 in
theorem jp_F_7_ok (i : Nat) : ∀ r, jp_F_7 i = some r → jp_F_P 7 i r := (jt_c (jt_c (jt_l (show jp_F_P 7 9 (7, 0, 1) from ⟨by decide, by decide, jw_s1 84 (by decide +kernel) rfl, (fun h => by cases h), rfl⟩)) (jt_l (show jp_F_P 7 15 (7, 1, 1) from ⟨by decide, by decide, jw_s1 85 (by decide +kernel) rfl, (fun h => by cases h), rfl⟩))) (jt_c (jt_l (show jp_F_P 7 19 (7, 2, 1) from ⟨by decide, by decide, jw_s1 86 (by decide +kernel) rfl, (fun h => by cases h), rfl⟩)) (jt_c (jt_l (show jp_F_P 7 22 (7, 3, 0) from ⟨by decide, by decide, jw_s1 87 (by decide +kernel) rfl, fun _ => rfl, rfl⟩)) (jt_l (show jp_F_P 7 26 (7, 4, 0) from ⟨by decide, by decide, jw_s1 89 (by decide +kernel) rfl, fun _ => rfl, rfl⟩)))))
set_option maxRecDepth 20000 in
theorem jp_F_8_ok (i : Nat) : ∀ r, jp_F_8 i = some r → jp_F_P 8 i r := (jt_c (jt_c (jt_c (jt_c (jt_c (jt_l (show jp_F_P 8 12 (8, 0, 1) from ⟨by decide, by decide, jw_s1 102 (by decide +kernel) rfl, (fun h => by cases h), rfl⟩)) (jt_l (show jp_F_P 8 21 (8, 1, 1) from ⟨by decide, by decide, jw_s1 103 (by decide +kernel) rfl, (fun h => by cases h), rfl⟩))) (jt_c (jt_l (show jp_F_P 8 25 (8, 14, 1) from ⟨by decide, by decide, jw_s1 118 (by decide +kernel) rfl, (fun h => by cases h), rfl⟩)) (jt_l (show jp_F_P 8 29 (8, 15, 1) from ⟨by decide, by decide, jw_s1 119 (by decide +kernel) rfl, (fun h => by cases h), rfl⟩)))) (jt_c (jt_c (jt_l (show jp_F_P 8 32 (8, 16, 1) from ⟨by decide, by decide, jw_s1 120 (by decide +kernel) rfl, (fun h => by cases h), rfl⟩)) (jt_l (show jp_F_P 8 35 (8, 17, 1) from ⟨by decide, by decide, jw_s1 121 (by decide +kernel) rfl, (fun h => by cases h), rfl⟩))) (jt_c (jt_l (show jp_F_P 8 38 (8, 18, 1) from ⟨by decide, by decide, jw_s1 122 (by decide +kernel) rfl, (fun h => by cases h), rfl⟩)) (jt_c (jt_l (show jp_F_P 8 48 (8, 2, 0) from ⟨by decide, by decide, jw_s1 104 (by decide +kernel) rfl, fun _ => rfl, rfl⟩)) (jt_l (show jp_F_P 8 55 (8, 3, 0) from ⟨by decide, by decide, jw_s1 105 (by decide +kernel) rfl, fun _ => rfl, rfl⟩)))))) (jt_c (jt_c (jt_c (jt_l (show jp_F_P 8 59 (8, 4, 0) from ⟨by decide, by decide, jw_s1 106 (by decide +kernel) rfl, fun _ => rfl, rfl⟩)) (jt_l (show jp_F_P 8 63 (8, 5, 0) from ⟨by decide, by decide, jw_s1 107 (by decide +kernel) rfl, fun _ => rfl, rfl⟩))) (jt_c (jt_l (show jp_F_P 8 66 (8, 6, 0) from ⟨by decide, by decide, jw_s1 108 (by decide +kernel) rfl, fun _ => rfl, rfl⟩)) (jt_l (show jp_F_P 8 69 (8, 7, 0) from ⟨by decide, by decide, jw_s1 110 (by decide +kernel) rfl, fun _ => rfl, rfl⟩)))) (jt_c (jt_c (jt_l (show jp_F_P 8 72 (8, 8, 0) from ⟨by decide, by decide, jw_s1 111 (by decide +kernel) rfl, fun _ => rfl, rfl⟩)) (jt_l (show jp_F_P 8 75 (8, 9, 0) from ⟨by decide, by decide, jw_s1 112 (by decide +kernel) rfl, fun _ => rfl, rfl⟩))) (jt_c (jt_l (show jp_F_P 8 78 (8, 10, 0) from ⟨by decide, by decide, jw_s1 114 (by decide +kernel) rfl, fun _ => rfl, rfl⟩)) (jt_c (jt_l (show jp_F_P 8 81 (8, 11, 0) from ⟨by decide, by decide, jw_s1 115 (by decide +kernel) rfl, fun _ => rfl, rfl⟩)) (jt_l (show jp_F_P 8 84 (8, 12, 0) from ⟨by decide, by decide, jw_s1 116 (by decide +kernel) rfl, fun _ => rfl, rfl⟩))))))) (jt_c (jt_c (jt_c (jt_c (jt_l (show jp_F_P 8 87 (8, 13, 0) from ⟨by decide, by decide, jw_s1 117 (by decide +kernel) rfl, fun _ => rfl, rfl⟩)) (jt_l (show jp_F_P 8 94 (11, 3, 0) from ⟨by decide, by decide, jw_s1 60 (by decide +kernel) rfl, fun _ => rfl, rfl⟩))) (jt_c (jt_l (show jp_F_P 8 97 (11, 0, 1) from ⟨by decide, by decide, jw_s1 54 (by decide +kernel) rfl, (fun h => by cases h), rfl⟩)) (jt_l (show jp_F_P 8 104 (11, 1, 1) from ⟨by decide, by decide, jw_s1 56 (by decide +kernel) rfl, (fun h => by cases h), rfl⟩)))) (jt_c (jt_c (jt_l (show jp_F_P 8 113 (11, 2, 1) from ⟨by decide, by decide, jw_s1 58 (by decide +kernel) rfl, (fun h => by cases h), rfl⟩)) (jt_l (show jp_F_P 8 142 (10, 8, 0) from ⟨by decide, by decide, jw_s1 195 (by decide +kernel) rfl, fun _ => rfl, rfl⟩))) (jt_c (jt_l (show jp_F_P 8 155 (10, 9, 1) from ⟨by decide, by decide, jw_s1 199 (by decide +kernel) rfl, (fun h => by cases h), rfl⟩)) (jt_c (jt_l (show jp_F_P 8 158 (10, 10, 0) from ⟨by decide, by decide, jw_s1 201 (by decide +kernel) rfl, fun _ => rfl, rfl⟩)) (jt_l (show jp_F_P 8 161 (7, 3, 0) from ⟨by decide, by decide, jw_s1 88 (by decide +kernel) rfl, fun _ => rfl, rfl⟩)))))) (jt_c (jt_c (jt_c (jt_l (show jp_F_P 8 162 (7, 4, 0) from ⟨by decide, by decide, jw_s1 90 (by decide +kernel) rfl, fun _ => rfl, rfl⟩)) (jt_l (show jp_F_P 8 168 (10, 11, 1) from ⟨by decide, by decide, jw_s1 205 (by decide +kernel) rfl, (fun h => by cases h), rfl⟩))) (jt_c (jt_l (show jp_F_P 8 171 (10, 4, 0) from ⟨by decide, by decide, jw_s1 185 (by decide +kernel) rfl, fun _ => rfl, rfl⟩)) (jt_c (jt_l (show jp_F_P 8 175 (10, 12, 1) from ⟨by decide, by decide, jw_s1 208 (by decide +kernel) rfl, (fun h => by cases h), rfl⟩)) (jt_l (show jp_F_P 8 178 (10, 13, 1) from ⟨by decide, by decide, jw_s1 212 (by decide +kernel) rfl, (fun h => by cases h), rfl⟩))))) (jt_c (jt_c (jt_l (show jp_F_P 8 181 (10, 7, 0) from ⟨by decide, by decide, jw_s1 193 (by decide +kernel) rfl, fun _ => rfl, rfl⟩)) (jt_l (show jp_F_P 8 184 (10, 14, 1) from ⟨by decide, by decide, jw_s1 216 (by decide +kernel) rfl, (fun h => by cases h), rfl⟩))) (jt_c (jt_l (show jp_F_P 8 193 (10, 5, 0) from ⟨by decide, by decide, jw_s1 189 (by decide +kernel) rfl, fun _ => rfl, rfl⟩)) (jt_c (jt_l (show jp_F_P 8 227 (10, 1, 1) from ⟨by decide, by decide, jw_s1 177 (by decide +kernel) rfl, (fun h => by cases h), rfl⟩)) (jt_l (show jp_F_P 8 250 (8, 19, 0) from ⟨by decide, by decide, jw_s1 123 (by decide +kernel) rfl, fun _ => rfl, rfl⟩))))))))
set_option maxRecDepth 20000 in
theorem jp_F_9_ok (i : Nat) : ∀ r, jp_F_9 i = some r → jp_F_P 9 i r := (jt_c (jt_c (jt_c (jt_c (jt_l (show jp_F_P 9 9 (9, 0, 1) from ⟨by decide, by decide, jw_s3 33 (by decide +kernel) rfl, (fun h => by cases h), rfl⟩)) (jt_c (jt_l (show jp_F_P 9 15 (9, 2, 1) from ⟨by decide, by decide, jw_s3 37 (by decide +kernel) rfl, (fun h => by cases h), rfl⟩)) (jt_l (show jp_F_P 9 18 (9, 9, 1) from ⟨by decide, by decide, jw_s3 48 (by decide +kernel) rfl, (fun h => by cases h), rfl⟩)))) (jt_c (jt_c (jt_l (show jp_F_P 9 21 (9, 10, 1) from ⟨by decide, by decide, jw_s3 49 (by decide +kernel) rfl, (fun h => by cases h), rfl⟩)) (jt_l (show jp_F_P 9 24 (9, 11, 1) from ⟨by decide, by decide, jw_s3 50 (by decide +kernel) rfl, (fun h => by cases h), rfl⟩))) (jt_c (jt_l (show jp_F_P 9 27 (9, 13, 1) from ⟨by decide, by decide, jw_s3 52 (by decide +kernel) rfl, (fun h => by cases h), rfl⟩)) (jt_l (show jp_F_P 9 30 (9, 15, 1) from ⟨by decide, by decide, jw_s3 54 (by decide +kernel) rfl, (fun h => by cases h), rfl⟩))))) (jt_c (jt_c (jt_c (jt_l (show jp_F_P 9 33 (9, 16, 1) from ⟨by decide, by decide, jw_s3 55 (by decide +kernel) rfl, (fun h => by cases h), rfl⟩)) (jt_l (show jp_F_P 9 36 (9, 3, 0) from ⟨by decide, by decide, jw_s3 39 (by decide +kernel) rfl, fun _ => rfl, rfl⟩))) (jt_c (jt_l (show jp_F_P 9 40 (9, 4, 0) from ⟨by decide, by decide, jw_s3 41 (by decide +kernel) rfl, fun _ => rfl, rfl⟩)) (jt_l (show jp_F_P 9 43 (9, 5, 0) from ⟨by decide, by decide, jw_s3 43 (by decide +kernel) rfl, fun _ => rfl, rfl⟩)))) (jt_c (jt_c (jt_l (show jp_F_P 9 46 (9, 6, 0) from ⟨by decide, by decide, jw_s3 45 (by decide +kernel) rfl, fun _ => rfl, rfl⟩)) (jt_l (show jp_F_P 9 49 (9, 7, 0) from ⟨by decide, by decide, jw_s3 46 (by decide +kernel) rfl, fun _ => rfl, rfl⟩))) (jt_c (jt_l (show jp_F_P 9 52 (9, 8, 0) from ⟨by decide, by decide, jw_s3 47 (by decide +kernel) rfl, fun _ => rfl, rfl⟩)) (jt_l (show jp_F_P 9 61 (9, 1, 0) from ⟨by decide, by decide, jw_s3 35 (by decide +kernel) rfl, fun _ => rfl, rfl⟩)))))) (jt_c (jt_c (jt_c (jt_c (jt_l (show jp_F_P 9 64 (10, 5, 0) from ⟨by decide, by decide, jw_s1 188 (by decide +kernel) rfl, fun _ => rfl, rfl⟩)) (jt_l (show jp_F_P 9 73 (9, 12, 0) from ⟨by decide, by decide, jw_s3 51 (by decide +kernel) rfl, fun _ => rfl, rfl⟩))) (jt_c (jt_l (show jp_F_P 9 76 (9, 14, 0) from ⟨by decide, by decide, jw_s3 53 (by decide +kernel) rfl, fun _ => rfl, rfl⟩)) (jt_l (show jp_F_P 9 81 (10, 4, 0) from ⟨by decide, by decide, jw_s1 184 (by decide +kernel) rfl, fun _ => rfl, rfl⟩)))) (jt_c (jt_c (jt_l (show jp_F_P 9 84 (10, 0, 1) from ⟨by decide, by decide, jw_s1 173 (by decide +kernel) rfl, (fun h => by cases h), rfl⟩)) (jt_l (show jp_F_P 9 87 (10, 1, 1) from ⟨by decide, by decide, jw_s1 176 (by decide +kernel) rfl, (fun h => by cases h), rfl⟩))) (jt_c (jt_l (show jp_F_P 9 116 (10, 9, 1) from ⟨by decide, by decide, jw_s1 198 (by decide +kernel) rfl, (fun h => by cases h), rfl⟩)) (jt_l (show jp_F_P 9 141 (10, 14, 1) from ⟨by decide, by decide, jw_s1 214 (by decide +kernel) rfl, (fun h => by cases h), rfl⟩))))) (jt_c (jt_c (jt_c (jt_l (show jp_F_P 9 144 (10, 13, 1) from ⟨by decide, by decide, jw_s1 210 (by decide +kernel) rfl, (fun h => by cases h), rfl⟩)) (jt_l (show jp_F_P 9 147 (10, 11, 1) from ⟨by decide, by decide, jw_s1 203 (by decide +kernel) rfl, (fun h => by cases h), rfl⟩))) (jt_c (jt_l (show jp_F_P 9 150 (1, 5, 0) from ⟨by decide, by decide, jw_s2 100 (by decide +kernel) rfl, fun _ => rfl, rfl⟩)) (jt_l (show jp_F_P 9 157 (1, 0, 1) from ⟨by decide, by decide, jw_s2 66 (by decide +kernel) rfl, (fun h => by cases h), rfl⟩)))) (jt_c (jt_c (jt_l (show jp_F_P 9 161 (1, 2, 1) from ⟨by decide, by decide, jw_s2 81 (by decide +kernel) rfl, (fun h => by cases h), rfl⟩)) (jt_l (show jp_F_P 9 167 (1, 3, 1) from ⟨by decide, by decide, jw_s2 88 (by decide +kernel) rfl, (fun h => by cases h), rfl⟩))) (jt_c (jt_l (show jp_F_P 9 177 (1, 1, 1) from ⟨by decide, by decide, jw_s2 74 (by decide +kernel) rfl, (fun h => by cases h), rfl⟩)) (jt_l (show jp_F_P 9 180 (1, 8, 1) from ⟨by decide, by decide, jw_s2 109 (by decide +kernel) rfl, (fun h => by cases h), rfl⟩)))))))
set_option maxRecDepth 20000 in
theorem jp_F_10_ok (i : Nat) : ∀ r, jp_F_10 i = some r → jp_F_P 10 i r := (jt_c (jt_c (jt_c (jt_l (show jp_F_P 10 9 (10, 0, 1) from ⟨by decide, by decide, jw_s1 171 (by decide +kernel) rfl, (fun h => by cases h), rfl⟩)) (jt_c (jt_l (show jp_F_P 10 15 (10, 1, 1) from ⟨by decide, by decide, jw_s1 174 (by decide +kernel) rfl, (fun h => by cases h), rfl⟩)) (jt_l (show jp_F_P 10 18 (10, 2, 1) from ⟨by decide, by decide, jw_s1 178 (by decide +kernel) rfl, (fun h => by cases h), rfl⟩)))) (jt_c (jt_c (jt_l (show jp_F_P 10 21 (10, 3, 1) from ⟨by decide, by decide, jw_s1 180 (by decide +kernel) rfl, (fun h => by cases h), rfl⟩)) (jt_l (show jp_F_P 10 24 (10, 9, 1) from ⟨by decide, by decide, jw_s1 196 (by decide +kernel) rfl, (fun h => by cases h), rfl⟩))) (jt_c (jt_l (show jp_F_P 10 27 (10, 11, 1) from ⟨by decide, by decide, jw_s1 202 (by decide +kernel) rfl, (fun h => by cases h), rfl⟩)) (jt_l (show jp_F_P 10 30 (10, 12, 1) from ⟨by decide, by decide, jw_s1 206 (by decide +kernel) rfl, (fun h => by cases h), rfl⟩))))) (jt_c (jt_c (jt_c (jt_l (show jp_F_P 10 33 (10, 13, 1) from ⟨by decide, by decide, jw_s1 209 (by decide +kernel) rfl, (fun h => by cases h), rfl⟩)) (jt_l (show jp_F_P 10 36 (10, 14, 1) from ⟨by decide, by decide, jw_s1 213 (by decide +kernel) rfl, (fun h => by cases h), rfl⟩))) (jt_c (jt_l (show jp_F_P 10 39 (10, 4, 0) from ⟨by decide, by decide, jw_s1 182 (by decide +kernel) rfl, fun _ => rfl, rfl⟩)) (jt_l (show jp_F_P 10 43 (10, 5, 0) from ⟨by decide, by decide, jw_s1 186 (by decide +kernel) rfl, fun _ => rfl, rfl⟩)))) (jt_c (jt_c (jt_l (show jp_F_P 10 46 (10, 6, 0) from ⟨by decide, by decide, jw_s1 190 (by decide +kernel) rfl, fun _ => rfl, rfl⟩)) (jt_l (show jp_F_P 10 49 (10, 7, 0) from ⟨by decide, by decide, jw_s1 192 (by decide +kernel) rfl, fun _ => rfl, rfl⟩))) (jt_c (jt_l (show jp_F_P 10 52 (10, 8, 0) from ⟨by decide, by decide, jw_s1 194 (by decide +kernel) rfl, fun _ => rfl, rfl⟩)) (jt_l (show jp_F_P 10 55 (10, 10, 0) from ⟨by decide, by decide, jw_s1 200 (by decide +kernel) rfl, fun _ => rfl, rfl⟩))))))
set_option maxRecDepth 20000 in
theorem jp_F_11_ok (i : Nat) : ∀ r, jp_F_11 i = some r → jp_F_P 11 i r := (jt_c (jt_c (jt_l (show jp_F_P 11 9 (11, 0, 1) from ⟨by decide, by decide, jw_s1 53 (by decide +kernel) rfl, (fun h => by cases h), rfl⟩)) (jt_c (jt_l (show jp_F_P 11 15 (11, 1, 1) from ⟨by decide, by decide, jw_s1 55 (by decide +kernel) rfl, (fun h => by cases h), rfl⟩)) (jt_l (show jp_F_P 11 18 (11, 2, 1) from ⟨by decide, by decide, jw_s1 57 (by decide +kernel) rfl, (fun h => by cases h), rfl⟩)))) (jt_c (jt_l (show jp_F_P 11 22 (11, 4, 0) from ⟨by decide, by decide, jw_s1 61 (by decide +kernel) rfl, fun _ => rfl, rfl⟩)) (jt_c (jt_l (show jp_F_P 11 25 (11, 5, 0) from ⟨by decide, by decide, jw_s1 62 (by decide +kernel) rfl, fun _ => rfl, rfl⟩)) (jt_l (show jp_F_P 11 29 (11, 3, 0) from ⟨by decide, by decide, jw_s1 59 (by decide +kernel) rfl, fun _ => rfl, rfl⟩)))))
set_option maxRecDepth 20000 in
theorem jp_F_12_ok (i : Nat) : ∀ r, jp_F_12 i = some r → jp_F_P 12 i r := (jt_c (jt_c (jt_c (jt_c (jt_c (jt_c (jt_l (show jp_F_P 12 1 (12, 0, 0) from ⟨by decide, by decide, jw_s8 93 (by decide +kernel) rfl, fun _ => rfl, rfl⟩)) (jt_c (jt_l (show jp_F_P 12 13 (12, 1, 1) from ⟨by decide, by decide, jw_s8 94 (by decide +kernel) rfl, (fun h => by cases h), rfl⟩)) (jt_l (show jp_F_P 12 17 (12, 3, 1) from ⟨by decide, by decide, jw_s8 96 (by decide +kernel) rfl, (fun h => by cases h), rfl⟩)))) (jt_c (jt_l (show jp_F_P 12 21 (12, 4, 1) from ⟨by decide, by decide, jw_s8 97 (by decide +kernel) rfl, (fun h => by cases h), rfl⟩)) (jt_c (jt_l (show jp_F_P 12 24 (12, 5, 1) from ⟨by decide, by decide, jw_s8 98 (by decide +kernel) rfl, (fun h => by cases h), rfl⟩)) (jt_l (show jp_F_P 12 27 (12, 6, 1) from ⟨by decide, by decide, jw_s8 99 (by decide +kernel) rfl, (fun h => by cases h), rfl⟩))))) (jt_c (jt_c (jt_l (show jp_F_P 12 31 (12, 8, 1) from ⟨by decide, by decide, jw_s8 101 (by decide +kernel) rfl, (fun h => by cases h), rfl⟩)) (jt_c (jt_l (show jp_F_P 12 34 (12, 9, 1) from ⟨by decide, by decide, jw_s8 102 (by decide +kernel) rfl, (fun h => by cases h), rfl⟩)) (jt_l (show jp_F_P 12 37 (12, 10, 1) from ⟨by decide, by decide, jw_s8 103 (by decide +kernel) rfl, (fun h => by cases h), rfl⟩)))) (jt_c (jt_c (jt_l (show jp_F_P 12 41 (12, 11, 1) from ⟨by decide, by decide, jw_s8 104 (by decide +kernel) rfl, (fun h => by cases h), rfl⟩)) (jt_l (show jp_F_P 12 44 (12, 12, 1) from ⟨by decide, by decide, jw_s8 105 (by decide +kernel) rfl, (fun h => by cases h), rfl⟩))) (jt_c (jt_l (show jp_F_P 12 47 (12, 13, 1) from ⟨by decide, by decide, jw_s8 106 (by decide +kernel) rfl, (fun h => by cases h), rfl⟩)) (jt_l (show jp_F_P 12 50 (12, 14, 1) from ⟨by decide, by decide, jw_s8 107 (by decide +kernel) rfl, (fun h => by cases h), rfl⟩)))))) (jt_c (jt_c (jt_c (jt_l (show jp_F_P 12 53 (12, 15, 1) from ⟨by decide, by decide, jw_s8 108 (by decide +kernel) rfl, (fun h => by cases h), rfl⟩)) (jt_c (jt_l (show jp_F_P 12 56 (12, 16, 1) from ⟨by decide, by decide, jw_s8 109 (by decide +kernel) rfl, (fun h => by cases h), rfl⟩)) (jt_l (show jp_F_P 12 59 (12, 17, 1) from ⟨by decide, by decide, jw_s8 110 (by decide +kernel) rfl, (fun h => by cases h), rfl⟩)))) (jt_c (jt_c (jt_l (show jp_F_P 12 62 (12, 23, 1) from ⟨by decide, by decide, jw_s8 116 (by decide +kernel) rfl, (fun h => by cases h), rfl⟩)) (jt_l (show jp_F_P 12 65 (12, 24, 1) from ⟨by decide, by decide, jw_s8 117 (by decide +kernel) rfl, (fun h => by cases h), rfl⟩))) (jt_c (jt_l (show jp_F_P 12 68 (12, 25, 1) from ⟨by decide, by decide, jw_s8 118 (by decide +kernel) rfl, (fun h => by cases h), rfl⟩)) (jt_l (show jp_F_P 12 71 (12, 26, 1) from ⟨by decide, by decide, jw_s8 119 (by decide +kernel) rfl, (fun h => by cases h), rfl⟩))))) (jt_c (jt_c (jt_l (show jp_F_P 12 74 (12, 33, 1) from ⟨by decide, by decide, jw_s8 126 (by decide +kernel) rfl, (fun h => by cases h), rfl⟩)) (jt_c (jt_l (show jp_F_P 12 77 (12, 34, 1) from ⟨by decide, by decide, jw_s8 127 (by decide +kernel) rfl, (fun h => by cases h), rfl⟩)) (jt_l (show jp_F_P 12 80 (12, 35, 1) from ⟨by decide, by decide, jw_s8 128 (by decide +kernel) rfl, (fun h => by cases h), rfl⟩)))) (jt_c (jt_c (jt_l (show jp_F_P 12 83 (12, 36, 1) from ⟨by decide, by decide, jw_s8 129 (by decide +kernel) rfl, (fun h => by cases h), rfl⟩)) (jt_l (show jp_F_P 12 86 (12, 37, 1) from ⟨by decide, by decide, jw_s8 130 (by decide +kernel) rfl, (fun h => by cases h), rfl⟩))) (jt_c (jt_l (show jp_F_P 12 89 (12, 45, 0) from ⟨by decide, by decide, jw_s8 138 (by decide +kernel) rfl, fun _ => rfl, rfl⟩)) (jt_l (show jp_F_P 12 92 (12, 47, 1) from ⟨by decide, by decide, jw_s8 140 (by decide +kernel) rfl, (fun h => by cases h), rfl⟩))))))) (jt_c (jt_c (jt_c (jt_c (jt_l (show jp_F_P 12 95 (12, 48, 1) from ⟨by decide, by decide, jw_s8 141 (by decide +kernel) rfl, (fun h => by cases h), rfl⟩)) (jt_c (jt_l (show jp_F_P 12 98 (12, 49, 1) from ⟨by decide, by decide, jw_s8 142 (by decide +kernel) rfl, (fun h => by cases h), rfl⟩)) (jt_l (show jp_F_P 12 101 (12, 50, 1) from ⟨by decide, by decide, jw_s8 143 (by decide +kernel) rfl, (fun h => by cases h), rfl⟩)))) (jt_c (jt_c (jt_l (show jp_F_P 12 104 (12, 52, 1) from ⟨by decide, by decide, jw_s8 145 (by decide +kernel) rfl, (fun h => by cases h), rfl⟩)) (jt_l (show jp_F_P 12 107 (12, 55, 1) from ⟨by decide, by decide, jw_s8 148 (by decide +kernel) rfl, (fun h => by cases h), rfl⟩))) (jt_c (jt_l (show jp_F_P 12 110 (12, 58, 1) from ⟨by decide, by decide, jw_s8 151 (by decide +kernel) rfl, (fun h => by cases h), rfl⟩)) (jt_l (show jp_F_P 12 113 (12, 59, 1) from ⟨by decide, by decide, jw_s8 152 (by decide +kernel) rfl, (fun h => by cases h), rfl⟩))))) (jt_c (jt_c (jt_l (show jp_F_P 12 116 (12, 60, 1) from ⟨by decide, by decide, jw_s8 153 (by decide +kernel) rfl, (fun h => by cases h), rfl⟩)) (jt_c (jt_l (show jp_F_P 12 119 (12, 61, 1) from ⟨by decide, by decide, jw_s8 154 (by decide +kernel) rfl, (fun h => by cases h), rfl⟩)) (jt_l (show jp_F_P 12 122 (12, 62, 1) from ⟨by decide, by decide, jw_s8 155 (by decide +kernel) rfl, (fun h => by cases h), rfl⟩)))) (jt_c (jt_c (jt_l (show jp_F_P 12 125 (12, 63, 1) from ⟨by decide, by decide, jw_s8 156 (by decide +kernel) rfl, (fun h => by cases h), rfl⟩)) (jt_l (show jp_F_P 12 128 (12, 64, 1) from ⟨by decide, by decide, jw_s8 157 (by decide +kernel) rfl, (fun h => by cases h), rfl⟩))) (jt_c (jt_l (show jp_F_P 12 131 (12, 65, 1) from ⟨by decide, by decide, jw_s8 158 (by decide +kernel) rfl, (fun h => by cases h), rfl⟩)) (jt_l (show jp_F_P 12 134 (12, 66, 1) from ⟨by decide, by decide, jw_s8 159 (by decide +kernel) rfl, (fun h => by cases h), rfl⟩)))))) (jt_c (jt_c (jt_c (jt_l (show jp_F_P 12 137 (12, 67, 1) from ⟨by decide, by decide, jw_s8 160 (by decide +kernel) rfl, (fun h => by cases h), rfl⟩)) (jt_c (jt_l (show jp_F_P 12 140 (12, 68, 1) from ⟨by decide, by decide, jw_s8 161 (by decide +kernel) rfl, (fun h => by cases h), rfl⟩)) (jt_l (show jp_F_P 12 143 (12, 75, 1) from ⟨by decide, by decide, jw_s8 168 (by decide +kernel) rfl, (fun h => by cases h), rfl⟩)))) (jt_c (jt_c (jt_l (show jp_F_P 12 146 (12, 76, 1) from ⟨by decide, by decide, jw_s8 169 (by decide +kernel) rfl, (fun h => by cases h), rfl⟩)) (jt_l (show jp_F_P 12 149 (12, 77, 1) from ⟨by decide, by decide, jw_s8 170 (by decide +kernel) rfl, (fun h => by cases h), rfl⟩))) (jt_c (jt_l (show jp_F_P 12 152 (12, 79, 1) from ⟨by decide, by decide, jw_s8 172 (by decide +kernel) rfl, (fun h => by cases h), rfl⟩)) (jt_l (show jp_F_P 12 155 (12, 80, 1) from ⟨by decide, by decide, jw_s8 173 (by decide +kernel) rfl, (fun h => by cases h), rfl⟩))))) (jt_c (jt_c (jt_l (show jp_F_P 12 158 (12, 81, 1) from ⟨by decide, by decide, jw_s8 174 (by decide +kernel) rfl, (fun h => by cases h), rfl⟩)) (jt_c (jt_l (show jp_F_P 12 161 (12, 82, 1) from ⟨by decide, by decide, jw_s8 175 (by decide +kernel) rfl, (fun h => by cases h), rfl⟩)) (jt_l (show jp_F_P 12 164 (12, 84, 1) from ⟨by decide, by decide, jw_s8 177 (by decide +kernel) rfl, (fun h => by cases h), rfl⟩)))) (jt_c (jt_c (jt_l (show jp_F_P 12 167 (12, 85, 1) from ⟨by decide, by decide, jw_s8 178 (by decide +kernel) rfl, (fun h => by cases h), rfl⟩)) (jt_l (show jp_F_P 12 170 (12, 86, 1) from ⟨by decide, by decide, jw_s8 179 (by decide +kernel) rfl, (fun h => by cases h), rfl⟩))) (jt_c (jt_l (show jp_F_P 12 174 (12, 87, 1) from ⟨by decide, by decide, jw_s8 180 (by decide +kernel) rfl, (fun h => by cases h), rfl⟩)) (jt_l (show jp_F_P 12 177 (12, 88, 1) from ⟨by decide, by decide, jw_s8 181 (by decide +kernel) rfl, (fun h => by cases h), rfl⟩)))))))) (jt_c (jt_c (jt_c (jt_c (jt_c (jt_l (show jp_F_P 12 180 (12, 89, 1) from ⟨by decide, by decide, jw_s8 182 (by decide +kernel) rfl, (fun h => by cases h), rfl⟩)) (jt_c (jt_l (show jp_F_P 12 183 (12, 90, 1) from ⟨by decide, by decide, jw_s8 183 (by decide +kernel) rfl, (fun h => by cases h), rfl⟩)) (jt_l (show jp_F_P 12 186 (12, 94, 1) from ⟨by decide, by decide, jw_s8 187 (by decide +kernel) rfl, (fun h => by cases h), rfl⟩)))) (jt_c (jt_c (jt_l (show jp_F_P 12 189 (12, 95, 1) from ⟨by decide, by decide, jw_s8 188 (by decide +kernel) rfl, (fun h => by cases h), rfl⟩)) (jt_l (show jp_F_P 12 192 (12, 96, 1) from ⟨by decide, by decide, jw_s8 189 (by decide +kernel) rfl, (fun h => by cases h), rfl⟩))) (jt_c (jt_l (show jp_F_P 12 195 (12, 97, 1) from ⟨by decide, by decide, jw_s8 190 (by decide +kernel) rfl, (fun h => by cases h), rfl⟩)) (jt_l (show jp_F_P 12 198 (12, 98, 1) from ⟨by decide, by decide, jw_s8 191 (by decide +kernel) rfl, (fun h => by cases h), rfl⟩))))) (jt_c (jt_c (jt_l (show jp_F_P 12 201 (12, 99, 1) from ⟨by decide, by decide, jw_s8 192 (by decide +kernel) rfl, (fun h => by cases h), rfl⟩)) (jt_c (jt_l (show jp_F_P 12 204 (12, 100, 1) from ⟨by decide, by decide, jw_s8 193 (by decide +kernel) rfl, (fun h => by cases h), rfl⟩)) (jt_l (show jp_F_P 12 207 (12, 101, 1) from ⟨by decide, by decide, jw_s8 194 (by decide +kernel) rfl, (fun h => by cases h), rfl⟩)))) (jt_c (jt_c (jt_l (show jp_F_P 12 210 (12, 102, 1) from ⟨by decide, by decide, jw_s8 195 (by decide +kernel) rfl, (fun h => by cases h), rfl⟩)) (jt_l (show jp_F_P 12 213 (12, 103, 1) from ⟨by decide, by decide, jw_s8 196 (by decide +kernel) rfl, (fun h => by cases h), rfl⟩))) (jt_c (jt_l (show jp_F_P 12 216 (12, 106, 1) from ⟨by decide, by decide, jw_s8 199 (by decide +kernel) rfl, (fun h => by cases h), rfl⟩)) (jt_l (show jp_F_P 12 220 (12, 107, 1) from ⟨by decide, by decide, jw_s8 200 (by decide +kernel) rfl, (fun h => by cases h), rfl⟩)))))) (jt_c (jt_c (jt_c (jt_l (show jp_F_P 12 223 (12, 108, 1) from ⟨by decide, by decide, jw_s8 201 (by decide +kernel) rfl, (fun h => by cases h), rfl⟩)) (jt_c (jt_l (show jp_F_P 12 226 (12, 109, 1) from ⟨by decide, by decide, jw_s8 202 (by decide +kernel) rfl, (fun h => by cases h), rfl⟩)) (jt_l (show jp_F_P 12 235 (12, 2, 0) from ⟨by decide, by decide, jw_s8 95 (by decide +kernel) rfl, fun _ => rfl, rfl⟩)))) (jt_c (jt_c (jt_l (show jp_F_P 12 262 (12, 7, 0) from ⟨by decide, by decide, jw_s8 100 (by decide +kernel) rfl, fun _ => rfl, rfl⟩)) (jt_l (show jp_F_P 12 294 (12, 22, 0) from ⟨by decide, by decide, jw_s8 115 (by decide +kernel) rfl, fun _ => rfl, rfl⟩))) (jt_c (jt_l (show jp_F_P 12 297 (12, 20, 0) from ⟨by decide, by decide, jw_s8 113 (by decide +kernel) rfl, fun _ => rfl, rfl⟩)) (jt_l (show jp_F_P 12 300 (12, 21, 0) from ⟨by decide, by decide, jw_s8 114 (by decide +kernel) rfl, fun _ => rfl, rfl⟩))))) (jt_c (jt_c (jt_l (show jp_F_P 12 307 (12, 27, 0) from ⟨by decide, by decide, jw_s8 120 (by decide +kernel) rfl, fun _ => rfl, rfl⟩)) (jt_c (jt_l (show jp_F_P 12 310 (12, 29, 0) from ⟨by decide, by decide, jw_s8 122 (by decide +kernel) rfl, fun _ => rfl, rfl⟩)) (jt_l (show jp_F_P 12 320 (12, 30, 0) from ⟨by decide, by decide, jw_s8 123 (by decide +kernel) rfl, fun _ => rfl, rfl⟩)))) (jt_c (jt_c (jt_l (show jp_F_P 12 327 (12, 43, 0) from ⟨by decide, by decide, jw_s8 136 (by decide +kernel) rfl, fun _ => rfl, rfl⟩)) (jt_l (show jp_F_P 12 330 (12, 44, 0) from ⟨by decide, by decide, jw_s8 137 (by decide +kernel) rfl, fun _ => rfl, rfl⟩))) (jt_c (jt_l (show jp_F_P 12 333 (12, 39, 0) from ⟨by decide, by decide, jw_s8 132 (by decide +kernel) rfl, fun _ => rfl, rfl⟩)) (jt_l (show jp_F_P 12 336 (12, 40, 0) from ⟨by decide, by decide, jw_s8 133 (by decide +kernel) rfl, fun _ => rfl, rfl⟩))))))) (jt_c (jt_c (jt_c (jt_c (jt_l (show jp_F_P 12 342 (12, 41, 0) from ⟨by decide, by decide, jw_s8 134 (by decide +kernel) rfl, fun _ => rfl, rfl⟩)) (jt_c (jt_l (show jp_F_P 12 352 (12, 38, 0) from ⟨by decide, by decide, jw_s8 131 (by decide +kernel) rfl, fun _ => rfl, rfl⟩)) (jt_l (show jp_F_P 12 355 (12, 28, 0) from ⟨by decide, by decide, jw_s8 121 (by decide +kernel) rfl, fun _ => rfl, rfl⟩)))) (jt_c (jt_c (jt_l (show jp_F_P 12 364 (12, 31, 0) from ⟨by decide, by decide, jw_s8 124 (by decide +kernel) rfl, fun _ => rfl, rfl⟩)) (jt_l (show jp_F_P 12 373 (12, 32, 0) from ⟨by decide, by decide, jw_s8 125 (by decide +kernel) rfl, fun _ => rfl, rfl⟩))) (jt_c (jt_l (show jp_F_P 12 399 (12, 42, 0) from ⟨by decide, by decide, jw_s8 135 (by decide +kernel) rfl, fun _ => rfl, rfl⟩)) (jt_l (show jp_F_P 12 440 (12, 46, 0) from ⟨by decide, by decide, jw_s8 139 (by decide +kernel) rfl, fun _ => rfl, rfl⟩))))) (jt_c (jt_c (jt_l (show jp_F_P 12 464 (12, 51, 0) from ⟨by decide, by decide, jw_s8 144 (by decide +kernel) rfl, fun _ => rfl, rfl⟩)) (jt_c (jt_l (show jp_F_P 12 488 (12, 18, 0) from ⟨by decide, by decide, jw_s8 111 (by decide +kernel) rfl, fun _ => rfl, rfl⟩)) (jt_l (show jp_F_P 12 494 (12, 19, 0) from ⟨by decide, by decide, jw_s8 112 (by decide +kernel) rfl, fun _ => rfl, rfl⟩)))) (jt_c (jt_c (jt_l (show jp_F_P 12 498 (12, 72, 0) from ⟨by decide, by decide, jw_s8 165 (by decide +kernel) rfl, fun _ => rfl, rfl⟩)) (jt_l (show jp_F_P 12 501 (12, 73, 0) from ⟨by decide, by decide, jw_s8 166 (by decide +kernel) rfl, fun _ => rfl, rfl⟩))) (jt_c (jt_l (show jp_F_P 12 504 (12, 53, 0) from ⟨by decide, by decide, jw_s8 146 (by decide +kernel) rfl, fun _ => rfl, rfl⟩)) (jt_l (show jp_F_P 12 507 (12, 54, 0) from ⟨by decide, by decide, jw_s8 147 (by decide +kernel) rfl, fun _ => rfl, rfl⟩)))))) (jt_c (jt_c (jt_c (jt_l (show jp_F_P 12 510 (12, 56, 0) from ⟨by decide, by decide, jw_s8 149 (by decide +kernel) rfl, fun _ => rfl, rfl⟩)) (jt_c (jt_l (show jp_F_P 12 513 (12, 57, 0) from ⟨by decide, by decide, jw_s8 150 (by decide +kernel) rfl, fun _ => rfl, rfl⟩)) (jt_l (show jp_F_P 12 530 (12, 71, 0) from ⟨by decide, by decide, jw_s8 164 (by decide +kernel) rfl, fun _ => rfl, rfl⟩)))) (jt_c (jt_c (jt_l (show jp_F_P 12 533 (12, 74, 0) from ⟨by decide, by decide, jw_s8 167 (by decide +kernel) rfl, fun _ => rfl, rfl⟩)) (jt_l (show jp_F_P 12 536 (12, 69, 0) from ⟨by decide, by decide, jw_s8 162 (by decide +kernel) rfl, fun _ => rfl, rfl⟩))) (jt_c (jt_l (show jp_F_P 12 539 (12, 78, 0) from ⟨by decide, by decide, jw_s8 171 (by decide +kernel) rfl, fun _ => rfl, rfl⟩)) (jt_l (show jp_F_P 12 546 (12, 83, 0) from ⟨by decide, by decide, jw_s8 176 (by decide +kernel) rfl, fun _ => rfl, rfl⟩))))) (jt_c (jt_c (jt_l (show jp_F_P 12 578 (12, 91, 0) from ⟨by decide, by decide, jw_s8 184 (by decide +kernel) rfl, fun _ => rfl, rfl⟩)) (jt_c (jt_l (show jp_F_P 12 581 (12, 92, 0) from ⟨by decide, by decide, jw_s8 185 (by decide +kernel) rfl, fun _ => rfl, rfl⟩)) (jt_l (show jp_F_P 12 613 (12, 93, 0) from ⟨by decide, by decide, jw_s8 186 (by decide +kernel) rfl, fun _ => rfl, rfl⟩)))) (jt_c (jt_c (jt_l (show jp_F_P 12 635 (12, 70, 0) from ⟨by decide, by decide, jw_s8 163 (by decide +kernel) rfl, fun _ => rfl, rfl⟩)) (jt_l (show jp_F_P 12 654 (12, 105, 0) from ⟨by decide, by decide, jw_s8 198 (by decide +kernel) rfl, fun _ => rfl, rfl⟩))) (jt_c (jt_l (show jp_F_P 12 657 (12, 104, 0) from ⟨by decide, by decide, jw_s8 197 (by decide +kernel) rfl, fun _ => rfl, rfl⟩)) (jt_l (show jp_F_P 12 678 (12, 110, 0) from ⟨by decide, by decide, jw_s8 203 (by decide +kernel) rfl, fun _ => rfl, rfl⟩)))))))))
theorem jp_F_ok (q i : Nat) : ∀ r, jp_F q i = some r → jp_F_P q i r := by
  intro r h
  unfold jp_F at h
  split at h
  · exact jp_F_0_ok i r h
  · exact jp_F_1_ok i r h
  · exact jp_F_2_ok i r h
  · exact jp_F_3_ok i r h
  · exact jp_F_4_ok i r h
  · exact jp_F_5_ok i r h
  · exact jp_F_6_ok i r h
  · exact jp_F_7_ok i r h
  · exact jp_F_8_ok i r h
  · exact jp_F_9_ok i r h
  · exact jp_F_10_ok i r h
  · exact jp_F_11_ok i r h
  · exact jp_F_12_ok i r h
  · cases h
def jp_K_P (q i : Nat) (r : Value) : Prop := match r with
  | .int v => Cond.constant (jp_O q) i v ∈ jw
  | .long v => Cond.constantLong (jp_O q) i v ∈ jw
  | _ => False
def jp_K_0 (i : Nat) : Option (Value) := (bif Nat.blt i 231 then (bif Nat.beq i 195 then some (.long (-9223372036854775808)) else none) else (bif Nat.beq i 231 then some (.int (100000)) else none))
def jp_K_2 (i : Nat) : Option (Value) := (bif Nat.blt i 77 then (bif Nat.beq i 75 then some (.long (-1)) else none) else (bif Nat.beq i 77 then some (.int (1000000)) else none))
def jp_K_3 (i : Nat) : Option (Value) := (bif Nat.blt i 94 then (bif Nat.beq i 39 then some (.int (1000000)) else none) else (bif Nat.beq i 94 then some (.long (-9223372036854775808)) else none))
def jp_K_4 (i : Nat) : Option (Value) := (bif Nat.blt i 52 then (bif Nat.beq i 9 then some (.int (120000)) else none) else (bif Nat.blt i 78 then (bif Nat.beq i 52 then some (.int (1000000)) else none) else (bif Nat.beq i 78 then some (.long (-9223372036854775808)) else none)))
def jp_K_5 (i : Nat) : Option (Value) := (bif Nat.blt i 66 then (bif Nat.beq i 38 then some (.int (1000000)) else none) else (bif Nat.beq i 66 then some (.long (-1)) else none))
def jp_K_6 (i : Nat) : Option (Value) := (bif Nat.beq i 85 then some (.int (1000000)) else none)
def jp_K_8 (i : Nat) : Option (Value) := (bif Nat.beq i 153 then some (.long (100)) else none)
def jp_K_9 (i : Nat) : Option (Value) := (bif Nat.beq i 79 then some (.long (1000000)) else none)
def jp_K_11 (i : Nat) : Option (Value) := (bif Nat.blt i 63 then (bif Nat.beq i 59 then some (.long (10)) else none) else (bif Nat.beq i 63 then some (.long (2147483647)) else none))
def jp_K_12 (i : Nat) : Option (Value) := (bif Nat.blt i 252 then (bif Nat.blt i 242 then (bif Nat.blt i 229 then (bif Nat.blt i 219 then (bif Nat.beq i 173 then some (.int (121000)) else none) else (bif Nat.beq i 219 then some (.int (90000)) else none)) else (bif Nat.blt i 238 then (bif Nat.beq i 229 then some (.long (255)) else none) else (bif Nat.blt i 240 then (bif Nat.beq i 238 then some (.long (422826041707)) else none) else (bif Nat.beq i 240 then some (.long (6579558)) else none)))) else (bif Nat.blt i 246 then (bif Nat.blt i 244 then (bif Nat.beq i 242 then some (.long (25711)) else none) else (bif Nat.beq i 244 then some (.long (1701606245)) else none)) else (bif Nat.blt i 248 then (bif Nat.beq i 246 then some (.long (26982)) else none) else (bif Nat.blt i 250 then (bif Nat.beq i 248 then some (.long (6909556)) else none) else (bif Nat.beq i 250 then some (.long (1852143732)) else none))))) else (bif Nat.blt i 279 then (bif Nat.blt i 256 then (bif Nat.blt i 254 then (bif Nat.beq i 252 then some (.long (482955849332)) else none) else (bif Nat.beq i 254 then some (.long (1919246692)) else none)) else (bif Nat.blt i 258 then (bif Nat.beq i 256 then some (.long (125780071117422)) else none) else (bif Nat.blt i 260 then (bif Nat.beq i 258 then some (.long (7499639)) else none) else (bif Nat.beq i 260 then some (.long (512852847717)) else none)))) else (bif Nat.blt i 283 then (bif Nat.blt i 281 then (bif Nat.beq i 279 then some (.long (4294967296)) else none) else (bif Nat.beq i 281 then some (.long (10)) else none)) else (bif Nat.blt i 285 then (bif Nat.beq i 283 then some (.long (48)) else none) else (bif Nat.blt i 690 then (bif Nat.beq i 285 then some (.long (2147483647)) else none) else (bif Nat.beq i 690 then some (.int (100000)) else none))))))
def jp_K_13 (i : Nat) : Option (Value) := (bif Nat.beq i 62 then some (.long (4294967295)) else none)
def jp_K_17 (i : Nat) : Option (Value) := (bif Nat.beq i 264 then some (.int (65536)) else none)
def jp_K (q i : Nat) : Option (Value) := match q with
  | 0 => jp_K_0 i
  | 2 => jp_K_2 i
  | 3 => jp_K_3 i
  | 4 => jp_K_4 i
  | 5 => jp_K_5 i
  | 6 => jp_K_6 i
  | 8 => jp_K_8 i
  | 9 => jp_K_9 i
  | 11 => jp_K_11 i
  | 12 => jp_K_12 i
  | 13 => jp_K_13 i
  | 17 => jp_K_17 i
  | _ => none
set_option maxRecDepth 20000 in
theorem jp_K_0_ok (i : Nat) : ∀ r, jp_K_0 i = some r → jp_K_P 0 i r := (jt_c (jt_l (show jp_K_P 0 195 (.long (-9223372036854775808)) from jw_s7 187 (by decide +kernel) rfl)) (jt_l (show jp_K_P 0 231 (.int (100000)) from jw_s7 227 (by decide +kernel) rfl)))
set_option maxRecDepth 20000 in
theorem jp_K_2_ok (i : Nat) : ∀ r, jp_K_2 i = some r → jp_K_P 2 i r := (jt_c (jt_l (show jp_K_P 2 75 (.long (-1)) from jw_s7 54 (by decide +kernel) rfl)) (jt_l (show jp_K_P 2 77 (.int (1000000)) from jw_s7 55 (by decide +kernel) rfl)))
set_option maxRecDepth 20000 in
theorem jp_K_3_ok (i : Nat) : ∀ r, jp_K_3 i = some r → jp_K_P 3 i r := (jt_c (jt_l (show jp_K_P 3 39 (.int (1000000)) from jw_s5 167 (by decide +kernel) rfl)) (jt_l (show jp_K_P 3 94 (.long (-9223372036854775808)) from jw_s5 230 (by decide +kernel) rfl)))
set_option maxRecDepth 20000 in
theorem jp_K_4_ok (i : Nat) : ∀ r, jp_K_4 i = some r → jp_K_P 4 i r := (jt_c (jt_l (show jp_K_P 4 9 (.int (120000)) from jw_s2 186 (by decide +kernel) rfl)) (jt_c (jt_l (show jp_K_P 4 52 (.int (1000000)) from jw_s5 188 (by decide +kernel) rfl)) (jt_l (show jp_K_P 4 78 (.long (-9223372036854775808)) from jw_s5 187 (by decide +kernel) rfl))))
set_option maxRecDepth 20000 in
theorem jp_K_5_ok (i : Nat) : ∀ r, jp_K_5 i = some r → jp_K_P 5 i r := (jt_c (jt_l (show jp_K_P 5 38 (.int (1000000)) from jw_s5 116 (by decide +kernel) rfl)) (jt_l (show jp_K_P 5 66 (.long (-1)) from jw_s5 141 (by decide +kernel) rfl)))
set_option maxRecDepth 20000 in
theorem jp_K_6_ok (i : Nat) : ∀ r, jp_K_6 i = some r → jp_K_P 6 i r := (jt_l (show jp_K_P 6 85 (.int (1000000)) from jw_s5 40 (by decide +kernel) rfl))
set_option maxRecDepth 20000 in
theorem jp_K_8_ok (i : Nat) : ∀ r, jp_K_8 i = some r → jp_K_P 8 i r := (jt_l (show jp_K_P 8 153 (.long (100)) from jw_s4 132 (by decide +kernel) rfl))
set_option maxRecDepth 20000 in
theorem jp_K_9_ok (i : Nat) : ∀ r, jp_K_9 i = some r → jp_K_P 9 i r := (jt_l (show jp_K_P 9 79 (.long (1000000)) from jw_s7 239 (by decide +kernel) rfl))
set_option maxRecDepth 20000 in
theorem jp_K_11_ok (i : Nat) : ∀ r, jp_K_11 i = some r → jp_K_P 11 i r := (jt_c (jt_l (show jp_K_P 11 59 (.long (10)) from jw_s3 180 (by decide +kernel) rfl)) (jt_l (show jp_K_P 11 63 (.long (2147483647)) from jw_s3 181 (by decide +kernel) rfl)))
set_option maxRecDepth 20000 in
theorem jp_K_12_ok (i : Nat) : ∀ r, jp_K_12 i = some r → jp_K_P 12 i r := (jt_c (jt_c (jt_c (jt_c (jt_l (show jp_K_P 12 173 (.int (121000)) from jw_s8 91 (by decide +kernel) rfl)) (jt_l (show jp_K_P 12 219 (.int (90000)) from jw_s8 92 (by decide +kernel) rfl))) (jt_c (jt_l (show jp_K_P 12 229 (.long (255)) from jw_s9 191 (by decide +kernel) rfl)) (jt_c (jt_l (show jp_K_P 12 238 (.long (422826041707)) from jw_s9 216 (by decide +kernel) rfl)) (jt_l (show jp_K_P 12 240 (.long (6579558)) from jw_s9 217 (by decide +kernel) rfl))))) (jt_c (jt_c (jt_l (show jp_K_P 12 242 (.long (25711)) from jw_s9 218 (by decide +kernel) rfl)) (jt_l (show jp_K_P 12 244 (.long (1701606245)) from jw_s9 219 (by decide +kernel) rfl))) (jt_c (jt_l (show jp_K_P 12 246 (.long (26982)) from jw_s9 220 (by decide +kernel) rfl)) (jt_c (jt_l (show jp_K_P 12 248 (.long (6909556)) from jw_s9 221 (by decide +kernel) rfl)) (jt_l (show jp_K_P 12 250 (.long (1852143732)) from jw_s9 222 (by decide +kernel) rfl)))))) (jt_c (jt_c (jt_c (jt_l (show jp_K_P 12 252 (.long (482955849332)) from jw_s9 223 (by decide +kernel) rfl)) (jt_l (show jp_K_P 12 254 (.long (1919246692)) from jw_s9 224 (by decide +kernel) rfl))) (jt_c (jt_l (show jp_K_P 12 256 (.long (125780071117422)) from jw_s9 225 (by decide +kernel) rfl)) (jt_c (jt_l (show jp_K_P 12 258 (.long (7499639)) from jw_s9 226 (by decide +kernel) rfl)) (jt_l (show jp_K_P 12 260 (.long (512852847717)) from jw_s9 227 (by decide +kernel) rfl))))) (jt_c (jt_c (jt_l (show jp_K_P 12 279 (.long (4294967296)) from jw_s9 228 (by decide +kernel) rfl)) (jt_l (show jp_K_P 12 281 (.long (10)) from jw_s9 229 (by decide +kernel) rfl))) (jt_c (jt_l (show jp_K_P 12 283 (.long (48)) from jw_s9 230 (by decide +kernel) rfl)) (jt_c (jt_l (show jp_K_P 12 285 (.long (2147483647)) from jw_s9 231 (by decide +kernel) rfl)) (jt_l (show jp_K_P 12 690 (.int (100000)) from jw_s11 133 (by decide +kernel) rfl)))))))
set_option maxRecDepth 20000 in
theorem jp_K_13_ok (i : Nat) : ∀ r, jp_K_13 i = some r → jp_K_P 13 i r := (jt_l (show jp_K_P 13 62 (.long (4294967295)) from jw_s11 166 (by decide +kernel) rfl))
set_option maxRecDepth 20000 in
theorem jp_K_17_ok (i : Nat) : ∀ r, jp_K_17 i = some r → jp_K_P 17 i r := (jt_l (show jp_K_P 17 264 (.int (65536)) from jw_s7 92 (by decide +kernel) rfl))
theorem jp_K_ok (q i : Nat) : ∀ r, jp_K q i = some r → jp_K_P q i r := by
  intro r h
  unfold jp_K at h
  split at h
  · exact jp_K_0_ok i r h
  · exact jp_K_2_ok i r h
  · exact jp_K_3_ok i r h
  · exact jp_K_4_ok i r h
  · exact jp_K_5_ok i r h
  · exact jp_K_6_ok i r h
  · exact jp_K_8_ok i r h
  · exact jp_K_9_ok i r h
  · exact jp_K_11_ok i r h
  · exact jp_K_12_ok i r h
  · exact jp_K_13_ok i r h
  · exact jp_K_17_ok i r h
  · cases h
def jp_W_P (q i ci : Nat) : Prop := ci < 13 ∧ Cond.classLink (jp_O q) i (jp_C ci) ∈ jw ∧ Cond.instantiable (jp_C ci) (jp_N ci) ∈ jw ∧ Cond.initialized (jp_C ci) ∈ jw
def jp_W_0 (i : Nat) : Option (Nat) := (bif Nat.blt i 50 then (bif Nat.blt i 36 then (bif Nat.blt i 22 then (bif Nat.beq i 15 then some 8 else none) else (bif Nat.beq i 22 then some 10 else none)) else (bif Nat.blt i 43 then (bif Nat.beq i 36 then some 6 else none) else (bif Nat.beq i 43 then some 1 else none))) else (bif Nat.blt i 64 then (bif Nat.blt i 57 then (bif Nat.beq i 50 then some 5 else none) else (bif Nat.beq i 57 then some 4 else none)) else (bif Nat.blt i 76 then (bif Nat.beq i 64 then some 3 else none) else (bif Nat.beq i 76 then some 9 else none))))
def jp_W_3 (i : Nat) : Option (Nat) := (bif Nat.blt i 18 then (bif Nat.beq i 9 then some 2 else none) else (bif Nat.beq i 18 then some 5 else none))
def jp_W_8 (i : Nat) : Option (Nat) := (bif Nat.blt i 18 then (bif Nat.beq i 9 then some 11 else none) else (bif Nat.beq i 18 then some 7 else none))
def jp_W_13 (i : Nat) : Option (Nat) := (bif Nat.blt i 59 then (bif Nat.beq i 8 then some 0 else none) else (bif Nat.beq i 59 then some 12 else none))
def jp_W (q i : Nat) : Option (Nat) := match q with
  | 0 => jp_W_0 i
  | 3 => jp_W_3 i
  | 8 => jp_W_8 i
  | 13 => jp_W_13 i
  | _ => none
set_option maxRecDepth 20000 in
theorem jp_W_0_ok (i : Nat) : ∀ r, jp_W_0 i = some r → jp_W_P 0 i r := (jt_c (jt_c (jt_c (jt_l (show jp_W_P 0 15 8 from ⟨by decide, jw_s1 41 (by decide +kernel) rfl, jC8_new.1, jC8_new.2⟩)) (jt_l (show jp_W_P 0 22 10 from ⟨by decide, jw_s1 165 (by decide +kernel) rfl, jC10_new.1, jC10_new.2⟩))) (jt_c (jt_l (show jp_W_P 0 36 6 from ⟨by decide, jw_s2 8 (by decide +kernel) rfl, jC6_new.1, jC6_new.2⟩)) (jt_l (show jp_W_P 0 43 1 from ⟨by decide, jw_s2 54 (by decide +kernel) rfl, jC1_new.1, jC1_new.2⟩)))) (jt_c (jt_c (jt_l (show jp_W_P 0 50 5 from ⟨by decide, jw_s2 150 (by decide +kernel) rfl, jC5_new.1, jC5_new.2⟩)) (jt_l (show jp_W_P 0 57 4 from ⟨by decide, jw_s2 180 (by decide +kernel) rfl, jC4_new.1, jC4_new.2⟩))) (jt_c (jt_l (show jp_W_P 0 64 3 from ⟨by decide, jw_s2 207 (by decide +kernel) rfl, jC3_new.1, jC3_new.2⟩)) (jt_l (show jp_W_P 0 76 9 from ⟨by decide, jw_s3 27 (by decide +kernel) rfl, jC9_new.1, jC9_new.2⟩)))))
set_option maxRecDepth 20000 in
theorem jp_W_3_ok (i : Nat) : ∀ r, jp_W_3 i = some r → jp_W_P 3 i r := (jt_c (jt_l (show jp_W_P 3 9 2 from ⟨by decide, jw_s2 213 (by decide +kernel) rfl, jC2_new.1, jC2_new.2⟩)) (jt_l (show jp_W_P 3 18 5 from ⟨by decide, jw_s3 10 (by decide +kernel) rfl, jC5_new.1, jC5_new.2⟩)))
set_option maxRecDepth 20000 in
theorem jp_W_8_ok (i : Nat) : ∀ r, jp_W_8 i = some r → jp_W_P 8 i r := (jt_c (jt_l (show jp_W_P 8 9 11 from ⟨by decide, jw_s1 47 (by decide +kernel) rfl, jC11_new.1, jC11_new.2⟩)) (jt_l (show jp_W_P 8 18 7 from ⟨by decide, jw_s1 78 (by decide +kernel) rfl, jC7_new.1, jC7_new.2⟩)))
set_option maxRecDepth 20000 in
theorem jp_W_13_ok (i : Nat) : ∀ r, jp_W_13 i = some r → jp_W_P 13 i r := (jt_c (jt_l (show jp_W_P 13 8 0 from ⟨by decide, jw_s1 33 (by decide +kernel) rfl, jC0_new.1, jC0_new.2⟩)) (jt_l (show jp_W_P 13 59 12 from ⟨by decide, jw_s8 85 (by decide +kernel) rfl, jC12_new.1, jC12_new.2⟩)))
theorem jp_W_ok (q i : Nat) : ∀ r, jp_W q i = some r → jp_W_P q i r := by
  intro r h
  unfold jp_W at h
  split at h
  · exact jp_W_0_ok i r h
  · exact jp_W_3_ok i r h
  · exact jp_W_8_ok i r h
  · exact jp_W_13_ok i r h
  · cases h
/-- a call: the method, and the form: 0 virtual, 1 static, 2 constructor, 3 static of a nest mate, 4 constructor of a nest mate -/
def jp_M_P (q i : Nat) (r : jm_M × Nat) : Prop := jm_mok r.1 ∧ (match r.2 with
  | 0 => Cond.methodLink (jp_O q) i r.1.1 ∈ jw ∧ Cond.instanceMethod r.1.1 ∈ jw ∧ Cond.selects r.1.1.cls r.1.1 r.1.1 ∈ jw
  | 1 => Cond.methodLink (jp_O q) i r.1.1 ∈ jw ∧ Cond.static r.1.1 ∈ jw
  | 2 => Cond.methodLink (jp_O q) i r.1.1 ∈ jw ∧ Cond.instanceMethod r.1.1 ∈ jw ∧ r.1.1.name = "<init>" ∧ r.1.2.2.2.1 = none
  | 3 => Cond.methodLinkNest (jp_O q) i r.1.1 "WhilePress" ∈ jn ∧ Cond.static r.1.1 ∈ jw
  | 4 => Cond.methodLinkNest (jp_O q) i r.1.1 "WhilePress" ∈ jn ∧ Cond.instanceMethod r.1.1 ∈ jw ∧ r.1.1.name = "<init>" ∧ r.1.2.2.2.1 = none
  | _ => False)
def jp_M_0 (i : Nat) : Option (jm_M × Nat) := (bif Nat.blt i 117 then (bif Nat.blt i 66 then (bif Nat.blt i 45 then (bif Nat.blt i 24 then (bif Nat.beq i 17 then some (mRe_init, 4) else none) else (bif Nat.blt i 38 then (bif Nat.beq i 24 then some (mSc_init, 4) else none) else (bif Nat.beq i 38 then some (mMa_init, 4) else none))) else (bif Nat.blt i 52 then (bif Nat.beq i 45 then some (mCo_init, 4) else none) else (bif Nat.blt i 59 then (bif Nat.beq i 52 then some (mLi_init, 4) else none) else (bif Nat.beq i 59 then some (mKn_init, 4) else none)))) else (bif Nat.blt i 103 then (bif Nat.blt i 78 then (bif Nat.beq i 66 then some (mIm_init, 2) else none) else (bif Nat.blt i 99 then (bif Nat.beq i 78 then some (mRu_init, 2) else none) else (bif Nat.beq i 99 then some (mRe_begin, 0) else none))) else (bif Nat.blt i 111 then (bif Nat.blt i 107 then (bif Nat.beq i 103 then some (mRe_isAtDecl, 0) else none) else (bif Nat.beq i 107 then some (mRe_kind, 0) else none)) else (bif Nat.blt i 114 then (bif Nat.beq i 111 then some (mRe_define, 0) else none) else (bif Nat.beq i 114 then some (mRe_tellRow, 0) else none))))) else (bif Nat.blt i 165 then (bif Nat.blt i 127 then (bif Nat.blt i 121 then (bif Nat.beq i 117 then some (mRe_tellInts, 0) else none) else (bif Nat.blt i 124 then (bif Nat.beq i 121 then some (mRe_beginStatements, 0) else none) else (bif Nat.beq i 124 then some (mRe_hasMore, 0) else none))) else (bif Nat.blt i 152 then (bif Nat.blt i 130 then (bif Nat.beq i 127 then some (mRe_statement, 0) else none) else (bif Nat.beq i 130 then some (mRe_finish, 0) else none)) else (bif Nat.blt i 156 then (bif Nat.beq i 152 then some (mMa_make, 0) else none) else (bif Nat.beq i 156 then some (mLi_find, 0) else none)))) else (bif Nat.blt i 205 then (bif Nat.blt i 191 then (bif Nat.beq i 165 then some (mIm_press, 0) else none) else (bif Nat.blt i 202 then (bif Nat.beq i 191 then some (mP_knownBefore, 0) else none) else (bif Nat.beq i 202 then some (mKn_learn, 0) else none))) else (bif Nat.blt i 236 then (bif Nat.blt i 212 then (bif Nat.beq i 205 then some (mKn_before, 0) else none) else (bif Nat.beq i 212 then some (mLi_isBehind, 0) else none)) else (bif Nat.blt i 240 then (bif Nat.beq i 236 then some (mRu_goText, 0) else none) else (bif Nat.beq i 240 then some (mRu_goCode, 0) else none))))))
def jp_M_1 (i : Nat) : Option (jm_M × Nat) := (bif Nat.blt i 71 then (bif Nat.blt i 67 then (bif Nat.beq i 63 then some (mCo_begin, 0) else none) else (bif Nat.beq i 67 then some (mCo_put, 0) else none)) else (bif Nat.blt i 75 then (bif Nat.beq i 71 then some (mCo_leaps, 0) else none) else (bif Nat.blt i 78 then (bif Nat.beq i 75 then some (mCo_leapsInside, 0) else none) else (bif Nat.beq i 78 then some (mCo_goesOn, 0) else none))))
def jp_M_2 (i : Nat) : Option (jm_M × Nat) := (bif Nat.blt i 101 then (bif Nat.blt i 71 then (bif Nat.blt i 55 then (bif Nat.blt i 45 then (bif Nat.beq i 40 then some (mCo_findReached, 0) else none) else (bif Nat.beq i 45 then some (mCo_findLeaders, 0) else none)) else (bif Nat.blt i 67 then (bif Nat.beq i 55 then some (mArr_fill3, 1) else none) else (bif Nat.beq i 67 then some (mCo_isWorkedOut, 0) else none))) else (bif Nat.blt i 88 then (bif Nat.blt i 81 then (bif Nat.beq i 71 then some (mHo_factFor, 0) else none) else (bif Nat.beq i 81 then some (mHo_follow, 0) else none)) else (bif Nat.blt i 92 then (bif Nat.beq i 88 then some (mCo_usesA, 0) else none) else (bif Nat.blt i 96 then (bif Nat.beq i 92 then some (mCo_usesB, 0) else none) else (bif Nat.beq i 96 then some (mHo_isOf, 0) else none))))) else (bif Nat.blt i 117 then (bif Nat.blt i 109 then (bif Nat.blt i 105 then (bif Nat.beq i 101 then some (mHo_endBy, 0) else none) else (bif Nat.beq i 105 then some (mHo_begin, 0) else none)) else (bif Nat.blt i 113 then (bif Nat.beq i 109 then some (mCo_lastOf, 0) else none) else (bif Nat.beq i 113 then some (mHo_pass, 0) else none))) else (bif Nat.blt i 123 then (bif Nat.blt i 120 then (bif Nat.beq i 117 then some (mCo_leapsInside, 0) else none) else (bif Nat.beq i 120 then some (mHo_flow, 0) else none)) else (bif Nat.blt i 132 then (bif Nat.beq i 123 then some (mCo_goesOn, 0) else none) else (bif Nat.blt i 135 then (bif Nat.beq i 132 then some (mCo_defines, 0) else none) else (bif Nat.beq i 135 then some (mLong_numberOfTrailingZeros, 1) else none))))))
def jp_M_3 (i : Nat) : Option (jm_M × Nat) := (bif Nat.blt i 118 then (bif Nat.blt i 59 then (bif Nat.blt i 44 then (bif Nat.blt i 29 then (bif Nat.blt i 20 then (bif Nat.beq i 11 then some (mHo_init, 4) else none) else (bif Nat.beq i 20 then some (mLi_init, 4) else none)) else (bif Nat.blt i 40 then (bif Nat.beq i 29 then some (mCo_copyFrom, 0) else none) else (bif Nat.beq i 40 then some (mIm_putConstants, 0) else none))) else (bif Nat.blt i 50 then (bif Nat.blt i 47 then (bif Nat.beq i 44 then some (mIm_putCopies, 0) else none) else (bif Nat.beq i 47 then some (mIm_leaveDead, 0) else none)) else (bif Nat.blt i 53 then (bif Nat.beq i 50 then some (mIm_mendJumps, 0) else none) else (bif Nat.blt i 56 then (bif Nat.beq i 53 then some (mLi_find, 0) else none) else (bif Nat.beq i 56 then some (mLi_giveColours, 0) else none))))) else (bif Nat.blt i 86 then (bif Nat.blt i 78 then (bif Nat.blt i 71 then (bif Nat.beq i 59 then some (mKn_learn, 0) else none) else (bif Nat.beq i 71 then some (mKn_begin, 0) else none)) else (bif Nat.blt i 82 then (bif Nat.beq i 78 then some (mIm_putConstant, 0) else none) else (bif Nat.beq i 82 then some (mKn_pass, 0) else none))) else (bif Nat.blt i 103 then (bif Nat.blt i 90 then (bif Nat.beq i 86 then some (mKn_first, 0) else none) else (bif Nat.beq i 90 then some (mCo_usesA, 0) else none)) else (bif Nat.blt i 106 then (bif Nat.beq i 103 then some (mKn_second, 0) else none) else (bif Nat.blt i 115 then (bif Nat.beq i 106 then some (mCo_usesB, 0) else none) else (bif Nat.beq i 115 then some (mCo_isWorkedOut, 0) else none)))))) else (bif Nat.blt i 149 then (bif Nat.blt i 133 then (bif Nat.blt i 128 then (bif Nat.blt i 124 then (bif Nat.beq i 118 then some (mP_isDivision, 3) else none) else (bif Nat.beq i 124 then some (mP_work, 3) else none)) else (bif Nat.blt i 132 then (bif Nat.beq i 128 then some (mCo_put, 0) else none) else (bif Nat.beq i 132 then some (mHo_find, 0) else none))) else (bif Nat.blt i 140 then (bif Nat.blt i 137 then (bif Nat.beq i 133 then some (mHo_begin, 0) else none) else (bif Nat.beq i 137 then some (mIm_putCopy, 0) else none)) else (bif Nat.blt i 141 then (bif Nat.beq i 140 then some (mHo_pass, 0) else none) else (bif Nat.blt i 145 then (bif Nat.beq i 141 then some (mCo_sweep, 0) else none) else (bif Nat.beq i 145 then some (mHo_original, 0) else none))))) else (bif Nat.blt i 169 then (bif Nat.blt i 156 then (bif Nat.blt i 153 then (bif Nat.beq i 149 then some (mHo_holder, 0) else none) else (bif Nat.beq i 153 then some (mCo_leaveOut, 0) else none)) else (bif Nat.blt i 160 then (bif Nat.beq i 156 then some (mLi_isBehind, 0) else none) else (bif Nat.blt i 166 then (bif Nat.beq i 160 then some (mIm_isHarmless, 1) else none) else (bif Nat.beq i 166 then some (mIm_settleTests, 1) else none)))) else (bif Nat.blt i 175 then (bif Nat.blt i 172 then (bif Nat.beq i 169 then some (mIm_leaveUnreached, 1) else none) else (bif Nat.beq i 172 then some (mIm_goThrough, 1) else none)) else (bif Nat.blt i 178 then (bif Nat.beq i 175 then some (mCo_leaps, 0) else none) else (bif Nat.blt i 181 then (bif Nat.beq i 178 then some (mCo_findReached, 0) else none) else (bif Nat.beq i 181 then some (mCo_leapsInside, 0) else none)))))))
def jp_M_4 (i : Nat) : Option (jm_M × Nat) := (bif Nat.blt i 70 then (bif Nat.blt i 53 then (bif Nat.blt i 42 then (bif Nat.beq i 30 then some (mCo_findLeaders, 0) else none) else (bif Nat.blt i 48 then (bif Nat.beq i 42 then some (mArr_fill2, 1) else none) else (bif Nat.beq i 48 then some (mKn_flow, 0) else none))) else (bif Nat.blt i 60 then (bif Nat.blt i 56 then (bif Nat.beq i 53 then some (mKn_follow, 0) else none) else (bif Nat.beq i 56 then some (mKn_begin, 0) else none)) else (bif Nat.blt i 64 then (bif Nat.beq i 60 then some (mCo_lastOf, 0) else none) else (bif Nat.beq i 64 then some (mKn_pass, 0) else none)))) else (bif Nat.blt i 104 then (bif Nat.blt i 92 then (bif Nat.blt i 74 then (bif Nat.beq i 70 then some (mCo_goesOn, 0) else none) else (bif Nat.beq i 74 then some (mKn_first, 0) else none)) else (bif Nat.blt i 98 then (bif Nat.beq i 92 then some (mCo_usesA, 0) else none) else (bif Nat.beq i 98 then some (mCo_usesB, 0) else none))) else (bif Nat.blt i 110 then (bif Nat.blt i 107 then (bif Nat.beq i 104 then some (mCo_defines, 0) else none) else (bif Nat.beq i 107 then some (mKn_second, 0) else none)) else (bif Nat.blt i 113 then (bif Nat.beq i 110 then some (mP_isDivision, 3) else none) else (bif Nat.beq i 113 then some (mP_work, 3) else none)))))
def jp_M_5 (i : Nat) : Option (jm_M × Nat) := (bif Nat.blt i 63 then (bif Nat.blt i 49 then (bif Nat.blt i 45 then (bif Nat.beq i 32 then some (mArr_fill2, 1) else none) else (bif Nat.beq i 45 then some (mLi_look, 0) else none)) else (bif Nat.blt i 53 then (bif Nat.beq i 49 then some (mCo_goesOn, 0) else none) else (bif Nat.blt i 57 then (bif Nat.beq i 53 then some (mLi_join, 0) else none) else (bif Nat.beq i 57 then some (mCo_leapsInside, 0) else none)))) else (bif Nat.blt i 80 then (bif Nat.blt i 68 then (bif Nat.beq i 63 then some (mCo_defines, 0) else none) else (bif Nat.blt i 74 then (bif Nat.beq i 68 then some (mCo_usesA, 0) else none) else (bif Nat.beq i 74 then some (mCo_usesB, 0) else none))) else (bif Nat.blt i 87 then (bif Nat.beq i 80 then some (mLi_setApart, 0) else none) else (bif Nat.blt i 103 then (bif Nat.beq i 87 then some (mLi_leastColour, 0) else none) else (bif Nat.beq i 103 then some (mLi_isBehind, 0) else none)))))
def jp_M_6 (i : Nat) : Option (jm_M × Nat) := (bif Nat.blt i 126 then (bif Nat.blt i 98 then (bif Nat.blt i 71 then (bif Nat.blt i 62 then (bif Nat.beq i 49 then some (mCo_begin, 0) else none) else (bif Nat.beq i 62 then some (mArr_fill, 1) else none)) else (bif Nat.blt i 81 then (bif Nat.beq i 71 then some (mCo_takeRegister, 0) else none) else (bif Nat.blt i 89 then (bif Nat.beq i 81 then some (mCo_fits, 0) else none) else (bif Nat.beq i 89 then some (mMa_arrive, 0) else none)))) else (bif Nat.blt i 116 then (bif Nat.blt i 109 then (bif Nat.beq i 98 then some (mMa_takeStep, 0) else none) else (bif Nat.beq i 109 then some (mCo_add, 0) else none)) else (bif Nat.blt i 119 then (bif Nat.beq i 116 then some (mMa_takeWork, 0) else none) else (bif Nat.blt i 122 then (bif Nat.beq i 119 then some (mMa_push, 0) else none) else (bif Nat.beq i 122 then some (mMa_pushCopy, 0) else none))))) else (bif Nat.blt i 141 then (bif Nat.blt i 132 then (bif Nat.blt i 129 then (bif Nat.beq i 126 then some (mMa_lay, 0) else none) else (bif Nat.beq i 129 then some (mMa_tellInt, 0) else none)) else (bif Nat.blt i 135 then (bif Nat.beq i 132 then some (mMa_call, 0) else none) else (bif Nat.blt i 138 then (bif Nat.beq i 135 then some (mMa_giveBack, 0) else none) else (bif Nat.beq i 138 then some (mMa_endCall, 0) else none)))) else (bif Nat.blt i 147 then (bif Nat.blt i 144 then (bif Nat.beq i 141 then some (mMa_pop, 0) else none) else (bif Nat.beq i 144 then some (mMa_test, 0) else none)) else (bif Nat.blt i 150 then (bif Nat.beq i 147 then some (mMa_endTruth, 0) else none) else (bif Nat.blt i 153 then (bif Nat.beq i 150 then some (mMa_show, 0) else none) else (bif Nat.beq i 153 then some (mMa_leap, 0) else none))))))
def jp_M_8 (i : Nat) : Option (jm_M × Nat) := (bif Nat.blt i 196 then (bif Nat.blt i 121 then (bif Nat.blt i 90 then (bif Nat.blt i 41 then (bif Nat.blt i 20 then (bif Nat.beq i 11 then some (mWo_init, 4) else none) else (bif Nat.beq i 20 then some (mNa_init, 4) else none)) else (bif Nat.blt i 45 then (bif Nat.beq i 41 then some (mWo_split, 0) else none) else (bif Nat.blt i 52 then (bif Nat.beq i 45 then some (mNa_forget, 0) else none) else (bif Nat.beq i 52 then some (mSc_forget, 0) else none)))) else (bif Nat.blt i 107 then (bif Nat.blt i 100 then (bif Nat.beq i 90 then some (mSc_add, 0) else none) else (bif Nat.beq i 100 then some (mRe_kind, 0) else none)) else (bif Nat.blt i 110 then (bif Nat.beq i 107 then some (mRe_go, 0) else none) else (bif Nat.blt i 117 then (bif Nat.beq i 110 then some (mRe_misfit, 0) else none) else (bif Nat.beq i 117 then some (mNa_isInBlock, 0) else none))))) else (bif Nat.blt i 138 then (bif Nat.blt i 129 then (bif Nat.blt i 125 then (bif Nat.beq i 121 then some (mRe_soften, 0) else none) else (bif Nat.beq i 125 then some (mNa_tell, 0) else none)) else (bif Nat.blt i 132 then (bif Nat.beq i 129 then some (mSc_takeGlobal, 0) else none) else (bif Nat.blt i 135 then (bif Nat.beq i 132 then some (mSc_takeLocal, 0) else none) else (bif Nat.beq i 135 then some (mRe_tellName, 0) else none)))) else (bif Nat.blt i 172 then (bif Nat.blt i 150 then (bif Nat.beq i 138 then some (mRe_expect, 0) else none) else (bif Nat.blt i 165 then (bif Nat.beq i 150 then some (mRe_openOne, 0) else none) else (bif Nat.beq i 165 then some (mRe_tellList, 0) else none))) else (bif Nat.blt i 187 then (bif Nat.beq i 172 then some (mRe_takeItems, 0) else none) else (bif Nat.blt i 190 then (bif Nat.beq i 187 then some (mRe_openRound, 0) else none) else (bif Nat.beq i 190 then some (mRe_closeRound, 0) else none)))))) else (bif Nat.blt i 233 then (bif Nat.blt i 212 then (bif Nat.blt i 203 then (bif Nat.blt i 199 then (bif Nat.beq i 196 then some (mRe_takeBlock, 0) else none) else (bif Nat.beq i 199 then some (mRe_tellInts, 0) else none)) else (bif Nat.blt i 206 then (bif Nat.beq i 203 then some (mRe_takeIf, 0) else none) else (bif Nat.blt i 209 then (bif Nat.beq i 206 then some (mRe_takeWhile, 0) else none) else (bif Nat.beq i 209 then some (mRe_takeDo, 0) else none)))) else (bif Nat.blt i 221 then (bif Nat.blt i 215 then (bif Nat.beq i 212 then some (mRe_nextKind, 0) else none) else (bif Nat.blt i 218 then (bif Nat.beq i 215 then some (mRe_takeNamed, 0) else none) else (bif Nat.beq i 218 then some (mRe_takeSimple, 0) else none))) else (bif Nat.blt i 224 then (bif Nat.beq i 221 then some (mRe_statement, 0) else none) else (bif Nat.blt i 230 then (bif Nat.beq i 224 then some (mRe_takeExpr, 0) else none) else (bif Nat.beq i 230 then some (mSc_aim, 0) else none))))) else (bif Nat.blt i 257 then (bif Nat.blt i 243 then (bif Nat.blt i 240 then (bif Nat.beq i 233 then some (mRe_takeLeave, 0) else none) else (bif Nat.beq i 240 then some (mRe_takeRead, 0) else none)) else (bif Nat.blt i 246 then (bif Nat.beq i 243 then some (mRe_wanted, 0) else none) else (bif Nat.blt i 253 then (bif Nat.beq i 246 then some (mNa_find, 0) else none) else (bif Nat.beq i 253 then some (mRe_pend, 0) else none)))) else (bif Nat.blt i 271 then (bif Nat.blt i 261 then (bif Nat.beq i 257 then some (mRe_takeOperand, 0) else none) else (bif Nat.blt i 268 then (bif Nat.beq i 261 then some (mRe_isBinary, 1) else none) else (bif Nat.beq i 268 then some (mRe_settle, 0) else none))) else (bif Nat.blt i 274 then (bif Nat.beq i 271 then some (mRe_takeBinary, 0) else none) else (bif Nat.blt i 277 then (bif Nat.beq i 274 then some (mRe_takeClosing, 0) else none) else (bif Nat.beq i 277 then some (mSc_wrap, 0) else none)))))))
def jp_M_9 (i : Nat) : Option (jm_M × Nat) := (bif Nat.blt i 121 then (bif Nat.blt i 101 then (bif Nat.blt i 90 then (bif Nat.blt i 69 then (bif Nat.beq i 55 then some (mArr_fill, 1) else none) else (bif Nat.beq i 69 then some (mRu_begin, 0) else none)) else (bif Nat.blt i 94 then (bif Nat.beq i 90 then some (mRu_takeWork, 0) else none) else (bif Nat.blt i 98 then (bif Nat.beq i 94 then some (mRu_takePlain, 0) else none) else (bif Nat.beq i 98 then some (mRu_takeWay, 0) else none)))) else (bif Nat.blt i 109 then (bif Nat.blt i 105 then (bif Nat.beq i 101 then some (mRu_pop, 0) else none) else (bif Nat.beq i 105 then some (mP_isDivision, 3) else none)) else (bif Nat.blt i 113 then (bif Nat.beq i 109 then some (mP_work, 3) else none) else (bif Nat.blt i 117 then (bif Nat.beq i 113 then some (mRu_push, 0) else none) else (bif Nat.beq i 117 then some (mRu_cellPlace, 0) else none))))) else (bif Nat.blt i 137 then (bif Nat.blt i 127 then (bif Nat.blt i 124 then (bif Nat.beq i 121 then some (mRu_takeInput, 0) else none) else (bif Nat.beq i 124 then some (mRu_show, 0) else none)) else (bif Nat.blt i 130 then (bif Nat.beq i 127 then some (mRu_burn, 0) else none) else (bif Nat.blt i 134 then (bif Nat.beq i 130 then some (mRu_call, 0) else none) else (bif Nat.beq i 134 then some (mRu_goBack, 0) else none)))) else (bif Nat.blt i 164 then (bif Nat.blt i 153 then (bif Nat.beq i 137 then some (mRu_tellEarly, 0) else none) else (bif Nat.blt i 158 then (bif Nat.beq i 153 then some (mRu_takeInstruction, 0) else none) else (bif Nat.beq i 158 then some (mCo_usesA, 0) else none))) else (bif Nat.blt i 170 then (bif Nat.beq i 164 then some (mCo_usesB, 0) else none) else (bif Nat.blt i 173 then (bif Nat.beq i 170 then some (mCo_defines, 0) else none) else (bif Nat.beq i 173 then some (mRu_resultOf, 0) else none))))))
def jp_M_11 (i : Nat) : Option (jm_M × Nat) := (bif Nat.blt i 46 then (bif Nat.blt i 40 then (bif Nat.blt i 36 then (bif Nat.beq i 32 then some (mWo_isLetter, 1) else none) else (bif Nat.beq i 36 then some (mWo_takeName, 0) else none)) else (bif Nat.blt i 43 then (bif Nat.beq i 40 then some (mWo_isFigure, 1) else none) else (bif Nat.beq i 43 then some (mWo_takeNumber, 0) else none))) else (bif Nat.blt i 53 then (bif Nat.blt i 49 then (bif Nat.beq i 46 then some (mWo_takeSign, 0) else none) else (bif Nat.beq i 49 then some (mWo_add, 0) else none)) else (bif Nat.blt i 65 then (bif Nat.beq i 53 then some (mWo_stopAt, 0) else none) else (bif Nat.blt i 69 then (bif Nat.beq i 65 then some (mWo_longSign, 1) else none) else (bif Nat.beq i 69 then some (mWo_shortSign, 1) else none)))))
def jp_M_12 (i : Nat) : Option (jm_M × Nat) := (bif Nat.blt i 482 then (bif Nat.blt i 396 then (bif Nat.blt i 345 then (bif Nat.blt i 291 then (bif Nat.blt i 272 then (bif Nat.blt i 265 then (bif Nat.beq i 231 then some (mM_isFine, 1) else none) else (bif Nat.blt i 268 then (bif Nat.beq i 265 then some (mM_isSmall, 1) else none) else (bif Nat.beq i 268 then some (mM_byteAt, 0) else none))) else (bif Nat.blt i 275 then (bif Nat.beq i 272 then some (mM_isFigure, 1) else none) else (bif Nat.blt i 287 then (bif Nat.beq i 275 then some (mM_keyOf, 1) else none) else (bif Nat.beq i 287 then some (mM_pairOf, 1) else none)))) else (bif Nat.blt i 316 then (bif Nat.blt i 303 then (bif Nat.beq i 291 then some (mM_isSign, 1) else none) else (bif Nat.blt i 313 then (bif Nat.beq i 303 then some (mM_tell, 0) else none) else (bif Nat.beq i 313 then some (mM_fail, 0) else none))) else (bif Nat.blt i 323 then (bif Nat.beq i 316 then some (mM_isTold, 0) else none) else (bif Nat.blt i 339 then (bif Nat.beq i 323 then some (mM_addName, 0) else none) else (bif Nat.beq i 339 then some (mM_misfit, 0) else none))))) else (bif Nat.blt i 376 then (bif Nat.blt i 361 then (bif Nat.blt i 349 then (bif Nat.beq i 345 then some (mM_opens, 0) else none) else (bif Nat.blt i 358 then (bif Nat.beq i 349 then some (mM_take, 0) else none) else (bif Nat.beq i 358 then some (mM_newInt, 0) else none))) else (bif Nat.blt i 367 then (bif Nat.beq i 361 then some (mM_step, 0) else none) else (bif Nat.blt i 370 then (bif Nat.beq i 367 then some (mM_takeOpen, 0) else none) else (bif Nat.beq i 370 then some (mM_takeClose, 0) else none)))) else (bif Nat.blt i 386 then (bif Nat.blt i 380 then (bif Nat.beq i 376 then some (mM_push, 0) else none) else (bif Nat.blt i 383 then (bif Nat.beq i 380 then some (mM_beginBlock, 0) else none) else (bif Nat.beq i 383 then some (mM_tellChain, 0) else none))) else (bif Nat.blt i 389 then (bif Nat.beq i 386 then some (mM_endBlock, 0) else none) else (bif Nat.blt i 393 then (bif Nat.beq i 389 then some (mM_readInts, 0) else none) else (bif Nat.beq i 393 then some (mM_readRow, 0) else none)))))) else (bif Nat.blt i 437 then (bif Nat.blt i 419 then (bif Nat.blt i 409 then (bif Nat.blt i 402 then (bif Nat.beq i 396 then some (mM_readDef, 0) else none) else (bif Nat.blt i 406 then (bif Nat.beq i 402 then some (mM_top, 0) else none) else (bif Nat.beq i 406 then some (mM_endDef, 0) else none))) else (bif Nat.blt i 412 then (bif Nat.beq i 409 then some (mM_readNamed, 0) else none) else (bif Nat.blt i 416 then (bif Nat.beq i 412 then some (mM_readTested, 0) else none) else (bif Nat.beq i 416 then some (mM_begun, 0) else none)))) else (bif Nat.blt i 428 then (bif Nat.blt i 422 then (bif Nat.beq i 419 then some (mM_readLeave, 0) else none) else (bif Nat.blt i 425 then (bif Nat.beq i 422 then some (mM_readTold, 0) else none) else (bif Nat.beq i 425 then some (mM_readRead, 0) else none))) else (bif Nat.blt i 431 then (bif Nat.beq i 428 then some (mM_meaningOfCall, 0) else none) else (bif Nat.blt i 434 then (bif Nat.beq i 431 then some (mM_meaning, 0) else none) else (bif Nat.beq i 434 then some (mM_beginCall, 0) else none))))) else (bif Nat.blt i 458 then (bif Nat.blt i 449 then (bif Nat.blt i 443 then (bif Nat.beq i 437 then some (mM_endCall, 0) else none) else (bif Nat.blt i 446 then (bif Nat.beq i 443 then some (mM_loop, 0) else none) else (bif Nat.beq i 446 then some (mM_isInDef, 0) else none))) else (bif Nat.blt i 452 then (bif Nat.beq i 449 then some (mM_beginAll, 0) else none) else (bif Nat.blt i 455 then (bif Nat.beq i 452 then some (mM_operationOf, 1) else none) else (bif Nat.beq i 455 then some (mM_reduce, 0) else none)))) else (bif Nat.blt i 470 then (bif Nat.blt i 461 then (bif Nat.beq i 458 then some (mM_strength, 1) else none) else (bif Nat.blt i 467 then (bif Nat.beq i 461 then some (mM_endExpr, 0) else none) else (bif Nat.beq i 467 then some (mM_endStatementExpr, 0) else none))) else (bif Nat.blt i 476 then (bif Nat.blt i 473 then (bif Nat.beq i 470 then some (mM_readDecl, 0) else none) else (bif Nat.beq i 473 then some (mM_readStatement, 0) else none)) else (bif Nat.blt i 479 then (bif Nat.beq i 476 then some (mM_readOperand, 0) else none) else (bif Nat.beq i 479 then some (mM_readBehind, 0) else none))))))) else (bif Nat.blt i 607 then (bif Nat.blt i 562 then (bif Nat.blt i 526 then (bif Nat.blt i 516 then (bif Nat.blt i 485 then (bif Nat.beq i 482 then some (mM_statementDone, 0) else none) else (bif Nat.blt i 491 then (bif Nat.beq i 485 then some (mM_cutWords, 0) else none) else (bif Nat.beq i 491 then some (mM_goOver, 0) else none))) else (bif Nat.blt i 520 then (bif Nat.beq i 516 then some (mM_isCell, 0) else none) else (bif Nat.blt i 523 then (bif Nat.beq i 520 then some (mM_one, 1) else none) else (bif Nat.beq i 523 then some (mM_isByNothing, 1) else none)))) else (bif Nat.blt i 552 then (bif Nat.blt i 542 then (bif Nat.beq i 526 then some (mM_two, 1) else none) else (bif Nat.blt i 549 then (bif Nat.beq i 542 then some (mM_emit, 0) else none) else (bif Nat.beq i 549 then some (mM_newRegister, 0) else none))) else (bif Nat.blt i 555 then (bif Nat.beq i 552 then some (mM_lowerCall, 0) else none) else (bif Nat.blt i 558 then (bif Nat.beq i 555 then some (mM_landChain, 0) else none) else (bif Nat.beq i 558 then some (mM_giveOperand, 0) else none))))) else (bif Nat.blt i 588 then (bif Nat.blt i 572 then (bif Nat.blt i 565 then (bif Nat.beq i 562 then some (mM_lay, 0) else none) else (bif Nat.blt i 569 then (bif Nat.beq i 565 then some (mM_lowerValue, 0) else none) else (bif Nat.beq i 569 then some (mM_lowerStep, 0) else none))) else (bif Nat.blt i 575 then (bif Nat.beq i 572 then some (mM_openUp, 0) else none) else (bif Nat.blt i 584 then (bif Nat.beq i 575 then some (mM_loopOpen, 0) else none) else (bif Nat.beq i 584 then some (mM_isSure, 0) else none)))) else (bif Nat.blt i 598 then (bif Nat.blt i 592 then (bif Nat.beq i 588 then some (mM_whatOf, 0) else none) else (bif Nat.blt i 595 then (bif Nat.beq i 592 then some (mM_defines, 0) else none) else (bif Nat.beq i 595 then some (mM_make, 0) else none))) else (bif Nat.blt i 601 then (bif Nat.beq i 598 then some (mM_goesOn, 0) else none) else (bif Nat.blt i 604 then (bif Nat.beq i 601 then some (mM_flow, 0) else none) else (bif Nat.beq i 604 then some (mM_leaps, 0) else none)))))) else (bif Nat.blt i 651 then (bif Nat.blt i 629 then (bif Nat.blt i 619 then (bif Nat.blt i 610 then (bif Nat.beq i 607 then some (mM_findKnown, 0) else none) else (bif Nat.blt i 616 then (bif Nat.beq i 610 then some (mM_usesA, 0) else none) else (bif Nat.beq i 616 then some (mM_usesB, 0) else none))) else (bif Nat.blt i 622 then (bif Nat.beq i 619 then some (mM_has, 0) else none) else (bif Nat.blt i 626 then (bif Nat.beq i 622 then some (mM_isExpr, 0) else none) else (bif Nat.beq i 626 then some (mM_hand, 0) else none)))) else (bif Nat.blt i 642 then (bif Nat.blt i 632 then (bif Nat.beq i 629 then some (mM_findHeld, 0) else none) else (bif Nat.blt i 638 then (bif Nat.beq i 632 then some (mM_leaveOut, 0) else none) else (bif Nat.beq i 638 then some (mM_isWanted, 0) else none))) else (bif Nat.blt i 645 then (bif Nat.beq i 642 then some (mM_findLive, 0) else none) else (bif Nat.blt i 648 then (bif Nat.beq i 645 then some (mM_findReached, 0) else none) else (bif Nat.beq i 648 then some (mM_leaveUnreached, 0) else none))))) else (bif Nat.blt i 675 then (bif Nat.blt i 666 then (bif Nat.blt i 660 then (bif Nat.beq i 651 then some (mM_leads, 0) else none) else (bif Nat.blt i 663 then (bif Nat.beq i 660 then some (mM_putConstants, 0) else none) else (bif Nat.beq i 663 then some (mM_putCopies, 0) else none))) else (bif Nat.blt i 669 then (bif Nat.beq i 666 then some (mM_putOutDead, 0) else none) else (bif Nat.blt i 672 then (bif Nat.beq i 669 then some (mM_putJumps, 0) else none) else (bif Nat.beq i 672 then some (mM_findColours, 0) else none)))) else (bif Nat.blt i 687 then (bif Nat.blt i 681 then (bif Nat.beq i 675 then some (mM_looksUp, 0) else none) else (bif Nat.blt i 684 then (bif Nat.beq i 681 then some (mM_slotOf, 0) else none) else (bif Nat.beq i 684 then some (mM_valueA, 0) else none))) else (bif Nat.blt i 694 then (bif Nat.blt i 691 then (bif Nat.beq i 687 then some (mM_valueB, 0) else none) else (bif Nat.beq i 691 then some (mM_beginRun, 0) else none)) else (bif Nat.blt i 697 then (bif Nat.beq i 694 then some (mM_runText, 0) else none) else (bif Nat.beq i 697 then some (mM_runCode, 0) else none))))))))
def jp_M_13 (i : Nat) : Option (jm_M × Nat) := (bif Nat.blt i 73 then (bif Nat.blt i 46 then (bif Nat.blt i 30 then (bif Nat.blt i 21 then (bif Nat.blt i 17 then (bif Nat.beq i 7 then some (mP_feed, 0) else none) else (bif Nat.beq i 17 then some (mP_lower, 0) else none)) else (bif Nat.blt i 24 then (bif Nat.beq i 21 then some (mP_improve, 0) else none) else (bif Nat.beq i 24 then some (mP_code, 0) else none))) else (bif Nat.blt i 38 then (bif Nat.blt i 34 then (bif Nat.beq i 30 then some (mP_isKnown, 0) else none) else (bif Nat.beq i 34 then some (mP_known, 0) else none)) else (bif Nat.blt i 42 then (bif Nat.beq i 38 then some (mP_isLive, 0) else none) else (bif Nat.beq i 42 then some (mP_colour, 0) else none)))) else (bif Nat.blt i 58 then (bif Nat.blt i 52 then (bif Nat.blt i 49 then (bif Nat.beq i 46 then some (mP_input, 0) else none) else (bif Nat.beq i 49 then some (mP_run, 0) else none)) else (bif Nat.blt i 55 then (bif Nat.beq i 52 then some (mP_printed, 0) else none) else (bif Nat.beq i 55 then some (mP_told, 0) else none))) else (bif Nat.blt i 69 then (bif Nat.blt i 61 then (bif Nat.beq i 58 then some (mP_init, 2) else none) else (bif Nat.beq i 61 then some (mM_init, 2) else none)) else (bif Nat.blt i 70 then (bif Nat.beq i 69 then some (mM_feed, 0) else none) else (bif Nat.beq i 70 then some (mP_read, 0) else none))))) else (bif Nat.blt i 98 then (bif Nat.blt i 84 then (bif Nat.blt i 77 then (bif Nat.blt i 74 then (bif Nat.beq i 73 then some (mM_read, 0) else none) else (bif Nat.beq i 74 then some (mP_place, 0) else none)) else (bif Nat.blt i 81 then (bif Nat.beq i 77 then some (mM_place, 0) else none) else (bif Nat.beq i 81 then some (mM_lower, 0) else none))) else (bif Nat.blt i 91 then (bif Nat.blt i 85 then (bif Nat.beq i 84 then some (mM_improve, 0) else none) else (bif Nat.beq i 85 then some (mM_thrown, 0) else none)) else (bif Nat.blt i 95 then (bif Nat.beq i 91 then some (mM_code, 0) else none) else (bif Nat.beq i 95 then some (mM_isKnown, 0) else none)))) else (bif Nat.blt i 109 then (bif Nat.blt i 105 then (bif Nat.blt i 101 then (bif Nat.beq i 98 then some (mM_known, 0) else none) else (bif Nat.beq i 101 then some (mM_isLive, 0) else none)) else (bif Nat.blt i 108 then (bif Nat.beq i 105 then some (mM_colour, 0) else none) else (bif Nat.beq i 108 then some (mM_input, 0) else none))) else (bif Nat.blt i 115 then (bif Nat.blt i 112 then (bif Nat.beq i 109 then some (mP_clear, 0) else none) else (bif Nat.beq i 112 then some (mM_clear, 0) else none)) else (bif Nat.blt i 118 then (bif Nat.beq i 115 then some (mM_run, 0) else none) else (bif Nat.blt i 121 then (bif Nat.beq i 118 then some (mM_printed, 0) else none) else (bif Nat.beq i 121 then some (mM_told, 0) else none)))))))
def jp_M_14 (i : Nat) : Option (jm_M × Nat) := (bif Nat.beq i 13 then some (mArr_rangeCheck, 1) else none)
def jp_M_16 (i : Nat) : Option (jm_M × Nat) := (bif Nat.beq i 311 then some (mInt_numberOfTrailingZeros, 1) else none)
def jp_M (q i : Nat) : Option (jm_M × Nat) := match q with
  | 0 => jp_M_0 i
  | 1 => jp_M_1 i
  | 2 => jp_M_2 i
  | 3 => jp_M_3 i
  | 4 => jp_M_4 i
  | 5 => jp_M_5 i
  | 6 => jp_M_6 i
  | 8 => jp_M_8 i
  | 9 => jp_M_9 i
  | 11 => jp_M_11 i
  | 12 => jp_M_12 i
  | 13 => jp_M_13 i
  | 14 => jp_M_14 i
  | 16 => jp_M_16 i
  | _ => none
set_option maxRecDepth 20000 in
theorem jp_M_0_ok (i : Nat) : ∀ r, jp_M_0 i = some r → jp_M_P 0 i r := (jt_c (jt_c (jt_c (jt_c (jt_l (show jp_M_P 0 17 (mRe_init, 4) from ⟨mRe_init_ok, by decide +kernel, jw_s1 44 (by decide +kernel) rfl, rfl, rfl⟩)) (jt_c (jt_l (show jp_M_P 0 24 (mSc_init, 4) from ⟨mSc_init_ok, by decide +kernel, jw_s1 168 (by decide +kernel) rfl, rfl, rfl⟩)) (jt_l (show jp_M_P 0 38 (mMa_init, 4) from ⟨mMa_init_ok, by decide +kernel, jw_s2 11 (by decide +kernel) rfl, rfl, rfl⟩)))) (jt_c (jt_l (show jp_M_P 0 45 (mCo_init, 4) from ⟨mCo_init_ok, by decide +kernel, jw_s2 57 (by decide +kernel) rfl, rfl, rfl⟩)) (jt_c (jt_l (show jp_M_P 0 52 (mLi_init, 4) from ⟨mLi_init_ok, by decide +kernel, jw_s2 153 (by decide +kernel) rfl, rfl, rfl⟩)) (jt_l (show jp_M_P 0 59 (mKn_init, 4) from ⟨mKn_init_ok, by decide +kernel, jw_s2 183 (by decide +kernel) rfl, rfl, rfl⟩))))) (jt_c (jt_c (jt_l (show jp_M_P 0 66 (mIm_init, 2) from ⟨mIm_init_ok, jw_s2 209 (by decide +kernel) rfl, jw_s2 210 (by decide +kernel) rfl, rfl, rfl⟩)) (jt_c (jt_l (show jp_M_P 0 78 (mRu_init, 2) from ⟨mRu_init_ok, jw_s3 29 (by decide +kernel) rfl, jw_s3 30 (by decide +kernel) rfl, rfl, rfl⟩)) (jt_l (show jp_M_P 0 99 (mRe_begin, 0) from ⟨mRe_begin_ok, jw_s3 148 (by decide +kernel) rfl, jw_s3 149 (by decide +kernel) rfl, jw_s3 150 (by decide +kernel) rfl⟩)))) (jt_c (jt_c (jt_l (show jp_M_P 0 103 (mRe_isAtDecl, 0) from ⟨mRe_isAtDecl_ok, jw_s3 200 (by decide +kernel) rfl, jw_s3 201 (by decide +kernel) rfl, jw_s3 202 (by decide +kernel) rfl⟩)) (jt_l (show jp_M_P 0 107 (mRe_kind, 0) from ⟨mRe_kind_ok, jw_s3 208 (by decide +kernel) rfl, jw_s3 205 (by decide +kernel) rfl, jw_s3 206 (by decide +kernel) rfl⟩))) (jt_c (jt_l (show jp_M_P 0 111 (mRe_define, 0) from ⟨mRe_define_ok, jw_s3 209 (by decide +kernel) rfl, jw_s3 210 (by decide +kernel) rfl, jw_s3 211 (by decide +kernel) rfl⟩)) (jt_l (show jp_M_P 0 114 (mRe_tellRow, 0) from ⟨mRe_tellRow_ok, jw_s4 125 (by decide +kernel) rfl, jw_s4 126 (by decide +kernel) rfl, jw_s4 127 (by decide +kernel) rfl⟩)))))) (jt_c (jt_c (jt_c (jt_l (show jp_M_P 0 117 (mRe_tellInts, 0) from ⟨mRe_tellInts_ok, jw_s4 133 (by decide +kernel) rfl, jw_s4 34 (by decide +kernel) rfl, jw_s4 35 (by decide +kernel) rfl⟩)) (jt_c (jt_l (show jp_M_P 0 121 (mRe_beginStatements, 0) from ⟨mRe_beginStatements_ok, jw_s4 134 (by decide +kernel) rfl, jw_s4 135 (by decide +kernel) rfl, jw_s4 136 (by decide +kernel) rfl⟩)) (jt_l (show jp_M_P 0 124 (mRe_hasMore, 0) from ⟨mRe_hasMore_ok, jw_s4 138 (by decide +kernel) rfl, jw_s4 139 (by decide +kernel) rfl, jw_s4 140 (by decide +kernel) rfl⟩)))) (jt_c (jt_c (jt_l (show jp_M_P 0 127 (mRe_statement, 0) from ⟨mRe_statement_ok, jw_s4 142 (by decide +kernel) rfl, jw_s4 26 (by decide +kernel) rfl, jw_s4 27 (by decide +kernel) rfl⟩)) (jt_l (show jp_M_P 0 130 (mRe_finish, 0) from ⟨mRe_finish_ok, jw_s4 143 (by decide +kernel) rfl, jw_s4 144 (by decide +kernel) rfl, jw_s4 145 (by decide +kernel) rfl⟩))) (jt_c (jt_l (show jp_M_P 0 152 (mMa_make, 0) from ⟨mMa_make_ok, jw_s5 18 (by decide +kernel) rfl, jw_s5 19 (by decide +kernel) rfl, jw_s5 20 (by decide +kernel) rfl⟩)) (jt_l (show jp_M_P 0 156 (mLi_find, 0) from ⟨mLi_find_ok, jw_s5 109 (by decide +kernel) rfl, jw_s5 110 (by decide +kernel) rfl, jw_s5 111 (by decide +kernel) rfl⟩))))) (jt_c (jt_c (jt_l (show jp_M_P 0 165 (mIm_press, 0) from ⟨mIm_press_ok, jw_s5 158 (by decide +kernel) rfl, jw_s5 159 (by decide +kernel) rfl, jw_s5 160 (by decide +kernel) rfl⟩)) (jt_c (jt_l (show jp_M_P 0 191 (mP_knownBefore, 0) from ⟨mP_knownBefore_ok, jw_s7 177 (by decide +kernel) rfl, jw_s7 179 (by decide +kernel) rfl, jw_at 64 (by decide +kernel) rfl⟩)) (jt_l (show jp_M_P 0 202 (mKn_learn, 0) from ⟨mKn_learn_ok, jw_s7 182 (by decide +kernel) rfl, jw_s5 173 (by decide +kernel) rfl, jw_s5 174 (by decide +kernel) rfl⟩)))) (jt_c (jt_c (jt_l (show jp_M_P 0 205 (mKn_before, 0) from ⟨mKn_before_ok, jw_s7 183 (by decide +kernel) rfl, jw_s7 184 (by decide +kernel) rfl, jw_s7 185 (by decide +kernel) rfl⟩)) (jt_l (show jp_M_P 0 212 (mLi_isBehind, 0) from ⟨mLi_isBehind_ok, jw_s7 202 (by decide +kernel) rfl, jw_s7 112 (by decide +kernel) rfl, jw_s7 113 (by decide +kernel) rfl⟩))) (jt_c (jt_l (show jp_M_P 0 236 (mRu_goText, 0) from ⟨mRu_goText_ok, jw_s7 230 (by decide +kernel) rfl, jw_s7 231 (by decide +kernel) rfl, jw_s7 232 (by decide +kernel) rfl⟩)) (jt_l (show jp_M_P 0 240 (mRu_goCode, 0) from ⟨mRu_goCode_ok, jw_s8 50 (by decide +kernel) rfl, jw_s8 51 (by decide +kernel) rfl, jw_s8 52 (by decide +kernel) rfl⟩)))))))
set_option maxRecDepth 20000 in
theorem jp_M_1_ok (i : Nat) : ∀ r, jp_M_1 i = some r → jp_M_P 1 i r := (jt_c (jt_c (jt_l (show jp_M_P 1 63 (mCo_begin, 0) from ⟨mCo_begin_ok, jw_s5 166 (by decide +kernel) rfl, jw_s5 23 (by decide +kernel) rfl, jw_s5 24 (by decide +kernel) rfl⟩)) (jt_l (show jp_M_P 1 67 (mCo_put, 0) from ⟨mCo_put_ok, jw_s5 49 (by decide +kernel) rfl, jw_s5 50 (by decide +kernel) rfl, jw_s5 51 (by decide +kernel) rfl⟩))) (jt_c (jt_l (show jp_M_P 1 71 (mCo_leaps, 0) from ⟨mCo_leaps_ok, jw_s5 133 (by decide +kernel) rfl, jw_s5 134 (by decide +kernel) rfl, jw_s5 135 (by decide +kernel) rfl⟩)) (jt_c (jt_l (show jp_M_P 1 75 (mCo_leapsInside, 0) from ⟨mCo_leapsInside_ok, jw_s5 180 (by decide +kernel) rfl, jw_s5 130 (by decide +kernel) rfl, jw_s5 131 (by decide +kernel) rfl⟩)) (jt_l (show jp_M_P 1 78 (mCo_goesOn, 0) from ⟨mCo_goesOn_ok, jw_s6 13 (by decide +kernel) rfl, jw_s5 122 (by decide +kernel) rfl, jw_s5 123 (by decide +kernel) rfl⟩)))))
set_option maxRecDepth 20000 in
theorem jp_M_2_ok (i : Nat) : ∀ r, jp_M_2 i = some r → jp_M_P 2 i r := (jt_c (jt_c (jt_c (jt_c (jt_l (show jp_M_P 2 40 (mCo_findReached, 0) from ⟨mCo_findReached_ok, jw_s6 9 (by decide +kernel) rfl, jw_s6 10 (by decide +kernel) rfl, jw_s6 11 (by decide +kernel) rfl⟩)) (jt_l (show jp_M_P 2 45 (mCo_findLeaders, 0) from ⟨mCo_findLeaders_ok, jw_s6 14 (by decide +kernel) rfl, jw_s5 177 (by decide +kernel) rfl, jw_s5 178 (by decide +kernel) rfl⟩))) (jt_c (jt_l (show jp_M_P 2 55 (mArr_fill3, 1) from ⟨mArr_fill3_ok, jw_s6 15 (by decide +kernel) rfl, jw_s6 16 (by decide +kernel) rfl⟩)) (jt_l (show jp_M_P 2 67 (mCo_isWorkedOut, 0) from ⟨mCo_isWorkedOut_ok, jw_s7 39 (by decide +kernel) rfl, jw_s5 234 (by decide +kernel) rfl, jw_s5 235 (by decide +kernel) rfl⟩)))) (jt_c (jt_c (jt_l (show jp_M_P 2 71 (mHo_factFor, 0) from ⟨mHo_factFor_ok, jw_s7 40 (by decide +kernel) rfl, jw_s7 42 (by decide +kernel) rfl, jw_at 54 (by decide +kernel) rfl⟩)) (jt_l (show jp_M_P 2 81 (mHo_follow, 0) from ⟨mHo_follow_ok, jw_s7 56 (by decide +kernel) rfl, jw_s7 58 (by decide +kernel) rfl, jw_at 57 (by decide +kernel) rfl⟩))) (jt_c (jt_l (show jp_M_P 2 88 (mCo_usesA, 0) from ⟨mCo_usesA_ok, jw_s7 44 (by decide +kernel) rfl, jw_s5 143 (by decide +kernel) rfl, jw_s5 144 (by decide +kernel) rfl⟩)) (jt_c (jt_l (show jp_M_P 2 92 (mCo_usesB, 0) from ⟨mCo_usesB_ok, jw_s7 45 (by decide +kernel) rfl, jw_s5 147 (by decide +kernel) rfl, jw_s5 148 (by decide +kernel) rfl⟩)) (jt_l (show jp_M_P 2 96 (mHo_isOf, 0) from ⟨mHo_isOf_ok, jw_s7 46 (by decide +kernel) rfl, jw_s7 48 (by decide +kernel) rfl, jw_at 55 (by decide +kernel) rfl⟩)))))) (jt_c (jt_c (jt_c (jt_l (show jp_M_P 2 101 (mHo_endBy, 0) from ⟨mHo_endBy_ok, jw_s7 50 (by decide +kernel) rfl, jw_s7 52 (by decide +kernel) rfl, jw_at 56 (by decide +kernel) rfl⟩)) (jt_l (show jp_M_P 2 105 (mHo_begin, 0) from ⟨mHo_begin_ok, jw_s7 60 (by decide +kernel) rfl, jw_s7 61 (by decide +kernel) rfl, jw_s7 62 (by decide +kernel) rfl⟩))) (jt_c (jt_l (show jp_M_P 2 109 (mCo_lastOf, 0) from ⟨mCo_lastOf_ok, jw_s7 65 (by decide +kernel) rfl, jw_s5 198 (by decide +kernel) rfl, jw_s5 199 (by decide +kernel) rfl⟩)) (jt_l (show jp_M_P 2 113 (mHo_pass, 0) from ⟨mHo_pass_ok, jw_s7 66 (by decide +kernel) rfl, jw_s7 67 (by decide +kernel) rfl, jw_s7 68 (by decide +kernel) rfl⟩)))) (jt_c (jt_c (jt_l (show jp_M_P 2 117 (mCo_leapsInside, 0) from ⟨mCo_leapsInside_ok, jw_s7 71 (by decide +kernel) rfl, jw_s5 130 (by decide +kernel) rfl, jw_s5 131 (by decide +kernel) rfl⟩)) (jt_l (show jp_M_P 2 120 (mHo_flow, 0) from ⟨mHo_flow_ok, jw_s7 72 (by decide +kernel) rfl, jw_s7 74 (by decide +kernel) rfl, jw_at 58 (by decide +kernel) rfl⟩))) (jt_c (jt_l (show jp_M_P 2 123 (mCo_goesOn, 0) from ⟨mCo_goesOn_ok, jw_s7 76 (by decide +kernel) rfl, jw_s5 122 (by decide +kernel) rfl, jw_s5 123 (by decide +kernel) rfl⟩)) (jt_c (jt_l (show jp_M_P 2 132 (mCo_defines, 0) from ⟨mCo_defines_ok, jw_s7 70 (by decide +kernel) rfl, jw_s5 138 (by decide +kernel) rfl, jw_s5 139 (by decide +kernel) rfl⟩)) (jt_l (show jp_M_P 2 135 (mLong_numberOfTrailingZeros, 1) from ⟨mLong_numberOfTrailingZeros_ok, jw_s7 86 (by decide +kernel) rfl, jw_s7 87 (by decide +kernel) rfl⟩)))))))
set_option maxRecDepth 20000 in
theorem jp_M_3_ok (i : Nat) : ∀ r, jp_M_3 i = some r → jp_M_P 3 i r := (jt_c (jt_c (jt_c (jt_c (jt_c (jt_l (show jp_M_P 3 11 (mHo_init, 4) from ⟨mHo_init_ok, by decide +kernel, jw_s2 216 (by decide +kernel) rfl, rfl, rfl⟩)) (jt_l (show jp_M_P 3 20 (mLi_init, 4) from ⟨mLi_init_ok, by decide +kernel, jw_s2 153 (by decide +kernel) rfl, rfl, rfl⟩))) (jt_c (jt_l (show jp_M_P 3 29 (mCo_copyFrom, 0) from ⟨mCo_copyFrom_ok, jw_s5 162 (by decide +kernel) rfl, jw_s5 163 (by decide +kernel) rfl, jw_s5 164 (by decide +kernel) rfl⟩)) (jt_l (show jp_M_P 3 40 (mIm_putConstants, 0) from ⟨mIm_putConstants_ok, jw_s5 168 (by decide +kernel) rfl, jw_s5 170 (by decide +kernel) rfl, jw_at 49 (by decide +kernel) rfl⟩)))) (jt_c (jt_c (jt_l (show jp_M_P 3 44 (mIm_putCopies, 0) from ⟨mIm_putCopies_ok, jw_s6 1 (by decide +kernel) rfl, jw_s6 3 (by decide +kernel) rfl, jw_at 53 (by decide +kernel) rfl⟩)) (jt_l (show jp_M_P 3 47 (mIm_leaveDead, 0) from ⟨mIm_leaveDead_ok, jw_s7 106 (by decide +kernel) rfl, jw_s7 108 (by decide +kernel) rfl, jw_at 60 (by decide +kernel) rfl⟩))) (jt_c (jt_l (show jp_M_P 3 50 (mIm_mendJumps, 0) from ⟨mIm_mendJumps_ok, jw_s7 118 (by decide +kernel) rfl, jw_s7 120 (by decide +kernel) rfl, jw_at 61 (by decide +kernel) rfl⟩)) (jt_c (jt_l (show jp_M_P 3 53 (mLi_find, 0) from ⟨mLi_find_ok, jw_s7 110 (by decide +kernel) rfl, jw_s5 110 (by decide +kernel) rfl, jw_s5 111 (by decide +kernel) rfl⟩)) (jt_l (show jp_M_P 3 56 (mLi_giveColours, 0) from ⟨mLi_giveColours_ok, jw_s7 134 (by decide +kernel) rfl, jw_s7 135 (by decide +kernel) rfl, jw_s7 136 (by decide +kernel) rfl⟩)))))) (jt_c (jt_c (jt_c (jt_l (show jp_M_P 3 59 (mKn_learn, 0) from ⟨mKn_learn_ok, jw_s5 172 (by decide +kernel) rfl, jw_s5 173 (by decide +kernel) rfl, jw_s5 174 (by decide +kernel) rfl⟩)) (jt_l (show jp_M_P 3 71 (mKn_begin, 0) from ⟨mKn_begin_ok, jw_s5 223 (by decide +kernel) rfl, jw_s5 194 (by decide +kernel) rfl, jw_s5 195 (by decide +kernel) rfl⟩))) (jt_c (jt_l (show jp_M_P 3 78 (mIm_putConstant, 0) from ⟨mIm_putConstant_ok, jw_s5 224 (by decide +kernel) rfl, jw_s5 226 (by decide +kernel) rfl, jw_at 52 (by decide +kernel) rfl⟩)) (jt_l (show jp_M_P 3 82 (mKn_pass, 0) from ⟨mKn_pass_ok, jw_s6 0 (by decide +kernel) rfl, jw_s5 202 (by decide +kernel) rfl, jw_s5 203 (by decide +kernel) rfl⟩)))) (jt_c (jt_c (jt_l (show jp_M_P 3 86 (mKn_first, 0) from ⟨mKn_first_ok, jw_s5 228 (by decide +kernel) rfl, jw_s5 207 (by decide +kernel) rfl, jw_s5 208 (by decide +kernel) rfl⟩)) (jt_l (show jp_M_P 3 90 (mCo_usesA, 0) from ⟨mCo_usesA_ok, jw_s5 229 (by decide +kernel) rfl, jw_s5 143 (by decide +kernel) rfl, jw_s5 144 (by decide +kernel) rfl⟩))) (jt_c (jt_l (show jp_M_P 3 103 (mKn_second, 0) from ⟨mKn_second_ok, jw_s5 231 (by decide +kernel) rfl, jw_s5 212 (by decide +kernel) rfl, jw_s5 213 (by decide +kernel) rfl⟩)) (jt_c (jt_l (show jp_M_P 3 106 (mCo_usesB, 0) from ⟨mCo_usesB_ok, jw_s5 232 (by decide +kernel) rfl, jw_s5 147 (by decide +kernel) rfl, jw_s5 148 (by decide +kernel) rfl⟩)) (jt_l (show jp_M_P 3 115 (mCo_isWorkedOut, 0) from ⟨mCo_isWorkedOut_ok, jw_s5 233 (by decide +kernel) rfl, jw_s5 234 (by decide +kernel) rfl, jw_s5 235 (by decide +kernel) rfl⟩))))))) (jt_c (jt_c (jt_c (jt_c (jt_l (show jp_M_P 3 118 (mP_isDivision, 3) from ⟨mP_isDivision_ok, by decide +kernel, jw_s5 217 (by decide +kernel) rfl⟩)) (jt_l (show jp_M_P 3 124 (mP_work, 3) from ⟨mP_work_ok, by decide +kernel, jw_s5 220 (by decide +kernel) rfl⟩))) (jt_c (jt_l (show jp_M_P 3 128 (mCo_put, 0) from ⟨mCo_put_ok, jw_s5 239 (by decide +kernel) rfl, jw_s5 50 (by decide +kernel) rfl, jw_s5 51 (by decide +kernel) rfl⟩)) (jt_l (show jp_M_P 3 132 (mHo_find, 0) from ⟨mHo_find_ok, jw_s6 5 (by decide +kernel) rfl, jw_s6 6 (by decide +kernel) rfl, jw_s6 7 (by decide +kernel) rfl⟩)))) (jt_c (jt_c (jt_l (show jp_M_P 3 133 (mHo_begin, 0) from ⟨mHo_begin_ok, jw_s7 77 (by decide +kernel) rfl, jw_s7 61 (by decide +kernel) rfl, jw_s7 62 (by decide +kernel) rfl⟩)) (jt_l (show jp_M_P 3 137 (mIm_putCopy, 0) from ⟨mIm_putCopy_ok, jw_s7 78 (by decide +kernel) rfl, jw_s7 80 (by decide +kernel) rfl, jw_at 59 (by decide +kernel) rfl⟩))) (jt_c (jt_l (show jp_M_P 3 140 (mHo_pass, 0) from ⟨mHo_pass_ok, jw_s7 101 (by decide +kernel) rfl, jw_s7 67 (by decide +kernel) rfl, jw_s7 68 (by decide +kernel) rfl⟩)) (jt_c (jt_l (show jp_M_P 3 141 (mCo_sweep, 0) from ⟨mCo_sweep_ok, jw_s7 102 (by decide +kernel) rfl, jw_s7 103 (by decide +kernel) rfl, jw_s7 104 (by decide +kernel) rfl⟩)) (jt_l (show jp_M_P 3 145 (mHo_original, 0) from ⟨mHo_original_ok, jw_s7 82 (by decide +kernel) rfl, jw_s7 83 (by decide +kernel) rfl, jw_s7 84 (by decide +kernel) rfl⟩)))))) (jt_c (jt_c (jt_c (jt_l (show jp_M_P 3 149 (mHo_holder, 0) from ⟨mHo_holder_ok, jw_s7 93 (by decide +kernel) rfl, jw_s7 94 (by decide +kernel) rfl, jw_s7 95 (by decide +kernel) rfl⟩)) (jt_l (show jp_M_P 3 153 (mCo_leaveOut, 0) from ⟨mCo_leaveOut_ok, jw_s7 97 (by decide +kernel) rfl, jw_s7 98 (by decide +kernel) rfl, jw_s7 99 (by decide +kernel) rfl⟩))) (jt_c (jt_l (show jp_M_P 3 156 (mLi_isBehind, 0) from ⟨mLi_isBehind_ok, jw_s7 111 (by decide +kernel) rfl, jw_s7 112 (by decide +kernel) rfl, jw_s7 113 (by decide +kernel) rfl⟩)) (jt_c (jt_l (show jp_M_P 3 160 (mIm_isHarmless, 1) from ⟨mIm_isHarmless_ok, jw_s7 115 (by decide +kernel) rfl, jw_s7 116 (by decide +kernel) rfl⟩)) (jt_l (show jp_M_P 3 166 (mIm_settleTests, 1) from ⟨mIm_settleTests_ok, jw_s7 122 (by decide +kernel) rfl, jw_s7 123 (by decide +kernel) rfl⟩))))) (jt_c (jt_c (jt_l (show jp_M_P 3 169 (mIm_leaveUnreached, 1) from ⟨mIm_leaveUnreached_ok, jw_s7 125 (by decide +kernel) rfl, jw_s7 126 (by decide +kernel) rfl⟩)) (jt_l (show jp_M_P 3 172 (mIm_goThrough, 1) from ⟨mIm_goThrough_ok, jw_s7 129 (by decide +kernel) rfl, jw_s7 130 (by decide +kernel) rfl⟩))) (jt_c (jt_l (show jp_M_P 3 175 (mCo_leaps, 0) from ⟨mCo_leaps_ok, jw_s7 133 (by decide +kernel) rfl, jw_s5 134 (by decide +kernel) rfl, jw_s5 135 (by decide +kernel) rfl⟩)) (jt_c (jt_l (show jp_M_P 3 178 (mCo_findReached, 0) from ⟨mCo_findReached_ok, jw_s7 128 (by decide +kernel) rfl, jw_s6 10 (by decide +kernel) rfl, jw_s6 11 (by decide +kernel) rfl⟩)) (jt_l (show jp_M_P 3 181 (mCo_leapsInside, 0) from ⟨mCo_leapsInside_ok, jw_s7 132 (by decide +kernel) rfl, jw_s5 130 (by decide +kernel) rfl, jw_s5 131 (by decide +kernel) rfl⟩))))))))
set_option maxRecDepth 20000 in
theorem jp_M_4_ok (i : Nat) : ∀ r, jp_M_4 i = some r → jp_M_P 4 i r := (jt_c (jt_c (jt_c (jt_l (show jp_M_P 4 30 (mCo_findLeaders, 0) from ⟨mCo_findLeaders_ok, jw_s5 176 (by decide +kernel) rfl, jw_s5 177 (by decide +kernel) rfl, jw_s5 178 (by decide +kernel) rfl⟩)) (jt_c (jt_l (show jp_M_P 4 42 (mArr_fill2, 1) from ⟨mArr_fill2_ok, jw_s5 181 (by decide +kernel) rfl, jw_s5 114 (by decide +kernel) rfl⟩)) (jt_l (show jp_M_P 4 48 (mKn_flow, 0) from ⟨mKn_flow_ok, jw_s5 182 (by decide +kernel) rfl, jw_s5 184 (by decide +kernel) rfl, jw_at 50 (by decide +kernel) rfl⟩)))) (jt_c (jt_c (jt_l (show jp_M_P 4 53 (mKn_follow, 0) from ⟨mKn_follow_ok, jw_s5 189 (by decide +kernel) rfl, jw_s5 191 (by decide +kernel) rfl, jw_at 51 (by decide +kernel) rfl⟩)) (jt_l (show jp_M_P 4 56 (mKn_begin, 0) from ⟨mKn_begin_ok, jw_s5 193 (by decide +kernel) rfl, jw_s5 194 (by decide +kernel) rfl, jw_s5 195 (by decide +kernel) rfl⟩))) (jt_c (jt_l (show jp_M_P 4 60 (mCo_lastOf, 0) from ⟨mCo_lastOf_ok, jw_s5 197 (by decide +kernel) rfl, jw_s5 198 (by decide +kernel) rfl, jw_s5 199 (by decide +kernel) rfl⟩)) (jt_l (show jp_M_P 4 64 (mKn_pass, 0) from ⟨mKn_pass_ok, jw_s5 201 (by decide +kernel) rfl, jw_s5 202 (by decide +kernel) rfl, jw_s5 203 (by decide +kernel) rfl⟩))))) (jt_c (jt_c (jt_c (jt_l (show jp_M_P 4 70 (mCo_goesOn, 0) from ⟨mCo_goesOn_ok, jw_s5 222 (by decide +kernel) rfl, jw_s5 122 (by decide +kernel) rfl, jw_s5 123 (by decide +kernel) rfl⟩)) (jt_l (show jp_M_P 4 74 (mKn_first, 0) from ⟨mKn_first_ok, jw_s5 206 (by decide +kernel) rfl, jw_s5 207 (by decide +kernel) rfl, jw_s5 208 (by decide +kernel) rfl⟩))) (jt_c (jt_l (show jp_M_P 4 92 (mCo_usesA, 0) from ⟨mCo_usesA_ok, jw_s5 210 (by decide +kernel) rfl, jw_s5 143 (by decide +kernel) rfl, jw_s5 144 (by decide +kernel) rfl⟩)) (jt_l (show jp_M_P 4 98 (mCo_usesB, 0) from ⟨mCo_usesB_ok, jw_s5 215 (by decide +kernel) rfl, jw_s5 147 (by decide +kernel) rfl, jw_s5 148 (by decide +kernel) rfl⟩)))) (jt_c (jt_c (jt_l (show jp_M_P 4 104 (mCo_defines, 0) from ⟨mCo_defines_ok, jw_s5 205 (by decide +kernel) rfl, jw_s5 138 (by decide +kernel) rfl, jw_s5 139 (by decide +kernel) rfl⟩)) (jt_l (show jp_M_P 4 107 (mKn_second, 0) from ⟨mKn_second_ok, jw_s5 211 (by decide +kernel) rfl, jw_s5 212 (by decide +kernel) rfl, jw_s5 213 (by decide +kernel) rfl⟩))) (jt_c (jt_l (show jp_M_P 4 110 (mP_isDivision, 3) from ⟨mP_isDivision_ok, by decide +kernel, jw_s5 217 (by decide +kernel) rfl⟩)) (jt_l (show jp_M_P 4 113 (mP_work, 3) from ⟨mP_work_ok, by decide +kernel, jw_s5 220 (by decide +kernel) rfl⟩))))))
set_option maxRecDepth 20000 in
theorem jp_M_5_ok (i : Nat) : ∀ r, jp_M_5 i = some r → jp_M_P 5 i r := (jt_c (jt_c (jt_c (jt_l (show jp_M_P 5 32 (mArr_fill2, 1) from ⟨mArr_fill2_ok, jw_s5 113 (by decide +kernel) rfl, jw_s5 114 (by decide +kernel) rfl⟩)) (jt_l (show jp_M_P 5 45 (mLi_look, 0) from ⟨mLi_look_ok, jw_s5 117 (by decide +kernel) rfl, jw_s5 119 (by decide +kernel) rfl, jw_at 47 (by decide +kernel) rfl⟩))) (jt_c (jt_l (show jp_M_P 5 49 (mCo_goesOn, 0) from ⟨mCo_goesOn_ok, jw_s5 121 (by decide +kernel) rfl, jw_s5 122 (by decide +kernel) rfl, jw_s5 123 (by decide +kernel) rfl⟩)) (jt_c (jt_l (show jp_M_P 5 53 (mLi_join, 0) from ⟨mLi_join_ok, jw_s5 125 (by decide +kernel) rfl, jw_s5 127 (by decide +kernel) rfl, jw_at 48 (by decide +kernel) rfl⟩)) (jt_l (show jp_M_P 5 57 (mCo_leapsInside, 0) from ⟨mCo_leapsInside_ok, jw_s5 129 (by decide +kernel) rfl, jw_s5 130 (by decide +kernel) rfl, jw_s5 131 (by decide +kernel) rfl⟩))))) (jt_c (jt_c (jt_l (show jp_M_P 5 63 (mCo_defines, 0) from ⟨mCo_defines_ok, jw_s5 137 (by decide +kernel) rfl, jw_s5 138 (by decide +kernel) rfl, jw_s5 139 (by decide +kernel) rfl⟩)) (jt_c (jt_l (show jp_M_P 5 68 (mCo_usesA, 0) from ⟨mCo_usesA_ok, jw_s5 142 (by decide +kernel) rfl, jw_s5 143 (by decide +kernel) rfl, jw_s5 144 (by decide +kernel) rfl⟩)) (jt_l (show jp_M_P 5 74 (mCo_usesB, 0) from ⟨mCo_usesB_ok, jw_s5 146 (by decide +kernel) rfl, jw_s5 147 (by decide +kernel) rfl, jw_s5 148 (by decide +kernel) rfl⟩)))) (jt_c (jt_l (show jp_M_P 5 80 (mLi_setApart, 0) from ⟨mLi_setApart_ok, jw_s7 138 (by decide +kernel) rfl, jw_s7 140 (by decide +kernel) rfl, jw_at 62 (by decide +kernel) rfl⟩)) (jt_c (jt_l (show jp_M_P 5 87 (mLi_leastColour, 0) from ⟨mLi_leastColour_ok, jw_s7 143 (by decide +kernel) rfl, jw_s7 145 (by decide +kernel) rfl, jw_at 63 (by decide +kernel) rfl⟩)) (jt_l (show jp_M_P 5 103 (mLi_isBehind, 0) from ⟨mLi_isBehind_ok, jw_s7 142 (by decide +kernel) rfl, jw_s7 112 (by decide +kernel) rfl, jw_s7 113 (by decide +kernel) rfl⟩))))))
set_option maxRecDepth 20000 in
theorem jp_M_6_ok (i : Nat) : ∀ r, jp_M_6 i = some r → jp_M_P 6 i r := (jt_c (jt_c (jt_c (jt_c (jt_l (show jp_M_P 6 49 (mCo_begin, 0) from ⟨mCo_begin_ok, jw_s5 22 (by decide +kernel) rfl, jw_s5 23 (by decide +kernel) rfl, jw_s5 24 (by decide +kernel) rfl⟩)) (jt_l (show jp_M_P 6 62 (mArr_fill, 1) from ⟨mArr_fill_ok, jw_s5 29 (by decide +kernel) rfl, jw_s5 30 (by decide +kernel) rfl⟩))) (jt_c (jt_l (show jp_M_P 6 71 (mCo_takeRegister, 0) from ⟨mCo_takeRegister_ok, jw_s5 32 (by decide +kernel) rfl, jw_s5 33 (by decide +kernel) rfl, jw_s5 34 (by decide +kernel) rfl⟩)) (jt_c (jt_l (show jp_M_P 6 81 (mCo_fits, 0) from ⟨mCo_fits_ok, jw_s5 36 (by decide +kernel) rfl, jw_s5 37 (by decide +kernel) rfl, jw_s5 38 (by decide +kernel) rfl⟩)) (jt_l (show jp_M_P 6 89 (mMa_arrive, 0) from ⟨mMa_arrive_ok, jw_s5 41 (by decide +kernel) rfl, jw_s5 43 (by decide +kernel) rfl, jw_at 32 (by decide +kernel) rfl⟩))))) (jt_c (jt_c (jt_l (show jp_M_P 6 98 (mMa_takeStep, 0) from ⟨mMa_takeStep_ok, jw_s5 53 (by decide +kernel) rfl, jw_s5 55 (by decide +kernel) rfl, jw_at 33 (by decide +kernel) rfl⟩)) (jt_l (show jp_M_P 6 109 (mCo_add, 0) from ⟨mCo_add_ok, jw_s5 45 (by decide +kernel) rfl, jw_s5 46 (by decide +kernel) rfl, jw_s5 47 (by decide +kernel) rfl⟩))) (jt_c (jt_l (show jp_M_P 6 116 (mMa_takeWork, 0) from ⟨mMa_takeWork_ok, jw_s5 57 (by decide +kernel) rfl, jw_s5 59 (by decide +kernel) rfl, jw_at 34 (by decide +kernel) rfl⟩)) (jt_c (jt_l (show jp_M_P 6 119 (mMa_push, 0) from ⟨mMa_push_ok, jw_s5 65 (by decide +kernel) rfl, jw_s5 67 (by decide +kernel) rfl, jw_at 36 (by decide +kernel) rfl⟩)) (jt_l (show jp_M_P 6 122 (mMa_pushCopy, 0) from ⟨mMa_pushCopy_ok, jw_s5 69 (by decide +kernel) rfl, jw_s5 71 (by decide +kernel) rfl, jw_at 37 (by decide +kernel) rfl⟩)))))) (jt_c (jt_c (jt_c (jt_l (show jp_M_P 6 126 (mMa_lay, 0) from ⟨mMa_lay_ok, jw_s5 73 (by decide +kernel) rfl, jw_s5 75 (by decide +kernel) rfl, jw_at 38 (by decide +kernel) rfl⟩)) (jt_l (show jp_M_P 6 129 (mMa_tellInt, 0) from ⟨mMa_tellInt_ok, jw_s5 77 (by decide +kernel) rfl, jw_s5 79 (by decide +kernel) rfl, jw_at 39 (by decide +kernel) rfl⟩))) (jt_c (jt_l (show jp_M_P 6 132 (mMa_call, 0) from ⟨mMa_call_ok, jw_s5 81 (by decide +kernel) rfl, jw_s5 83 (by decide +kernel) rfl, jw_at 40 (by decide +kernel) rfl⟩)) (jt_c (jt_l (show jp_M_P 6 135 (mMa_giveBack, 0) from ⟨mMa_giveBack_ok, jw_s5 85 (by decide +kernel) rfl, jw_s5 87 (by decide +kernel) rfl, jw_at 41 (by decide +kernel) rfl⟩)) (jt_l (show jp_M_P 6 138 (mMa_endCall, 0) from ⟨mMa_endCall_ok, jw_s5 93 (by decide +kernel) rfl, jw_s5 95 (by decide +kernel) rfl, jw_at 43 (by decide +kernel) rfl⟩))))) (jt_c (jt_c (jt_l (show jp_M_P 6 141 (mMa_pop, 0) from ⟨mMa_pop_ok, jw_s5 61 (by decide +kernel) rfl, jw_s5 63 (by decide +kernel) rfl, jw_at 35 (by decide +kernel) rfl⟩)) (jt_l (show jp_M_P 6 144 (mMa_test, 0) from ⟨mMa_test_ok, jw_s5 97 (by decide +kernel) rfl, jw_s5 99 (by decide +kernel) rfl, jw_at 44 (by decide +kernel) rfl⟩))) (jt_c (jt_l (show jp_M_P 6 147 (mMa_endTruth, 0) from ⟨mMa_endTruth_ok, jw_s5 101 (by decide +kernel) rfl, jw_s5 103 (by decide +kernel) rfl, jw_at 45 (by decide +kernel) rfl⟩)) (jt_c (jt_l (show jp_M_P 6 150 (mMa_show, 0) from ⟨mMa_show_ok, jw_s5 105 (by decide +kernel) rfl, jw_s5 107 (by decide +kernel) rfl, jw_at 46 (by decide +kernel) rfl⟩)) (jt_l (show jp_M_P 6 153 (mMa_leap, 0) from ⟨mMa_leap_ok, jw_s5 89 (by decide +kernel) rfl, jw_s5 91 (by decide +kernel) rfl, jw_at 42 (by decide +kernel) rfl⟩)))))))
set_option maxRecDepth 20000 in
theorem jp_M_8_ok (i : Nat) : ∀ r, jp_M_8 i = some r → jp_M_P 8 i r := (jt_c (jt_c (jt_c (jt_c (jt_c (jt_l (show jp_M_P 8 11 (mWo_init, 4) from ⟨mWo_init_ok, by decide +kernel, jw_s1 50 (by decide +kernel) rfl, rfl, rfl⟩)) (jt_l (show jp_M_P 8 20 (mNa_init, 4) from ⟨mNa_init_ok, by decide +kernel, jw_s1 81 (by decide +kernel) rfl, rfl, rfl⟩))) (jt_c (jt_l (show jp_M_P 8 41 (mWo_split, 0) from ⟨mWo_split_ok, jw_s3 152 (by decide +kernel) rfl, jw_s3 153 (by decide +kernel) rfl, jw_s3 154 (by decide +kernel) rfl⟩)) (jt_c (jt_l (show jp_M_P 8 45 (mNa_forget, 0) from ⟨mNa_forget_ok, jw_s3 192 (by decide +kernel) rfl, jw_s3 193 (by decide +kernel) rfl, jw_s3 194 (by decide +kernel) rfl⟩)) (jt_l (show jp_M_P 8 52 (mSc_forget, 0) from ⟨mSc_forget_ok, jw_s3 196 (by decide +kernel) rfl, jw_s3 197 (by decide +kernel) rfl, jw_s3 198 (by decide +kernel) rfl⟩))))) (jt_c (jt_c (jt_l (show jp_M_P 8 90 (mSc_add, 0) from ⟨mSc_add_ok, jw_s4 41 (by decide +kernel) rfl, jw_s4 42 (by decide +kernel) rfl, jw_s4 43 (by decide +kernel) rfl⟩)) (jt_l (show jp_M_P 8 100 (mRe_kind, 0) from ⟨mRe_kind_ok, jw_s3 204 (by decide +kernel) rfl, jw_s3 205 (by decide +kernel) rfl, jw_s3 206 (by decide +kernel) rfl⟩))) (jt_c (jt_l (show jp_M_P 8 107 (mRe_go, 0) from ⟨mRe_go_ok, jw_s3 213 (by decide +kernel) rfl, jw_s3 215 (by decide +kernel) rfl, jw_at 5 (by decide +kernel) rfl⟩)) (jt_c (jt_l (show jp_M_P 8 110 (mRe_misfit, 0) from ⟨mRe_misfit_ok, jw_s3 217 (by decide +kernel) rfl, jw_s3 219 (by decide +kernel) rfl, jw_at 6 (by decide +kernel) rfl⟩)) (jt_l (show jp_M_P 8 117 (mNa_isInBlock, 0) from ⟨mNa_isInBlock_ok, jw_s3 221 (by decide +kernel) rfl, jw_s3 222 (by decide +kernel) rfl, jw_s3 223 (by decide +kernel) rfl⟩)))))) (jt_c (jt_c (jt_c (jt_l (show jp_M_P 8 121 (mRe_soften, 0) from ⟨mRe_soften_ok, jw_s3 225 (by decide +kernel) rfl, jw_s3 227 (by decide +kernel) rfl, jw_at 7 (by decide +kernel) rfl⟩)) (jt_l (show jp_M_P 8 125 (mNa_tell, 0) from ⟨mNa_tell_ok, jw_s4 13 (by decide +kernel) rfl, jw_s4 14 (by decide +kernel) rfl, jw_s4 15 (by decide +kernel) rfl⟩))) (jt_c (jt_l (show jp_M_P 8 129 (mSc_takeGlobal, 0) from ⟨mSc_takeGlobal_ok, jw_s4 37 (by decide +kernel) rfl, jw_s4 38 (by decide +kernel) rfl, jw_s4 39 (by decide +kernel) rfl⟩)) (jt_c (jt_l (show jp_M_P 8 132 (mSc_takeLocal, 0) from ⟨mSc_takeLocal_ok, jw_s4 5 (by decide +kernel) rfl, jw_s4 6 (by decide +kernel) rfl, jw_s4 7 (by decide +kernel) rfl⟩)) (jt_l (show jp_M_P 8 135 (mRe_tellName, 0) from ⟨mRe_tellName_ok, jw_s4 9 (by decide +kernel) rfl, jw_s4 11 (by decide +kernel) rfl, jw_at 12 (by decide +kernel) rfl⟩))))) (jt_c (jt_c (jt_l (show jp_M_P 8 138 (mRe_expect, 0) from ⟨mRe_expect_ok, jw_s4 1 (by decide +kernel) rfl, jw_s4 3 (by decide +kernel) rfl, jw_at 11 (by decide +kernel) rfl⟩)) (jt_c (jt_l (show jp_M_P 8 150 (mRe_openOne, 0) from ⟨mRe_openOne_ok, jw_s3 237 (by decide +kernel) rfl, jw_s3 239 (by decide +kernel) rfl, jw_at 10 (by decide +kernel) rfl⟩)) (jt_l (show jp_M_P 8 165 (mRe_tellList, 0) from ⟨mRe_tellList_ok, jw_s3 229 (by decide +kernel) rfl, jw_s3 231 (by decide +kernel) rfl, jw_at 8 (by decide +kernel) rfl⟩)))) (jt_c (jt_l (show jp_M_P 8 172 (mRe_takeItems, 0) from ⟨mRe_takeItems_ok, jw_s4 21 (by decide +kernel) rfl, jw_s4 23 (by decide +kernel) rfl, jw_at 14 (by decide +kernel) rfl⟩)) (jt_c (jt_l (show jp_M_P 8 187 (mRe_openRound, 0) from ⟨mRe_openRound_ok, jw_s3 233 (by decide +kernel) rfl, jw_s3 235 (by decide +kernel) rfl, jw_at 9 (by decide +kernel) rfl⟩)) (jt_l (show jp_M_P 8 190 (mRe_closeRound, 0) from ⟨mRe_closeRound_ok, jw_s4 17 (by decide +kernel) rfl, jw_s4 19 (by decide +kernel) rfl, jw_at 13 (by decide +kernel) rfl⟩))))))) (jt_c (jt_c (jt_c (jt_c (jt_l (show jp_M_P 8 196 (mRe_takeBlock, 0) from ⟨mRe_takeBlock_ok, jw_s4 29 (by decide +kernel) rfl, jw_s4 31 (by decide +kernel) rfl, jw_at 15 (by decide +kernel) rfl⟩)) (jt_l (show jp_M_P 8 199 (mRe_tellInts, 0) from ⟨mRe_tellInts_ok, jw_s4 33 (by decide +kernel) rfl, jw_s4 34 (by decide +kernel) rfl, jw_s4 35 (by decide +kernel) rfl⟩))) (jt_c (jt_l (show jp_M_P 8 203 (mRe_takeIf, 0) from ⟨mRe_takeIf_ok, jw_s4 45 (by decide +kernel) rfl, jw_s4 47 (by decide +kernel) rfl, jw_at 16 (by decide +kernel) rfl⟩)) (jt_c (jt_l (show jp_M_P 8 206 (mRe_takeWhile, 0) from ⟨mRe_takeWhile_ok, jw_s4 93 (by decide +kernel) rfl, jw_s4 95 (by decide +kernel) rfl, jw_at 24 (by decide +kernel) rfl⟩)) (jt_l (show jp_M_P 8 209 (mRe_takeDo, 0) from ⟨mRe_takeDo_ok, jw_s4 101 (by decide +kernel) rfl, jw_s4 103 (by decide +kernel) rfl, jw_at 25 (by decide +kernel) rfl⟩))))) (jt_c (jt_c (jt_l (show jp_M_P 8 212 (mRe_nextKind, 0) from ⟨mRe_nextKind_ok, jw_s4 61 (by decide +kernel) rfl, jw_s4 63 (by decide +kernel) rfl, jw_at 20 (by decide +kernel) rfl⟩)) (jt_c (jt_l (show jp_M_P 8 215 (mRe_takeNamed, 0) from ⟨mRe_takeNamed_ok, jw_s4 105 (by decide +kernel) rfl, jw_s4 107 (by decide +kernel) rfl, jw_at 26 (by decide +kernel) rfl⟩)) (jt_l (show jp_M_P 8 218 (mRe_takeSimple, 0) from ⟨mRe_takeSimple_ok, jw_s4 113 (by decide +kernel) rfl, jw_s4 115 (by decide +kernel) rfl, jw_at 28 (by decide +kernel) rfl⟩)))) (jt_c (jt_l (show jp_M_P 8 221 (mRe_statement, 0) from ⟨mRe_statement_ok, jw_s4 25 (by decide +kernel) rfl, jw_s4 26 (by decide +kernel) rfl, jw_s4 27 (by decide +kernel) rfl⟩)) (jt_c (jt_l (show jp_M_P 8 224 (mRe_takeExpr, 0) from ⟨mRe_takeExpr_ok, jw_s4 49 (by decide +kernel) rfl, jw_s4 51 (by decide +kernel) rfl, jw_at 17 (by decide +kernel) rfl⟩)) (jt_l (show jp_M_P 8 230 (mSc_aim, 0) from ⟨mSc_aim_ok, jw_s4 97 (by decide +kernel) rfl, jw_s4 98 (by decide +kernel) rfl, jw_s4 99 (by decide +kernel) rfl⟩)))))) (jt_c (jt_c (jt_c (jt_l (show jp_M_P 8 233 (mRe_takeLeave, 0) from ⟨mRe_takeLeave_ok, jw_s4 117 (by decide +kernel) rfl, jw_s4 119 (by decide +kernel) rfl, jw_at 29 (by decide +kernel) rfl⟩)) (jt_l (show jp_M_P 8 240 (mRe_takeRead, 0) from ⟨mRe_takeRead_ok, jw_s4 121 (by decide +kernel) rfl, jw_s4 123 (by decide +kernel) rfl, jw_at 30 (by decide +kernel) rfl⟩))) (jt_c (jt_l (show jp_M_P 8 243 (mRe_wanted, 0) from ⟨mRe_wanted_ok, jw_s4 109 (by decide +kernel) rfl, jw_s4 111 (by decide +kernel) rfl, jw_at 27 (by decide +kernel) rfl⟩)) (jt_c (jt_l (show jp_M_P 8 246 (mNa_find, 0) from ⟨mNa_find_ok, jw_s4 65 (by decide +kernel) rfl, jw_s4 66 (by decide +kernel) rfl, jw_s4 67 (by decide +kernel) rfl⟩)) (jt_l (show jp_M_P 8 253 (mRe_pend, 0) from ⟨mRe_pend_ok, jw_s4 53 (by decide +kernel) rfl, jw_s4 55 (by decide +kernel) rfl, jw_at 18 (by decide +kernel) rfl⟩))))) (jt_c (jt_c (jt_l (show jp_M_P 8 257 (mRe_takeOperand, 0) from ⟨mRe_takeOperand_ok, jw_s4 57 (by decide +kernel) rfl, jw_s4 59 (by decide +kernel) rfl, jw_at 19 (by decide +kernel) rfl⟩)) (jt_c (jt_l (show jp_M_P 8 261 (mRe_isBinary, 1) from ⟨mRe_isBinary_ok, jw_s4 72 (by decide +kernel) rfl, jw_s4 73 (by decide +kernel) rfl⟩)) (jt_l (show jp_M_P 8 268 (mRe_settle, 0) from ⟨mRe_settle_ok, jw_s4 77 (by decide +kernel) rfl, jw_s4 79 (by decide +kernel) rfl, jw_at 21 (by decide +kernel) rfl⟩)))) (jt_c (jt_l (show jp_M_P 8 271 (mRe_takeBinary, 0) from ⟨mRe_takeBinary_ok, jw_s4 81 (by decide +kernel) rfl, jw_s4 83 (by decide +kernel) rfl, jw_at 22 (by decide +kernel) rfl⟩)) (jt_c (jt_l (show jp_M_P 8 274 (mRe_takeClosing, 0) from ⟨mRe_takeClosing_ok, jw_s4 89 (by decide +kernel) rfl, jw_s4 91 (by decide +kernel) rfl, jw_at 23 (by decide +kernel) rfl⟩)) (jt_l (show jp_M_P 8 277 (mSc_wrap, 0) from ⟨mSc_wrap_ok, jw_s4 85 (by decide +kernel) rfl, jw_s4 86 (by decide +kernel) rfl, jw_s4 87 (by decide +kernel) rfl⟩))))))))
set_option maxRecDepth 20000 in
theorem jp_M_9_ok (i : Nat) : ∀ r, jp_M_9 i = some r → jp_M_P 9 i r := (jt_c (jt_c (jt_c (jt_c (jt_l (show jp_M_P 9 55 (mArr_fill, 1) from ⟨mArr_fill_ok, jw_s7 238 (by decide +kernel) rfl, jw_s5 30 (by decide +kernel) rfl⟩)) (jt_l (show jp_M_P 9 69 (mRu_begin, 0) from ⟨mRu_begin_ok, jw_s7 234 (by decide +kernel) rfl, jw_s7 236 (by decide +kernel) rfl, jw_at 65 (by decide +kernel) rfl⟩))) (jt_c (jt_l (show jp_M_P 9 90 (mRu_takeWork, 0) from ⟨mRu_takeWork_ok, jw_s8 0 (by decide +kernel) rfl, jw_s8 2 (by decide +kernel) rfl, jw_at 66 (by decide +kernel) rfl⟩)) (jt_c (jt_l (show jp_M_P 9 94 (mRu_takePlain, 0) from ⟨mRu_takePlain_ok, jw_s8 14 (by decide +kernel) rfl, jw_s8 16 (by decide +kernel) rfl, jw_at 69 (by decide +kernel) rfl⟩)) (jt_l (show jp_M_P 9 98 (mRu_takeWay, 0) from ⟨mRu_takeWay_ok, jw_s8 30 (by decide +kernel) rfl, jw_s8 32 (by decide +kernel) rfl, jw_at 73 (by decide +kernel) rfl⟩))))) (jt_c (jt_c (jt_l (show jp_M_P 9 101 (mRu_pop, 0) from ⟨mRu_pop_ok, jw_s8 4 (by decide +kernel) rfl, jw_s8 6 (by decide +kernel) rfl, jw_at 67 (by decide +kernel) rfl⟩)) (jt_l (show jp_M_P 9 105 (mP_isDivision, 3) from ⟨mP_isDivision_ok, by decide +kernel, jw_s5 217 (by decide +kernel) rfl⟩))) (jt_c (jt_l (show jp_M_P 9 109 (mP_work, 3) from ⟨mP_work_ok, by decide +kernel, jw_s5 220 (by decide +kernel) rfl⟩)) (jt_c (jt_l (show jp_M_P 9 113 (mRu_push, 0) from ⟨mRu_push_ok, jw_s8 10 (by decide +kernel) rfl, jw_s8 12 (by decide +kernel) rfl, jw_at 68 (by decide +kernel) rfl⟩)) (jt_l (show jp_M_P 9 117 (mRu_cellPlace, 0) from ⟨mRu_cellPlace_ok, jw_s8 18 (by decide +kernel) rfl, jw_s8 20 (by decide +kernel) rfl, jw_at 70 (by decide +kernel) rfl⟩)))))) (jt_c (jt_c (jt_c (jt_l (show jp_M_P 9 121 (mRu_takeInput, 0) from ⟨mRu_takeInput_ok, jw_s8 22 (by decide +kernel) rfl, jw_s8 24 (by decide +kernel) rfl, jw_at 71 (by decide +kernel) rfl⟩)) (jt_l (show jp_M_P 9 124 (mRu_show, 0) from ⟨mRu_show_ok, jw_s8 26 (by decide +kernel) rfl, jw_s8 28 (by decide +kernel) rfl, jw_at 72 (by decide +kernel) rfl⟩))) (jt_c (jt_l (show jp_M_P 9 127 (mRu_burn, 0) from ⟨mRu_burn_ok, jw_s8 34 (by decide +kernel) rfl, jw_s8 36 (by decide +kernel) rfl, jw_at 74 (by decide +kernel) rfl⟩)) (jt_c (jt_l (show jp_M_P 9 130 (mRu_call, 0) from ⟨mRu_call_ok, jw_s8 38 (by decide +kernel) rfl, jw_s8 40 (by decide +kernel) rfl, jw_at 75 (by decide +kernel) rfl⟩)) (jt_l (show jp_M_P 9 134 (mRu_goBack, 0) from ⟨mRu_goBack_ok, jw_s8 42 (by decide +kernel) rfl, jw_s8 44 (by decide +kernel) rfl, jw_at 76 (by decide +kernel) rfl⟩))))) (jt_c (jt_c (jt_l (show jp_M_P 9 137 (mRu_tellEarly, 0) from ⟨mRu_tellEarly_ok, jw_s8 46 (by decide +kernel) rfl, jw_s8 48 (by decide +kernel) rfl, jw_at 77 (by decide +kernel) rfl⟩)) (jt_c (jt_l (show jp_M_P 9 153 (mRu_takeInstruction, 0) from ⟨mRu_takeInstruction_ok, jw_s8 54 (by decide +kernel) rfl, jw_s8 56 (by decide +kernel) rfl, jw_at 78 (by decide +kernel) rfl⟩)) (jt_l (show jp_M_P 9 158 (mCo_usesA, 0) from ⟨mCo_usesA_ok, jw_s8 58 (by decide +kernel) rfl, jw_s5 143 (by decide +kernel) rfl, jw_s5 144 (by decide +kernel) rfl⟩)))) (jt_c (jt_l (show jp_M_P 9 164 (mCo_usesB, 0) from ⟨mCo_usesB_ok, jw_s8 59 (by decide +kernel) rfl, jw_s5 147 (by decide +kernel) rfl, jw_s5 148 (by decide +kernel) rfl⟩)) (jt_c (jt_l (show jp_M_P 9 170 (mCo_defines, 0) from ⟨mCo_defines_ok, jw_s8 60 (by decide +kernel) rfl, jw_s5 138 (by decide +kernel) rfl, jw_s5 139 (by decide +kernel) rfl⟩)) (jt_l (show jp_M_P 9 173 (mRu_resultOf, 0) from ⟨mRu_resultOf_ok, jw_s8 61 (by decide +kernel) rfl, jw_s8 63 (by decide +kernel) rfl, jw_at 79 (by decide +kernel) rfl⟩)))))))
set_option maxRecDepth 20000 in
theorem jp_M_11_ok (i : Nat) : ∀ r, jp_M_11 i = some r → jp_M_P 11 i r := (jt_c (jt_c (jt_c (jt_l (show jp_M_P 11 32 (mWo_isLetter, 1) from ⟨mWo_isLetter_ok, jw_s3 156 (by decide +kernel) rfl, jw_s3 157 (by decide +kernel) rfl⟩)) (jt_l (show jp_M_P 11 36 (mWo_takeName, 0) from ⟨mWo_takeName_ok, jw_s3 159 (by decide +kernel) rfl, jw_s3 161 (by decide +kernel) rfl, jw_at 0 (by decide +kernel) rfl⟩))) (jt_c (jt_l (show jp_M_P 11 40 (mWo_isFigure, 1) from ⟨mWo_isFigure_ok, jw_s3 163 (by decide +kernel) rfl, jw_s3 164 (by decide +kernel) rfl⟩)) (jt_l (show jp_M_P 11 43 (mWo_takeNumber, 0) from ⟨mWo_takeNumber_ok, jw_s3 176 (by decide +kernel) rfl, jw_s3 178 (by decide +kernel) rfl, jw_at 3 (by decide +kernel) rfl⟩)))) (jt_c (jt_c (jt_l (show jp_M_P 11 46 (mWo_takeSign, 0) from ⟨mWo_takeSign_ok, jw_s3 182 (by decide +kernel) rfl, jw_s3 184 (by decide +kernel) rfl, jw_at 4 (by decide +kernel) rfl⟩)) (jt_l (show jp_M_P 11 49 (mWo_add, 0) from ⟨mWo_add_ok, jw_s3 170 (by decide +kernel) rfl, jw_s3 172 (by decide +kernel) rfl, jw_at 2 (by decide +kernel) rfl⟩))) (jt_c (jt_l (show jp_M_P 11 53 (mWo_stopAt, 0) from ⟨mWo_stopAt_ok, jw_s3 166 (by decide +kernel) rfl, jw_s3 168 (by decide +kernel) rfl, jw_at 1 (by decide +kernel) rfl⟩)) (jt_c (jt_l (show jp_M_P 11 65 (mWo_longSign, 1) from ⟨mWo_longSign_ok, jw_s3 186 (by decide +kernel) rfl, jw_s3 187 (by decide +kernel) rfl⟩)) (jt_l (show jp_M_P 11 69 (mWo_shortSign, 1) from ⟨mWo_shortSign_ok, jw_s3 189 (by decide +kernel) rfl, jw_s3 190 (by decide +kernel) rfl⟩))))))
set_option maxRecDepth 20000 in
theorem jp_M_12_ok (i : Nat) : ∀ r, jp_M_12 i = some r → jp_M_P 12 i r := (jt_c (jt_c (jt_c (jt_c (jt_c (jt_c (jt_l (show jp_M_P 12 231 (mM_isFine, 1) from ⟨mM_isFine_ok, jw_s9 192 (by decide +kernel) rfl, jw_s9 193 (by decide +kernel) rfl⟩)) (jt_c (jt_l (show jp_M_P 12 265 (mM_isSmall, 1) from ⟨mM_isSmall_ok, jw_s9 203 (by decide +kernel) rfl, jw_s9 204 (by decide +kernel) rfl⟩)) (jt_l (show jp_M_P 12 268 (mM_byteAt, 0) from ⟨mM_byteAt_ok, jw_s9 206 (by decide +kernel) rfl, jw_s9 208 (by decide +kernel) rfl, jw_at 81 (by decide +kernel) rfl⟩)))) (jt_c (jt_l (show jp_M_P 12 272 (mM_isFigure, 1) from ⟨mM_isFigure_ok, jw_s9 210 (by decide +kernel) rfl, jw_s9 211 (by decide +kernel) rfl⟩)) (jt_c (jt_l (show jp_M_P 12 275 (mM_keyOf, 1) from ⟨mM_keyOf_ok, jw_s9 213 (by decide +kernel) rfl, jw_s9 214 (by decide +kernel) rfl⟩)) (jt_l (show jp_M_P 12 287 (mM_pairOf, 1) from ⟨mM_pairOf_ok, jw_s9 232 (by decide +kernel) rfl, jw_s9 233 (by decide +kernel) rfl⟩))))) (jt_c (jt_c (jt_l (show jp_M_P 12 291 (mM_isSign, 1) from ⟨mM_isSign_ok, jw_s9 235 (by decide +kernel) rfl, jw_s9 236 (by decide +kernel) rfl⟩)) (jt_c (jt_l (show jp_M_P 12 303 (mM_tell, 0) from ⟨mM_tell_ok, jw_s10 82 (by decide +kernel) rfl, jw_s10 84 (by decide +kernel) rfl, jw_at 103 (by decide +kernel) rfl⟩)) (jt_l (show jp_M_P 12 313 (mM_fail, 0) from ⟨mM_fail_ok, jw_s10 14 (by decide +kernel) rfl, jw_s10 16 (by decide +kernel) rfl, jw_at 86 (by decide +kernel) rfl⟩)))) (jt_c (jt_l (show jp_M_P 12 316 (mM_isTold, 0) from ⟨mM_isTold_ok, jw_s10 22 (by decide +kernel) rfl, jw_s10 24 (by decide +kernel) rfl, jw_at 88 (by decide +kernel) rfl⟩)) (jt_c (jt_l (show jp_M_P 12 323 (mM_addName, 0) from ⟨mM_addName_ok, jw_s10 26 (by decide +kernel) rfl, jw_s10 28 (by decide +kernel) rfl, jw_at 89 (by decide +kernel) rfl⟩)) (jt_l (show jp_M_P 12 339 (mM_misfit, 0) from ⟨mM_misfit_ok, jw_s10 10 (by decide +kernel) rfl, jw_s10 12 (by decide +kernel) rfl, jw_at 85 (by decide +kernel) rfl⟩)))))) (jt_c (jt_c (jt_c (jt_l (show jp_M_P 12 345 (mM_opens, 0) from ⟨mM_opens_ok, jw_s10 46 (by decide +kernel) rfl, jw_s10 48 (by decide +kernel) rfl, jw_at 94 (by decide +kernel) rfl⟩)) (jt_c (jt_l (show jp_M_P 12 349 (mM_take, 0) from ⟨mM_take_ok, jw_s10 34 (by decide +kernel) rfl, jw_s10 36 (by decide +kernel) rfl, jw_at 91 (by decide +kernel) rfl⟩)) (jt_l (show jp_M_P 12 358 (mM_newInt, 0) from ⟨mM_newInt_ok, jw_s10 18 (by decide +kernel) rfl, jw_s10 20 (by decide +kernel) rfl, jw_at 87 (by decide +kernel) rfl⟩)))) (jt_c (jt_l (show jp_M_P 12 361 (mM_step, 0) from ⟨mM_step_ok, jw_s10 30 (by decide +kernel) rfl, jw_s10 32 (by decide +kernel) rfl, jw_at 90 (by decide +kernel) rfl⟩)) (jt_c (jt_l (show jp_M_P 12 367 (mM_takeOpen, 0) from ⟨mM_takeOpen_ok, jw_s10 42 (by decide +kernel) rfl, jw_s10 44 (by decide +kernel) rfl, jw_at 93 (by decide +kernel) rfl⟩)) (jt_l (show jp_M_P 12 370 (mM_takeClose, 0) from ⟨mM_takeClose_ok, jw_s10 50 (by decide +kernel) rfl, jw_s10 52 (by decide +kernel) rfl, jw_at 95 (by decide +kernel) rfl⟩))))) (jt_c (jt_c (jt_l (show jp_M_P 12 376 (mM_push, 0) from ⟨mM_push_ok, jw_s10 58 (by decide +kernel) rfl, jw_s10 60 (by decide +kernel) rfl, jw_at 97 (by decide +kernel) rfl⟩)) (jt_c (jt_l (show jp_M_P 12 380 (mM_beginBlock, 0) from ⟨mM_beginBlock_ok, jw_s10 62 (by decide +kernel) rfl, jw_s10 64 (by decide +kernel) rfl, jw_at 98 (by decide +kernel) rfl⟩)) (jt_l (show jp_M_P 12 383 (mM_tellChain, 0) from ⟨mM_tellChain_ok, jw_s10 78 (by decide +kernel) rfl, jw_s10 80 (by decide +kernel) rfl, jw_at 102 (by decide +kernel) rfl⟩)))) (jt_c (jt_l (show jp_M_P 12 386 (mM_endBlock, 0) from ⟨mM_endBlock_ok, jw_s10 86 (by decide +kernel) rfl, jw_s10 88 (by decide +kernel) rfl, jw_at 104 (by decide +kernel) rfl⟩)) (jt_c (jt_l (show jp_M_P 12 389 (mM_readInts, 0) from ⟨mM_readInts_ok, jw_s10 6 (by decide +kernel) rfl, jw_s10 8 (by decide +kernel) rfl, jw_at 84 (by decide +kernel) rfl⟩)) (jt_l (show jp_M_P 12 393 (mM_readRow, 0) from ⟨mM_readRow_ok, jw_s10 38 (by decide +kernel) rfl, jw_s10 40 (by decide +kernel) rfl, jw_at 92 (by decide +kernel) rfl⟩))))))) (jt_c (jt_c (jt_c (jt_c (jt_l (show jp_M_P 12 396 (mM_readDef, 0) from ⟨mM_readDef_ok, jw_s10 54 (by decide +kernel) rfl, jw_s10 56 (by decide +kernel) rfl, jw_at 96 (by decide +kernel) rfl⟩)) (jt_c (jt_l (show jp_M_P 12 402 (mM_top, 0) from ⟨mM_top_ok, jw_s10 70 (by decide +kernel) rfl, jw_s10 72 (by decide +kernel) rfl, jw_at 100 (by decide +kernel) rfl⟩)) (jt_l (show jp_M_P 12 406 (mM_endDef, 0) from ⟨mM_endDef_ok, jw_s10 74 (by decide +kernel) rfl, jw_s10 76 (by decide +kernel) rfl, jw_at 101 (by decide +kernel) rfl⟩)))) (jt_c (jt_l (show jp_M_P 12 409 (mM_readNamed, 0) from ⟨mM_readNamed_ok, jw_s10 90 (by decide +kernel) rfl, jw_s10 92 (by decide +kernel) rfl, jw_at 105 (by decide +kernel) rfl⟩)) (jt_c (jt_l (show jp_M_P 12 412 (mM_readTested, 0) from ⟨mM_readTested_ok, jw_s10 114 (by decide +kernel) rfl, jw_s10 116 (by decide +kernel) rfl, jw_at 111 (by decide +kernel) rfl⟩)) (jt_l (show jp_M_P 12 416 (mM_begun, 0) from ⟨mM_begun_ok, jw_s10 102 (by decide +kernel) rfl, jw_s10 104 (by decide +kernel) rfl, jw_at 108 (by decide +kernel) rfl⟩))))) (jt_c (jt_c (jt_l (show jp_M_P 12 419 (mM_readLeave, 0) from ⟨mM_readLeave_ok, jw_s10 118 (by decide +kernel) rfl, jw_s10 120 (by decide +kernel) rfl, jw_at 112 (by decide +kernel) rfl⟩)) (jt_c (jt_l (show jp_M_P 12 422 (mM_readTold, 0) from ⟨mM_readTold_ok, jw_s10 126 (by decide +kernel) rfl, jw_s10 128 (by decide +kernel) rfl, jw_at 114 (by decide +kernel) rfl⟩)) (jt_l (show jp_M_P 12 425 (mM_readRead, 0) from ⟨mM_readRead_ok, jw_s10 134 (by decide +kernel) rfl, jw_s10 136 (by decide +kernel) rfl, jw_at 116 (by decide +kernel) rfl⟩)))) (jt_c (jt_l (show jp_M_P 12 428 (mM_meaningOfCall, 0) from ⟨mM_meaningOfCall_ok, jw_s10 94 (by decide +kernel) rfl, jw_s10 96 (by decide +kernel) rfl, jw_at 106 (by decide +kernel) rfl⟩)) (jt_c (jt_l (show jp_M_P 12 431 (mM_meaning, 0) from ⟨mM_meaning_ok, jw_s10 98 (by decide +kernel) rfl, jw_s10 100 (by decide +kernel) rfl, jw_at 107 (by decide +kernel) rfl⟩)) (jt_l (show jp_M_P 12 434 (mM_beginCall, 0) from ⟨mM_beginCall_ok, jw_s10 106 (by decide +kernel) rfl, jw_s10 108 (by decide +kernel) rfl, jw_at 109 (by decide +kernel) rfl⟩)))))) (jt_c (jt_c (jt_c (jt_l (show jp_M_P 12 437 (mM_endCall, 0) from ⟨mM_endCall_ok, jw_s10 110 (by decide +kernel) rfl, jw_s10 112 (by decide +kernel) rfl, jw_at 110 (by decide +kernel) rfl⟩)) (jt_c (jt_l (show jp_M_P 12 443 (mM_loop, 0) from ⟨mM_loop_ok, jw_s10 122 (by decide +kernel) rfl, jw_s10 124 (by decide +kernel) rfl, jw_at 113 (by decide +kernel) rfl⟩)) (jt_l (show jp_M_P 12 446 (mM_isInDef, 0) from ⟨mM_isInDef_ok, jw_s10 130 (by decide +kernel) rfl, jw_s10 132 (by decide +kernel) rfl, jw_at 115 (by decide +kernel) rfl⟩)))) (jt_c (jt_l (show jp_M_P 12 449 (mM_beginAll, 0) from ⟨mM_beginAll_ok, jw_s10 142 (by decide +kernel) rfl, jw_s10 144 (by decide +kernel) rfl, jw_at 118 (by decide +kernel) rfl⟩)) (jt_c (jt_l (show jp_M_P 12 452 (mM_operationOf, 1) from ⟨mM_operationOf_ok, jw_s10 154 (by decide +kernel) rfl, jw_s10 155 (by decide +kernel) rfl⟩)) (jt_l (show jp_M_P 12 455 (mM_reduce, 0) from ⟨mM_reduce_ok, jw_s10 150 (by decide +kernel) rfl, jw_s10 152 (by decide +kernel) rfl, jw_at 120 (by decide +kernel) rfl⟩))))) (jt_c (jt_c (jt_l (show jp_M_P 12 458 (mM_strength, 1) from ⟨mM_strength_ok, jw_s10 157 (by decide +kernel) rfl, jw_s10 158 (by decide +kernel) rfl⟩)) (jt_c (jt_l (show jp_M_P 12 461 (mM_endExpr, 0) from ⟨mM_endExpr_ok, jw_s10 160 (by decide +kernel) rfl, jw_s10 162 (by decide +kernel) rfl, jw_at 121 (by decide +kernel) rfl⟩)) (jt_l (show jp_M_P 12 467 (mM_endStatementExpr, 0) from ⟨mM_endStatementExpr_ok, jw_s10 164 (by decide +kernel) rfl, jw_s10 166 (by decide +kernel) rfl, jw_at 122 (by decide +kernel) rfl⟩)))) (jt_c (jt_c (jt_l (show jp_M_P 12 470 (mM_readDecl, 0) from ⟨mM_readDecl_ok, jw_s10 2 (by decide +kernel) rfl, jw_s10 4 (by decide +kernel) rfl, jw_at 83 (by decide +kernel) rfl⟩)) (jt_l (show jp_M_P 12 473 (mM_readStatement, 0) from ⟨mM_readStatement_ok, jw_s10 66 (by decide +kernel) rfl, jw_s10 68 (by decide +kernel) rfl, jw_at 99 (by decide +kernel) rfl⟩))) (jt_c (jt_l (show jp_M_P 12 476 (mM_readOperand, 0) from ⟨mM_readOperand_ok, jw_s10 138 (by decide +kernel) rfl, jw_s10 140 (by decide +kernel) rfl, jw_at 117 (by decide +kernel) rfl⟩)) (jt_l (show jp_M_P 12 479 (mM_readBehind, 0) from ⟨mM_readBehind_ok, jw_s10 146 (by decide +kernel) rfl, jw_s10 148 (by decide +kernel) rfl, jw_at 119 (by decide +kernel) rfl⟩)))))))) (jt_c (jt_c (jt_c (jt_c (jt_c (jt_l (show jp_M_P 12 482 (mM_statementDone, 0) from ⟨mM_statementDone_ok, jw_s10 168 (by decide +kernel) rfl, jw_s10 170 (by decide +kernel) rfl, jw_at 123 (by decide +kernel) rfl⟩)) (jt_c (jt_l (show jp_M_P 12 485 (mM_cutWords, 0) from ⟨mM_cutWords_ok, jw_s9 199 (by decide +kernel) rfl, jw_s9 201 (by decide +kernel) rfl, jw_at 80 (by decide +kernel) rfl⟩)) (jt_l (show jp_M_P 12 491 (mM_goOver, 0) from ⟨mM_goOver_ok, jw_s9 238 (by decide +kernel) rfl, jw_s10 0 (by decide +kernel) rfl, jw_at 82 (by decide +kernel) rfl⟩)))) (jt_c (jt_l (show jp_M_P 12 516 (mM_isCell, 0) from ⟨mM_isCell_ok, jw_s11 81 (by decide +kernel) rfl, jw_s11 83 (by decide +kernel) rfl, jw_at 154 (by decide +kernel) rfl⟩)) (jt_c (jt_l (show jp_M_P 12 520 (mM_one, 1) from ⟨mM_one_ok, jw_s11 12 (by decide +kernel) rfl, jw_s11 13 (by decide +kernel) rfl⟩)) (jt_l (show jp_M_P 12 523 (mM_isByNothing, 1) from ⟨mM_isByNothing_ok, jw_s11 15 (by decide +kernel) rfl, jw_s11 16 (by decide +kernel) rfl⟩))))) (jt_c (jt_c (jt_l (show jp_M_P 12 526 (mM_two, 1) from ⟨mM_two_ok, jw_s11 18 (by decide +kernel) rfl, jw_s11 19 (by decide +kernel) rfl⟩)) (jt_c (jt_l (show jp_M_P 12 542 (mM_emit, 0) from ⟨mM_emit_ok, jw_s10 200 (by decide +kernel) rfl, jw_s10 202 (by decide +kernel) rfl, jw_at 127 (by decide +kernel) rfl⟩)) (jt_l (show jp_M_P 12 549 (mM_newRegister, 0) from ⟨mM_newRegister_ok, jw_s10 188 (by decide +kernel) rfl, jw_s10 190 (by decide +kernel) rfl, jw_at 124 (by decide +kernel) rfl⟩)))) (jt_c (jt_l (show jp_M_P 12 552 (mM_lowerCall, 0) from ⟨mM_lowerCall_ok, jw_s10 192 (by decide +kernel) rfl, jw_s10 194 (by decide +kernel) rfl, jw_at 125 (by decide +kernel) rfl⟩)) (jt_c (jt_l (show jp_M_P 12 555 (mM_landChain, 0) from ⟨mM_landChain_ok, jw_s10 204 (by decide +kernel) rfl, jw_s10 206 (by decide +kernel) rfl, jw_at 128 (by decide +kernel) rfl⟩)) (jt_l (show jp_M_P 12 558 (mM_giveOperand, 0) from ⟨mM_giveOperand_ok, jw_s10 208 (by decide +kernel) rfl, jw_s10 210 (by decide +kernel) rfl, jw_at 129 (by decide +kernel) rfl⟩)))))) (jt_c (jt_c (jt_c (jt_l (show jp_M_P 12 562 (mM_lay, 0) from ⟨mM_lay_ok, jw_s10 196 (by decide +kernel) rfl, jw_s10 198 (by decide +kernel) rfl, jw_at 126 (by decide +kernel) rfl⟩)) (jt_c (jt_l (show jp_M_P 12 565 (mM_lowerValue, 0) from ⟨mM_lowerValue_ok, jw_s10 212 (by decide +kernel) rfl, jw_s10 214 (by decide +kernel) rfl, jw_at 130 (by decide +kernel) rfl⟩)) (jt_l (show jp_M_P 12 569 (mM_lowerStep, 0) from ⟨mM_lowerStep_ok, jw_s10 220 (by decide +kernel) rfl, jw_s10 222 (by decide +kernel) rfl, jw_at 132 (by decide +kernel) rfl⟩)))) (jt_c (jt_l (show jp_M_P 12 572 (mM_openUp, 0) from ⟨mM_openUp_ok, jw_s10 216 (by decide +kernel) rfl, jw_s10 218 (by decide +kernel) rfl, jw_at 131 (by decide +kernel) rfl⟩)) (jt_c (jt_l (show jp_M_P 12 575 (mM_loopOpen, 0) from ⟨mM_loopOpen_ok, jw_s10 224 (by decide +kernel) rfl, jw_s10 226 (by decide +kernel) rfl, jw_at 133 (by decide +kernel) rfl⟩)) (jt_l (show jp_M_P 12 584 (mM_isSure, 0) from ⟨mM_isSure_ok, jw_s11 4 (by decide +kernel) rfl, jw_s11 6 (by decide +kernel) rfl, jw_at 137 (by decide +kernel) rfl⟩))))) (jt_c (jt_c (jt_l (show jp_M_P 12 588 (mM_whatOf, 0) from ⟨mM_whatOf_ok, jw_s11 8 (by decide +kernel) rfl, jw_s11 10 (by decide +kernel) rfl, jw_at 138 (by decide +kernel) rfl⟩)) (jt_c (jt_l (show jp_M_P 12 592 (mM_defines, 0) from ⟨mM_defines_ok, jw_s11 29 (by decide +kernel) rfl, jw_s11 31 (by decide +kernel) rfl, jw_at 141 (by decide +kernel) rfl⟩)) (jt_l (show jp_M_P 12 595 (mM_make, 0) from ⟨mM_make_ok, jw_s11 0 (by decide +kernel) rfl, jw_s11 2 (by decide +kernel) rfl, jw_at 136 (by decide +kernel) rfl⟩)))) (jt_c (jt_l (show jp_M_P 12 598 (mM_goesOn, 0) from ⟨mM_goesOn_ok, jw_s11 21 (by decide +kernel) rfl, jw_s11 23 (by decide +kernel) rfl, jw_at 139 (by decide +kernel) rfl⟩)) (jt_c (jt_l (show jp_M_P 12 601 (mM_flow, 0) from ⟨mM_flow_ok, jw_s11 25 (by decide +kernel) rfl, jw_s11 27 (by decide +kernel) rfl, jw_at 140 (by decide +kernel) rfl⟩)) (jt_l (show jp_M_P 12 604 (mM_leaps, 0) from ⟨mM_leaps_ok, jw_s11 33 (by decide +kernel) rfl, jw_s11 35 (by decide +kernel) rfl, jw_at 142 (by decide +kernel) rfl⟩))))))) (jt_c (jt_c (jt_c (jt_c (jt_l (show jp_M_P 12 607 (mM_findKnown, 0) from ⟨mM_findKnown_ok, jw_s10 236 (by decide +kernel) rfl, jw_s10 238 (by decide +kernel) rfl, jw_at 135 (by decide +kernel) rfl⟩)) (jt_c (jt_l (show jp_M_P 12 610 (mM_usesA, 0) from ⟨mM_usesA_ok, jw_s11 37 (by decide +kernel) rfl, jw_s11 39 (by decide +kernel) rfl, jw_at 143 (by decide +kernel) rfl⟩)) (jt_l (show jp_M_P 12 616 (mM_usesB, 0) from ⟨mM_usesB_ok, jw_s11 41 (by decide +kernel) rfl, jw_s11 43 (by decide +kernel) rfl, jw_at 144 (by decide +kernel) rfl⟩)))) (jt_c (jt_l (show jp_M_P 12 619 (mM_has, 0) from ⟨mM_has_ok, jw_s11 61 (by decide +kernel) rfl, jw_s11 63 (by decide +kernel) rfl, jw_at 149 (by decide +kernel) rfl⟩)) (jt_c (jt_l (show jp_M_P 12 622 (mM_isExpr, 0) from ⟨mM_isExpr_ok, jw_s11 53 (by decide +kernel) rfl, jw_s11 55 (by decide +kernel) rfl, jw_at 147 (by decide +kernel) rfl⟩)) (jt_l (show jp_M_P 12 626 (mM_hand, 0) from ⟨mM_hand_ok, jw_s11 57 (by decide +kernel) rfl, jw_s11 59 (by decide +kernel) rfl, jw_at 148 (by decide +kernel) rfl⟩))))) (jt_c (jt_c (jt_l (show jp_M_P 12 629 (mM_findHeld, 0) from ⟨mM_findHeld_ok, jw_s11 49 (by decide +kernel) rfl, jw_s11 51 (by decide +kernel) rfl, jw_at 146 (by decide +kernel) rfl⟩)) (jt_c (jt_l (show jp_M_P 12 632 (mM_leaveOut, 0) from ⟨mM_leaveOut_ok, jw_s11 65 (by decide +kernel) rfl, jw_s11 67 (by decide +kernel) rfl, jw_at 150 (by decide +kernel) rfl⟩)) (jt_l (show jp_M_P 12 638 (mM_isWanted, 0) from ⟨mM_isWanted_ok, jw_s11 77 (by decide +kernel) rfl, jw_s11 79 (by decide +kernel) rfl, jw_at 153 (by decide +kernel) rfl⟩)))) (jt_c (jt_l (show jp_M_P 12 642 (mM_findLive, 0) from ⟨mM_findLive_ok, jw_s11 73 (by decide +kernel) rfl, jw_s11 75 (by decide +kernel) rfl, jw_at 152 (by decide +kernel) rfl⟩)) (jt_c (jt_l (show jp_M_P 12 645 (mM_findReached, 0) from ⟨mM_findReached_ok, jw_s11 93 (by decide +kernel) rfl, jw_s11 95 (by decide +kernel) rfl, jw_at 157 (by decide +kernel) rfl⟩)) (jt_l (show jp_M_P 12 648 (mM_leaveUnreached, 0) from ⟨mM_leaveUnreached_ok, jw_s11 89 (by decide +kernel) rfl, jw_s11 91 (by decide +kernel) rfl, jw_at 156 (by decide +kernel) rfl⟩)))))) (jt_c (jt_c (jt_c (jt_l (show jp_M_P 12 651 (mM_leads, 0) from ⟨mM_leads_ok, jw_s11 97 (by decide +kernel) rfl, jw_s11 99 (by decide +kernel) rfl, jw_at 158 (by decide +kernel) rfl⟩)) (jt_c (jt_l (show jp_M_P 12 660 (mM_putConstants, 0) from ⟨mM_putConstants_ok, jw_s10 232 (by decide +kernel) rfl, jw_s10 234 (by decide +kernel) rfl, jw_at 134 (by decide +kernel) rfl⟩)) (jt_l (show jp_M_P 12 663 (mM_putCopies, 0) from ⟨mM_putCopies_ok, jw_s11 45 (by decide +kernel) rfl, jw_s11 47 (by decide +kernel) rfl, jw_at 145 (by decide +kernel) rfl⟩)))) (jt_c (jt_l (show jp_M_P 12 666 (mM_putOutDead, 0) from ⟨mM_putOutDead_ok, jw_s11 69 (by decide +kernel) rfl, jw_s11 71 (by decide +kernel) rfl, jw_at 151 (by decide +kernel) rfl⟩)) (jt_c (jt_l (show jp_M_P 12 669 (mM_putJumps, 0) from ⟨mM_putJumps_ok, jw_s11 85 (by decide +kernel) rfl, jw_s11 87 (by decide +kernel) rfl, jw_at 155 (by decide +kernel) rfl⟩)) (jt_l (show jp_M_P 12 672 (mM_findColours, 0) from ⟨mM_findColours_ok, jw_s11 101 (by decide +kernel) rfl, jw_s11 103 (by decide +kernel) rfl, jw_at 159 (by decide +kernel) rfl⟩))))) (jt_c (jt_c (jt_l (show jp_M_P 12 675 (mM_looksUp, 0) from ⟨mM_looksUp_ok, jw_s11 113 (by decide +kernel) rfl, jw_s11 115 (by decide +kernel) rfl, jw_at 160 (by decide +kernel) rfl⟩)) (jt_c (jt_l (show jp_M_P 12 681 (mM_slotOf, 0) from ⟨mM_slotOf_ok, jw_s11 150 (by decide +kernel) rfl, jw_s11 152 (by decide +kernel) rfl, jw_at 165 (by decide +kernel) rfl⟩)) (jt_l (show jp_M_P 12 684 (mM_valueA, 0) from ⟨mM_valueA_ok, jw_s11 146 (by decide +kernel) rfl, jw_s11 148 (by decide +kernel) rfl, jw_at 164 (by decide +kernel) rfl⟩)))) (jt_c (jt_c (jt_l (show jp_M_P 12 687 (mM_valueB, 0) from ⟨mM_valueB_ok, jw_s11 154 (by decide +kernel) rfl, jw_s11 156 (by decide +kernel) rfl, jw_at 166 (by decide +kernel) rfl⟩)) (jt_l (show jp_M_P 12 691 (mM_beginRun, 0) from ⟨mM_beginRun_ok, jw_s11 134 (by decide +kernel) rfl, jw_s11 136 (by decide +kernel) rfl, jw_at 161 (by decide +kernel) rfl⟩))) (jt_c (jt_l (show jp_M_P 12 694 (mM_runText, 0) from ⟨mM_runText_ok, jw_s11 138 (by decide +kernel) rfl, jw_s11 140 (by decide +kernel) rfl, jw_at 162 (by decide +kernel) rfl⟩)) (jt_l (show jp_M_P 12 697 (mM_runCode, 0) from ⟨mM_runCode_ok, jw_s11 142 (by decide +kernel) rfl, jw_s11 144 (by decide +kernel) rfl, jw_at 163 (by decide +kernel) rfl⟩)))))))))
set_option maxRecDepth 20000 in
theorem jp_M_13_ok (i : Nat) : ∀ r, jp_M_13 i = some r → jp_M_P 13 i r := (jt_c (jt_c (jt_c (jt_c (jt_c (jt_l (show jp_M_P 13 7 (mP_feed, 0) from ⟨mP_feed_ok, jw_s4 160 (by decide +kernel) rfl, jw_s4 161 (by decide +kernel) rfl, jw_s4 162 (by decide +kernel) rfl⟩)) (jt_l (show jp_M_P 13 17 (mP_lower, 0) from ⟨mP_lower_ok, jw_s5 13 (by decide +kernel) rfl, jw_s5 14 (by decide +kernel) rfl, jw_s5 15 (by decide +kernel) rfl⟩))) (jt_c (jt_l (show jp_M_P 13 21 (mP_improve, 0) from ⟨mP_improve_ok, jw_s5 153 (by decide +kernel) rfl, jw_s5 154 (by decide +kernel) rfl, jw_s5 155 (by decide +kernel) rfl⟩)) (jt_l (show jp_M_P 13 24 (mP_code, 0) from ⟨mP_code_ok, jw_s7 152 (by decide +kernel) rfl, jw_s7 153 (by decide +kernel) rfl, jw_s7 154 (by decide +kernel) rfl⟩)))) (jt_c (jt_c (jt_l (show jp_M_P 13 30 (mP_isKnown, 0) from ⟨mP_isKnown_ok, jw_s7 173 (by decide +kernel) rfl, jw_s7 174 (by decide +kernel) rfl, jw_s7 175 (by decide +kernel) rfl⟩)) (jt_l (show jp_M_P 13 34 (mP_known, 0) from ⟨mP_known_ok, jw_s7 191 (by decide +kernel) rfl, jw_s7 192 (by decide +kernel) rfl, jw_s7 193 (by decide +kernel) rfl⟩))) (jt_c (jt_l (show jp_M_P 13 38 (mP_isLive, 0) from ⟨mP_isLive_ok, jw_s7 198 (by decide +kernel) rfl, jw_s7 199 (by decide +kernel) rfl, jw_s7 200 (by decide +kernel) rfl⟩)) (jt_l (show jp_M_P 13 42 (mP_colour, 0) from ⟨mP_colour_ok, jw_s7 206 (by decide +kernel) rfl, jw_s7 207 (by decide +kernel) rfl, jw_s7 208 (by decide +kernel) rfl⟩))))) (jt_c (jt_c (jt_c (jt_l (show jp_M_P 13 46 (mP_input, 0) from ⟨mP_input_ok, jw_s7 215 (by decide +kernel) rfl, jw_s7 216 (by decide +kernel) rfl, jw_s7 217 (by decide +kernel) rfl⟩)) (jt_l (show jp_M_P 13 49 (mP_run, 0) from ⟨mP_run_ok, jw_s7 223 (by decide +kernel) rfl, jw_s7 224 (by decide +kernel) rfl, jw_s7 225 (by decide +kernel) rfl⟩))) (jt_c (jt_l (show jp_M_P 13 52 (mP_printed, 0) from ⟨mP_printed_ok, jw_s8 68 (by decide +kernel) rfl, jw_s8 69 (by decide +kernel) rfl, jw_s8 70 (by decide +kernel) rfl⟩)) (jt_l (show jp_M_P 13 55 (mP_told, 0) from ⟨mP_told_ok, jw_s8 76 (by decide +kernel) rfl, jw_s8 77 (by decide +kernel) rfl, jw_s8 78 (by decide +kernel) rfl⟩)))) (jt_c (jt_c (jt_l (show jp_M_P 13 58 (mP_init, 2) from ⟨mP_init_ok, jw_s1 35 (by decide +kernel) rfl, jw_s1 36 (by decide +kernel) rfl, rfl, rfl⟩)) (jt_l (show jp_M_P 13 61 (mM_init, 2) from ⟨mM_init_ok, jw_s8 87 (by decide +kernel) rfl, jw_s8 88 (by decide +kernel) rfl, rfl, rfl⟩))) (jt_c (jt_l (show jp_M_P 13 69 (mM_feed, 0) from ⟨mM_feed_ok, jw_s9 187 (by decide +kernel) rfl, jw_s9 188 (by decide +kernel) rfl, jw_s9 189 (by decide +kernel) rfl⟩)) (jt_l (show jp_M_P 13 70 (mP_read, 0) from ⟨mP_read_ok, jw_s3 144 (by decide +kernel) rfl, jw_s3 145 (by decide +kernel) rfl, jw_s3 146 (by decide +kernel) rfl⟩)))))) (jt_c (jt_c (jt_c (jt_c (jt_l (show jp_M_P 13 73 (mM_read, 0) from ⟨mM_read_ok, jw_s9 195 (by decide +kernel) rfl, jw_s9 196 (by decide +kernel) rfl, jw_s9 197 (by decide +kernel) rfl⟩)) (jt_l (show jp_M_P 13 74 (mP_place, 0) from ⟨mP_place_ok, jw_s4 147 (by decide +kernel) rfl, jw_s4 148 (by decide +kernel) rfl, jw_s4 149 (by decide +kernel) rfl⟩))) (jt_c (jt_l (show jp_M_P 13 77 (mM_place, 0) from ⟨mM_place_ok, jw_s10 172 (by decide +kernel) rfl, jw_s10 173 (by decide +kernel) rfl, jw_s10 174 (by decide +kernel) rfl⟩)) (jt_l (show jp_M_P 13 81 (mM_lower, 0) from ⟨mM_lower_ok, jw_s10 184 (by decide +kernel) rfl, jw_s10 185 (by decide +kernel) rfl, jw_s10 186 (by decide +kernel) rfl⟩)))) (jt_c (jt_c (jt_l (show jp_M_P 13 84 (mM_improve, 0) from ⟨mM_improve_ok, jw_s10 228 (by decide +kernel) rfl, jw_s10 229 (by decide +kernel) rfl, jw_s10 230 (by decide +kernel) rfl⟩)) (jt_l (show jp_M_P 13 85 (mM_thrown, 0) from ⟨mM_thrown_ok, jw_s8 81 (by decide +kernel) rfl, jw_s8 82 (by decide +kernel) rfl, jw_s8 83 (by decide +kernel) rfl⟩))) (jt_c (jt_l (show jp_M_P 13 91 (mM_code, 0) from ⟨mM_code_ok, jw_s11 105 (by decide +kernel) rfl, jw_s11 106 (by decide +kernel) rfl, jw_s11 107 (by decide +kernel) rfl⟩)) (jt_l (show jp_M_P 13 95 (mM_isKnown, 0) from ⟨mM_isKnown_ok, jw_s11 109 (by decide +kernel) rfl, jw_s11 110 (by decide +kernel) rfl, jw_s11 111 (by decide +kernel) rfl⟩))))) (jt_c (jt_c (jt_c (jt_l (show jp_M_P 13 98 (mM_known, 0) from ⟨mM_known_ok, jw_s11 117 (by decide +kernel) rfl, jw_s11 118 (by decide +kernel) rfl, jw_s11 119 (by decide +kernel) rfl⟩)) (jt_l (show jp_M_P 13 101 (mM_isLive, 0) from ⟨mM_isLive_ok, jw_s11 121 (by decide +kernel) rfl, jw_s11 122 (by decide +kernel) rfl, jw_s11 123 (by decide +kernel) rfl⟩))) (jt_c (jt_l (show jp_M_P 13 105 (mM_colour, 0) from ⟨mM_colour_ok, jw_s11 125 (by decide +kernel) rfl, jw_s11 126 (by decide +kernel) rfl, jw_s11 127 (by decide +kernel) rfl⟩)) (jt_l (show jp_M_P 13 108 (mM_input, 0) from ⟨mM_input_ok, jw_s10 176 (by decide +kernel) rfl, jw_s10 177 (by decide +kernel) rfl, jw_s10 178 (by decide +kernel) rfl⟩)))) (jt_c (jt_c (jt_l (show jp_M_P 13 109 (mP_clear, 0) from ⟨mP_clear_ok, jw_s4 151 (by decide +kernel) rfl, jw_s4 152 (by decide +kernel) rfl, jw_s4 153 (by decide +kernel) rfl⟩)) (jt_l (show jp_M_P 13 112 (mM_clear, 0) from ⟨mM_clear_ok, jw_s10 180 (by decide +kernel) rfl, jw_s10 181 (by decide +kernel) rfl, jw_s10 182 (by decide +kernel) rfl⟩))) (jt_c (jt_l (show jp_M_P 13 115 (mM_run, 0) from ⟨mM_run_ok, jw_s11 129 (by decide +kernel) rfl, jw_s11 130 (by decide +kernel) rfl, jw_s11 131 (by decide +kernel) rfl⟩)) (jt_c (jt_l (show jp_M_P 13 118 (mM_printed, 0) from ⟨mM_printed_ok, jw_s11 158 (by decide +kernel) rfl, jw_s11 159 (by decide +kernel) rfl, jw_s11 160 (by decide +kernel) rfl⟩)) (jt_l (show jp_M_P 13 121 (mM_told, 0) from ⟨mM_told_ok, jw_s11 162 (by decide +kernel) rfl, jw_s11 163 (by decide +kernel) rfl, jw_s11 164 (by decide +kernel) rfl⟩))))))))
set_option maxRecDepth 20000 in
theorem jp_M_14_ok (i : Nat) : ∀ r, jp_M_14 i = some r → jp_M_P 14 i r := (jt_l (show jp_M_P 14 13 (mArr_rangeCheck, 1) from ⟨mArr_rangeCheck_ok, jw_s6 18 (by decide +kernel) rfl, jw_s6 19 (by decide +kernel) rfl⟩))
set_option maxRecDepth 20000 in
theorem jp_M_16_ok (i : Nat) : ∀ r, jp_M_16 i = some r → jp_M_P 16 i r := (jt_l (show jp_M_P 16 311 (mInt_numberOfTrailingZeros, 1) from ⟨mInt_numberOfTrailingZeros_ok, jw_s7 89 (by decide +kernel) rfl, jw_s7 90 (by decide +kernel) rfl⟩))
theorem jp_M_ok (q i : Nat) : ∀ r, jp_M q i = some r → jp_M_P q i r := by
  intro r h
  unfold jp_M at h
  split at h
  · exact jp_M_0_ok i r h
  · exact jp_M_1_ok i r h
  · exact jp_M_2_ok i r h
  · exact jp_M_3_ok i r h
  · exact jp_M_4_ok i r h
  · exact jp_M_5_ok i r h
  · exact jp_M_6_ok i r h
  · exact jp_M_8_ok i r h
  · exact jp_M_9_ok i r h
  · exact jp_M_11_ok i r h
  · exact jp_M_12_ok i r h
  · exact jp_M_13_ok i r h
  · exact jp_M_14_ok i r h
  · exact jp_M_16_ok i r h
  · cases h
/-- Object.<init> -/
def jp_B_P (q i : Nat) (_ : Unit) : Prop := Cond.methodLink (jp_O q) i Lib.objectInit ∈ jw
def jp_B_0 (i : Nat) : Option (Unit) := (bif Nat.beq i 5 then some () else none)
def jp_B_1 (i : Nat) : Option (Unit) := (bif Nat.beq i 3 then some () else none)
def jp_B_2 (i : Nat) : Option (Unit) := (bif Nat.beq i 3 then some () else none)
def jp_B_3 (i : Nat) : Option (Unit) := (bif Nat.beq i 3 then some () else none)
def jp_B_4 (i : Nat) : Option (Unit) := (bif Nat.beq i 3 then some () else none)
def jp_B_5 (i : Nat) : Option (Unit) := (bif Nat.beq i 3 then some () else none)
def jp_B_6 (i : Nat) : Option (Unit) := (bif Nat.beq i 3 then some () else none)
def jp_B_7 (i : Nat) : Option (Unit) := (bif Nat.beq i 3 then some () else none)
def jp_B_8 (i : Nat) : Option (Unit) := (bif Nat.beq i 3 then some () else none)
def jp_B_9 (i : Nat) : Option (Unit) := (bif Nat.beq i 3 then some () else none)
def jp_B_10 (i : Nat) : Option (Unit) := (bif Nat.beq i 3 then some () else none)
def jp_B_11 (i : Nat) : Option (Unit) := (bif Nat.beq i 3 then some () else none)
def jp_B_12 (i : Nat) : Option (Unit) := (bif Nat.beq i 7 then some () else none)
def jp_B (q i : Nat) : Option (Unit) := match q with
  | 0 => jp_B_0 i
  | 1 => jp_B_1 i
  | 2 => jp_B_2 i
  | 3 => jp_B_3 i
  | 4 => jp_B_4 i
  | 5 => jp_B_5 i
  | 6 => jp_B_6 i
  | 7 => jp_B_7 i
  | 8 => jp_B_8 i
  | 9 => jp_B_9 i
  | 10 => jp_B_10 i
  | 11 => jp_B_11 i
  | 12 => jp_B_12 i
  | _ => none
set_option maxRecDepth 20000 in
theorem jp_B_0_ok (i : Nat) : ∀ r, jp_B_0 i = some r → jp_B_P 0 i r := (jt_l (show jp_B_P 0 5 () from jw_s1 38 (by decide +kernel) rfl))
set_option maxRecDepth 20000 in
theorem jp_B_1_ok (i : Nat) : ∀ r, jp_B_1 i = some r → jp_B_P 1 i r := (jt_l (show jp_B_P 1 3 () from jw_s2 59 (by decide +kernel) rfl))
set_option maxRecDepth 20000 in
theorem jp_B_2_ok (i : Nat) : ∀ r, jp_B_2 i = some r → jp_B_P 2 i r := (jt_l (show jp_B_P 2 3 () from jw_s2 218 (by decide +kernel) rfl))
set_option maxRecDepth 20000 in
theorem jp_B_3_ok (i : Nat) : ∀ r, jp_B_3 i = some r → jp_B_P 3 i r := (jt_l (show jp_B_P 3 3 () from jw_s2 212 (by decide +kernel) rfl))
set_option maxRecDepth 20000 in
theorem jp_B_4_ok (i : Nat) : ∀ r, jp_B_4 i = some r → jp_B_P 4 i r := (jt_l (show jp_B_P 4 3 () from jw_s2 185 (by decide +kernel) rfl))
set_option maxRecDepth 20000 in
theorem jp_B_5_ok (i : Nat) : ∀ r, jp_B_5 i = some r → jp_B_P 5 i r := (jt_l (show jp_B_P 5 3 () from jw_s2 155 (by decide +kernel) rfl))
set_option maxRecDepth 20000 in
theorem jp_B_6_ok (i : Nat) : ∀ r, jp_B_6 i = some r → jp_B_P 6 i r := (jt_l (show jp_B_P 6 3 () from jw_s2 13 (by decide +kernel) rfl))
set_option maxRecDepth 20000 in
theorem jp_B_7_ok (i : Nat) : ∀ r, jp_B_7 i = some r → jp_B_P 7 i r := (jt_l (show jp_B_P 7 3 () from jw_s1 83 (by decide +kernel) rfl))
set_option maxRecDepth 20000 in
theorem jp_B_8_ok (i : Nat) : ∀ r, jp_B_8 i = some r → jp_B_P 8 i r := (jt_l (show jp_B_P 8 3 () from jw_s1 46 (by decide +kernel) rfl))
set_option maxRecDepth 20000 in
theorem jp_B_9_ok (i : Nat) : ∀ r, jp_B_9 i = some r → jp_B_P 9 i r := (jt_l (show jp_B_P 9 3 () from jw_s3 32 (by decide +kernel) rfl))
set_option maxRecDepth 20000 in
theorem jp_B_10_ok (i : Nat) : ∀ r, jp_B_10 i = some r → jp_B_P 10 i r := (jt_l (show jp_B_P 10 3 () from jw_s1 170 (by decide +kernel) rfl))
set_option maxRecDepth 20000 in
theorem jp_B_11_ok (i : Nat) : ∀ r, jp_B_11 i = some r → jp_B_P 11 i r := (jt_l (show jp_B_P 11 3 () from jw_s1 52 (by decide +kernel) rfl))
set_option maxRecDepth 20000 in
theorem jp_B_12_ok (i : Nat) : ∀ r, jp_B_12 i = some r → jp_B_P 12 i r := (jt_l (show jp_B_P 12 7 () from jw_s8 90 (by decide +kernel) rfl))
theorem jp_B_ok (q i : Nat) : ∀ r, jp_B q i = some r → jp_B_P q i r := by
  intro r h
  unfold jp_B at h
  split at h
  · exact jp_B_0_ok i r h
  · exact jp_B_1_ok i r h
  · exact jp_B_2_ok i r h
  · exact jp_B_3_ok i r h
  · exact jp_B_4_ok i r h
  · exact jp_B_5_ok i r h
  · exact jp_B_6_ok i r h
  · exact jp_B_7_ok i r h
  · exact jp_B_8_ok i r h
  · exact jp_B_9_ok i r h
  · exact jp_B_10_ok i r h
  · exact jp_B_11_ok i r h
  · exact jp_B_12_ok i r h
  · cases h
theorem jp_obj : Cond.instanceMethod Lib.objectInit ∈ jw ∧ Cond.code Lib.objectInit ⟨#[0xb1]⟩ 1 none ∈ jw := ⟨jw_s1 39 (by decide +kernel) rfl, jw_s1 40 (by decide +kernel) rfl⟩
/-- System.arraycopy -/
def jp_A_P (q i : Nat) (_ : Unit) : Prop := Cond.methodLink (jp_O q) i arraycopyName ∈ jw
def jp_A_1 (i : Nat) : Option (Unit) := (bif Nat.beq i 57 then some () else none)
def jp_A_2 (i : Nat) : Option (Unit) := (bif Nat.beq i 126 then some () else none)
def jp_A_4 (i : Nat) : Option (Unit) := (bif Nat.beq i 86 then some () else none)
def jp_A_14 (i : Nat) : Option (Unit) := (bif Nat.beq i 150 then some () else none)
def jp_A (q i : Nat) : Option (Unit) := match q with
  | 1 => jp_A_1 i
  | 2 => jp_A_2 i
  | 4 => jp_A_4 i
  | 14 => jp_A_14 i
  | _ => none
set_option maxRecDepth 20000 in
theorem jp_A_1_ok (i : Nat) : ∀ r, jp_A_1 i = some r → jp_A_P 1 i r := (jt_l (show jp_A_P 1 57 () from jw_s5 26 (by decide +kernel) rfl))
set_option maxRecDepth 20000 in
theorem jp_A_2_ok (i : Nat) : ∀ r, jp_A_2 i = some r → jp_A_P 2 i r := (jt_l (show jp_A_P 2 126 () from jw_s7 64 (by decide +kernel) rfl))
set_option maxRecDepth 20000 in
theorem jp_A_4_ok (i : Nat) : ∀ r, jp_A_4 i = some r → jp_A_P 4 i r := (jt_l (show jp_A_P 4 86 () from jw_s5 186 (by decide +kernel) rfl))
set_option maxRecDepth 20000 in
theorem jp_A_14_ok (i : Nat) : ∀ r, jp_A_14 i = some r → jp_A_P 14 i r := (jt_l (show jp_A_P 14 150 () from jw_s6 93 (by decide +kernel) rfl))
theorem jp_A_ok (q i : Nat) : ∀ r, jp_A q i = some r → jp_A_P q i r := by
  intro r h
  unfold jp_A at h
  split at h
  · exact jp_A_1_ok i r h
  · exact jp_A_2_ok i r h
  · exact jp_A_4_ok i r h
  · exact jp_A_14_ok i r h
  · cases h
/-- Math.max -/
def jp_max_P (q i : Nat) (_ : Unit) : Prop := Cond.methodLink (jp_O q) i Lib.Math.max.name ∈ jw
def jp_max_5 (i : Nat) : Option (Unit) := (bif Nat.beq i 91 then some () else none)
def jp_max_8 (i : Nat) : Option (Unit) := (bif Nat.beq i 237 then some () else none)
def jp_max (q i : Nat) : Option (Unit) := match q with
  | 5 => jp_max_5 i
  | 8 => jp_max_8 i
  | _ => none
set_option maxRecDepth 20000 in
theorem jp_max_5_ok (i : Nat) : ∀ r, jp_max_5 i = some r → jp_max_P 5 i r := (jt_l (show jp_max_P 5 91 () from jw_s7 147 (by decide +kernel) rfl))
set_option maxRecDepth 20000 in
theorem jp_max_8_ok (i : Nat) : ∀ r, jp_max_8 i = some r → jp_max_P 8 i r := (jt_l (show jp_max_P 8 237 () from jw_s4 69 (by decide +kernel) rfl))
theorem jp_max_ok (q i : Nat) : ∀ r, jp_max q i = some r → jp_max_P q i r := by
  intro r h
  unfold jp_max at h
  split at h
  · exact jp_max_5_ok i r h
  · exact jp_max_8_ok i r h
  · cases h
theorem jp_max_w : Cond.static Lib.Math.max.name ∈ jw ∧ Cond.initialized "java/lang/Math" ∈ jw ∧ Cond.code Lib.Math.max.name Lib.Math.max.code 2 (some .int) ∈ jw := ⟨jw_s4 70 (by decide +kernel) rfl, jw_s1 19 (by decide +kernel) rfl, jw_s4 71 (by decide +kernel) rfl⟩
/-- Math.min -/
def jp_min_P (q i : Nat) (_ : Unit) : Prop := Cond.methodLink (jp_O q) i Lib.Math.min.name ∈ jw
def jp_min_8 (i : Nat) : Option (Unit) := (bif Nat.beq i 145 then some () else none)
def jp_min_14 (i : Nat) : Option (Unit) := (bif Nat.beq i 304 then some () else none)
def jp_min (q i : Nat) : Option (Unit) := match q with
  | 8 => jp_min_8 i
  | 14 => jp_min_14 i
  | _ => none
set_option maxRecDepth 20000 in
theorem jp_min_8_ok (i : Nat) : ∀ r, jp_min_8 i = some r → jp_min_P 8 i r := (jt_l (show jp_min_P 8 145 () from jw_s4 129 (by decide +kernel) rfl))
set_option maxRecDepth 20000 in
theorem jp_min_14_ok (i : Nat) : ∀ r, jp_min_14 i = some r → jp_min_P 14 i r := (jt_l (show jp_min_P 14 304 () from jw_s6 92 (by decide +kernel) rfl))
theorem jp_min_ok (q i : Nat) : ∀ r, jp_min q i = some r → jp_min_P q i r := by
  intro r h
  unfold jp_min at h
  split at h
  · exact jp_min_8_ok i r h
  · exact jp_min_14_ok i r h
  · cases h
theorem jp_min_w : Cond.static Lib.Math.min.name ∈ jw ∧ Cond.initialized "java/lang/Math" ∈ jw ∧ Cond.code Lib.Math.min.name Lib.Math.min.code 2 (some .int) ∈ jw := ⟨jw_s4 130 (by decide +kernel) rfl, jw_s1 19 (by decide +kernel) rfl, jw_s4 131 (by decide +kernel) rfl⟩
theorem jp_acp : Cond.native arraycopyName ∈ jw ∧ Cond.static arraycopyName ∈ jw ∧ Cond.initialized "java/lang/System" ∈ jw := ⟨jw_s5 28 (by decide +kernel) rfl, jw_s5 27 (by decide +kernel) rfl, jw_s1 20 (by decide +kernel) rfl⟩
theorem jp_arr : Cond.arrayClass .int ∈ jw ∧ Cond.arrayClass .long ∈ jw ∧ Cond.arrayClass .boolean ∈ jw ∧ Cond.arrayClass .byte ∈ jw := ⟨jw_s1 76 (by decide +kernel) rfl, jw_s1 77 (by decide +kernel) rfl, jw_s2 149 (by decide +kernel) rfl, jw_s4 232 (by decide +kernel) rfl⟩
def jp_nobj : Nat := 13
def jp_X_P (q i : Nat) (r : Nat) : Prop := q = 0 ∧ r < 3 ∧ Cond.classLink "WhilePress" i (jp_C (jp_nobj + r)) ∈ jw
def jp_X_0 (i : Nat) : Option (Nat) := (bif Nat.blt i 95 then (bif Nat.beq i 86 then some 0 else none) else (bif Nat.blt i 171 then (bif Nat.beq i 95 then some 1 else none) else (bif Nat.beq i 171 then some 2 else none)))
def jp_X (q i : Nat) : Option (Nat) := match q with
  | 0 => jp_X_0 i
  | _ => none
set_option maxRecDepth 20000 in
theorem jp_X_0_ok (i : Nat) : ∀ r, jp_X_0 i = some r → jp_X_P 0 i r := (jt_c (jt_l (show jp_X_P 0 86 0 from ⟨rfl, by decide, jw_s4 164 (by decide +kernel) rfl⟩)) (jt_c (jt_l (show jp_X_P 0 95 1 from ⟨rfl, by decide, jw_s4 234 (by decide +kernel) rfl⟩)) (jt_l (show jp_X_P 0 171 2 from ⟨rfl, by decide, jw_s7 157 (by decide +kernel) rfl⟩))))
theorem jp_X_ok (q i : Nat) : ∀ r, jp_X q i = some r → jp_X_P q i r := by
  intro r h
  unfold jp_X at h
  split at h
  · exact jp_X_0_ok i r h
  · cases h
def jp_XT_P (q i : Nat) (r : String) : Prop := q = 0 ∧ (i, r) ∈ jstr
def jp_XT_0 (i : Nat) : Option (String) := (bif Nat.blt i 200 then (bif Nat.blt i 147 then (bif Nat.blt i 93 then (bif Nat.beq i 88 then some "n" else none) else (bif Nat.blt i 97 then (bif Nat.beq i 93 then some "byte" else none) else (bif Nat.beq i 97 then some "tape" else none))) else (bif Nat.blt i 169 then (bif Nat.blt i 163 then (bif Nat.beq i 147 then some "nothing read" else none) else (bif Nat.beq i 163 then some "nothing lowered" else none)) else (bif Nat.blt i 173 then (bif Nat.beq i 169 then some "no such code" else none) else (bif Nat.beq i 173 then some "instruction" else none)))) else (bif Nat.blt i 232 then (bif Nat.blt i 218 then (bif Nat.blt i 216 then (bif Nat.beq i 200 then some "instruction or register" else none) else (bif Nat.beq i 216 then some "nothing improved" else none)) else (bif Nat.blt i 226 then (bif Nat.beq i 218 then some "register" else none) else (bif Nat.beq i 226 then some "input" else none))) else (bif Nat.blt i 250 then (bif Nat.blt i 234 then (bif Nat.beq i 232 then some "which or fuel" else none) else (bif Nat.beq i 234 then some "nothing to run" else none)) else (bif Nat.blt i 267 then (bif Nat.beq i 250 then some "printed" else none) else (bif Nat.beq i 267 then some "what" else none)))))
def jp_XT (q i : Nat) : Option (String) := match q with
  | 0 => jp_XT_0 i
  | _ => none
set_option maxRecDepth 20000 in
theorem jp_XT_0_ok (i : Nat) : ∀ r, jp_XT_0 i = some r → jp_XT_P 0 i r := (jt_c (jt_c (jt_c (jt_l (show jp_XT_P 0 88 "n" from ⟨rfl, by decide +kernel⟩)) (jt_c (jt_l (show jp_XT_P 0 93 "byte" from ⟨rfl, by decide +kernel⟩)) (jt_l (show jp_XT_P 0 97 "tape" from ⟨rfl, by decide +kernel⟩)))) (jt_c (jt_c (jt_l (show jp_XT_P 0 147 "nothing read" from ⟨rfl, by decide +kernel⟩)) (jt_l (show jp_XT_P 0 163 "nothing lowered" from ⟨rfl, by decide +kernel⟩))) (jt_c (jt_l (show jp_XT_P 0 169 "no such code" from ⟨rfl, by decide +kernel⟩)) (jt_l (show jp_XT_P 0 173 "instruction" from ⟨rfl, by decide +kernel⟩))))) (jt_c (jt_c (jt_c (jt_l (show jp_XT_P 0 200 "instruction or register" from ⟨rfl, by decide +kernel⟩)) (jt_l (show jp_XT_P 0 216 "nothing improved" from ⟨rfl, by decide +kernel⟩))) (jt_c (jt_l (show jp_XT_P 0 218 "register" from ⟨rfl, by decide +kernel⟩)) (jt_l (show jp_XT_P 0 226 "input" from ⟨rfl, by decide +kernel⟩)))) (jt_c (jt_c (jt_l (show jp_XT_P 0 232 "which or fuel" from ⟨rfl, by decide +kernel⟩)) (jt_l (show jp_XT_P 0 234 "nothing to run" from ⟨rfl, by decide +kernel⟩))) (jt_c (jt_l (show jp_XT_P 0 250 "printed" from ⟨rfl, by decide +kernel⟩)) (jt_l (show jp_XT_P 0 267 "what" from ⟨rfl, by decide +kernel⟩))))))
theorem jp_XT_ok (q i : Nat) : ∀ r, jp_XT q i = some r → jp_XT_P q i r := by
  intro r h
  unfold jp_XT at h
  split at h
  · exact jp_XT_0_ok i r h
  · cases h
def jp_XI_P (q i : Nat) (r : Nat) : Prop := q = 0 ∧ ((r = 0 ∧ i = 90) ∨ (r = 1 ∧ i = 98) ∨ (r = 2 ∧ i = 175))
def jp_XI_0 (i : Nat) : Option (Nat) := (bif Nat.blt i 98 then (bif Nat.beq i 90 then some 0 else none) else (bif Nat.blt i 175 then (bif Nat.beq i 98 then some 1 else none) else (bif Nat.beq i 175 then some 2 else none)))
def jp_XI (q i : Nat) : Option (Nat) := match q with
  | 0 => jp_XI_0 i
  | _ => none
set_option maxRecDepth 20000 in
theorem jp_XI_0_ok (i : Nat) : ∀ r, jp_XI_0 i = some r → jp_XI_P 0 i r := (jt_c (jt_l (show jp_XI_P 0 90 0 from ⟨rfl, Or.inl ⟨rfl, rfl⟩⟩)) (jt_c (jt_l (show jp_XI_P 0 98 1 from ⟨rfl, Or.inr (Or.inl ⟨rfl, rfl⟩)⟩)) (jt_l (show jp_XI_P 0 175 2 from ⟨rfl, Or.inr (Or.inr (⟨rfl, rfl⟩))⟩))))
theorem jp_XI_ok (q i : Nat) : ∀ r, jp_XI q i = some r → jp_XI_P q i r := by
  intro r h
  unfold jp_XI at h
  split at h
  · exact jp_XI_0_ok i r h
  · cases h
theorem jx_0 : ∀ w ∈ (Bundle.ownAtoms "WhilePress" 90 "java/lang/IllegalArgumentException" ["java/lang/RuntimeException", "java/lang/Exception"]).filter goodWord, w ∈ jw := jw_all [181, 1073, 1082, 1087, 1090, 1092, 1074, 1075, 206, 207, 1076, 1081, 1088, 1108, 1063, 1109, 1065, 1110, 1067, 1077, 1079, 1069, 1104, 1105, 1107, 1069, 1095, 1096, 1097, 1098, 1098, 1099, 1100, 1101, 1101, 1102, 1103, 1104, 1094, 1052, 1060, 1061, 1062, 1064, 1066, 1068, 1072, 1071, 1070] (by decide +kernel) (by decide +kernel)
theorem jy_0 : ∀ w ∈ (Bundle.ownAtoms "WhilePress" 90 "java/lang/IllegalArgumentException" ["java/lang/RuntimeException", "java/lang/Exception"]).filter (fun w => !goodWord w), w ∈ jn ∨ w = .isRef (.static Bundle.tN "UNASSIGNED_STACK" Bundle.steD) ∨ w = .isRef (.static Bundle.tN "SUPPRESSED_SENTINEL" Bundle.listD) ∨ w = .laysStatic Bundle.tN "UNASSIGNED_STACK" Bundle.steD ∨ w = .laysStatic Bundle.tN "SUPPRESSED_SENTINEL" Bundle.listD := by decide +kernel
theorem jz_0 : Cond.instantiable "java/lang/IllegalArgumentException" 6 ∈ jw ∧ Cond.initialized "java/lang/IllegalArgumentException" ∈ jw := ⟨jw_s4 165 (by decide +kernel) rfl, jw_s1 17 (by decide +kernel) rfl⟩
theorem jx_1 : ∀ w ∈ (Bundle.ownAtoms "WhilePress" 98 "java/lang/IllegalStateException" ["java/lang/RuntimeException", "java/lang/Exception"]).filter goodWord, w ∈ jw := jw_all [181, 1073, 1082, 1087, 1090, 1092, 1074, 1075, 206, 207, 1076, 1081, 1088, 1108, 1063, 1109, 1065, 1110, 1067, 1077, 1079, 1069, 1104, 1105, 1107, 1069, 1132, 1133, 1134, 1098, 1098, 1099, 1100, 1101, 1101, 1102, 1103, 1104, 1131, 1122, 1124, 1085, 1125, 1126, 1127, 1128, 1072, 1071, 1129] (by decide +kernel) (by decide +kernel)
theorem jy_1 : ∀ w ∈ (Bundle.ownAtoms "WhilePress" 98 "java/lang/IllegalStateException" ["java/lang/RuntimeException", "java/lang/Exception"]).filter (fun w => !goodWord w), w ∈ jn ∨ w = .isRef (.static Bundle.tN "UNASSIGNED_STACK" Bundle.steD) ∨ w = .isRef (.static Bundle.tN "SUPPRESSED_SENTINEL" Bundle.listD) ∨ w = .laysStatic Bundle.tN "UNASSIGNED_STACK" Bundle.steD ∨ w = .laysStatic Bundle.tN "SUPPRESSED_SENTINEL" Bundle.listD := by decide +kernel
theorem jz_1 : Cond.instantiable "java/lang/IllegalStateException" 6 ∈ jw ∧ Cond.initialized "java/lang/IllegalStateException" ∈ jw := ⟨jw_s4 235 (by decide +kernel) rfl, jw_s1 18 (by decide +kernel) rfl⟩
theorem jx_2 : ∀ w ∈ (Bundle.ownAtoms "WhilePress" 175 "java/lang/IndexOutOfBoundsException" ["java/lang/RuntimeException", "java/lang/Exception"]).filter goodWord, w ∈ jw := jw_all [181, 1073, 1082, 1087, 1090, 1092, 1074, 1075, 206, 207, 1076, 1081, 1088, 1108, 1063, 1109, 1065, 1110, 1067, 1077, 1079, 1069, 1104, 1105, 1107, 1069, 1636, 1637, 1638, 1098, 1098, 1099, 1100, 1101, 1101, 1102, 1103, 1104, 1774, 1765, 1767, 1086, 1768, 1769, 1770, 1771, 1072, 1071, 1772] (by decide +kernel) (by decide +kernel)
theorem jy_2 : ∀ w ∈ (Bundle.ownAtoms "WhilePress" 175 "java/lang/IndexOutOfBoundsException" ["java/lang/RuntimeException", "java/lang/Exception"]).filter (fun w => !goodWord w), w ∈ jn ∨ w = .isRef (.static Bundle.tN "UNASSIGNED_STACK" Bundle.steD) ∨ w = .isRef (.static Bundle.tN "SUPPRESSED_SENTINEL" Bundle.listD) ∨ w = .laysStatic Bundle.tN "UNASSIGNED_STACK" Bundle.steD ∨ w = .laysStatic Bundle.tN "SUPPRESSED_SENTINEL" Bundle.listD := by decide +kernel
theorem jz_2 : Cond.instantiable "java/lang/IndexOutOfBoundsException" 6 ∈ jw ∧ Cond.initialized "java/lang/IndexOutOfBoundsException" ∈ jw := ⟨jw_s7 158 (by decide +kernel) rfl, jw_s1 30 (by decide +kernel) rfl⟩
theorem jo_0 {args : Array Value} {s : State} (hts : ∀ w ∈ jw, w.before args s = true) (hn : ∀ w ∈ jn, va_Nw w s) (h1 : (Cond.isRef (.static Bundle.tN "UNASSIGNED_STACK" Bundle.steD)).before args s = true) (h2 : (Cond.isRef (.static Bundle.tN "SUPPRESSED_SENTINEL" Bundle.listD)).before args s = true) (h3 : (Cond.laysStatic Bundle.tN "UNASSIGNED_STACK" Bundle.steD).before args s = true) (h4 : (Cond.laysStatic Bundle.tN "SUPPRESSED_SENTINEL" Bundle.listD).before args s = true) : ∀ w ∈ Bundle.ownAtoms "WhilePress" 90 "java/lang/IllegalArgumentException" ["java/lang/RuntimeException", "java/lang/Exception"], w.before args s = true := by
  intro w hw
  by_cases hg : goodWord w = true
  · exact hts w (jx_0 w (List.mem_filter.mpr ⟨hw, hg⟩))
  · rcases jy_0 w (List.mem_filter.mpr ⟨hw, by simp [hg]⟩) with h | rfl | rfl | rfl | rfl
    · exact va_Nw.use (jn_on w h) (hn w h)
    · exact h1
    · exact h2
    · exact h3
    · exact h4
theorem jo_1 {args : Array Value} {s : State} (hts : ∀ w ∈ jw, w.before args s = true) (hn : ∀ w ∈ jn, va_Nw w s) (h1 : (Cond.isRef (.static Bundle.tN "UNASSIGNED_STACK" Bundle.steD)).before args s = true) (h2 : (Cond.isRef (.static Bundle.tN "SUPPRESSED_SENTINEL" Bundle.listD)).before args s = true) (h3 : (Cond.laysStatic Bundle.tN "UNASSIGNED_STACK" Bundle.steD).before args s = true) (h4 : (Cond.laysStatic Bundle.tN "SUPPRESSED_SENTINEL" Bundle.listD).before args s = true) : ∀ w ∈ Bundle.ownAtoms "WhilePress" 98 "java/lang/IllegalStateException" ["java/lang/RuntimeException", "java/lang/Exception"], w.before args s = true := by
  intro w hw
  by_cases hg : goodWord w = true
  · exact hts w (jx_1 w (List.mem_filter.mpr ⟨hw, hg⟩))
  · rcases jy_1 w (List.mem_filter.mpr ⟨hw, by simp [hg]⟩) with h | rfl | rfl | rfl | rfl
    · exact va_Nw.use (jn_on w h) (hn w h)
    · exact h1
    · exact h2
    · exact h3
    · exact h4
theorem jo_2 {args : Array Value} {s : State} (hts : ∀ w ∈ jw, w.before args s = true) (hn : ∀ w ∈ jn, va_Nw w s) (h1 : (Cond.isRef (.static Bundle.tN "UNASSIGNED_STACK" Bundle.steD)).before args s = true) (h2 : (Cond.isRef (.static Bundle.tN "SUPPRESSED_SENTINEL" Bundle.listD)).before args s = true) (h3 : (Cond.laysStatic Bundle.tN "UNASSIGNED_STACK" Bundle.steD).before args s = true) (h4 : (Cond.laysStatic Bundle.tN "SUPPRESSED_SENTINEL" Bundle.listD).before args s = true) : ∀ w ∈ Bundle.ownAtoms "WhilePress" 175 "java/lang/IndexOutOfBoundsException" ["java/lang/RuntimeException", "java/lang/Exception"], w.before args s = true := by
  intro w hw
  by_cases hg : goodWord w = true
  · exact hts w (jx_2 w (List.mem_filter.mpr ⟨hw, hg⟩))
  · rcases jy_2 w (List.mem_filter.mpr ⟨hw, by simp [hg]⟩) with h | rfl | rfl | rfl | rfl
    · exact va_Nw.use (jn_on w h) (hn w h)
    · exact h1
    · exact h2
    · exact h3
    · exact h4
def jp_ic (ex : Nat) : Nat := match ex with
  | 0 => 90
  | 1 => 98
  | _ => 175
/-- the law's catches: what an entry of its pool names -/
def jp_Lx (i : Nat) : Option Nat := (bif Nat.blt i 15 then (bif Nat.beq i 13 then some 0 else none) else (bif Nat.blt i 28 then (bif Nat.beq i 15 then some 1 else none) else (bif Nat.beq i 28 then some 2 else none)))
def jp_Lx_P (i r : Nat) : Prop := r < 3 ∧ Cond.classLink "WhilePressLaw" i (jp_C (jp_nobj + r)) ∈ jw ∧ i ≠ 0
theorem jp_Lx_ok (i : Nat) : ∀ r, jp_Lx i = some r → jp_Lx_P i r := (jt_c (jt_l (show jp_Lx_P 13 0 from ⟨by decide, jw_s4 158 (by decide +kernel) rfl, by decide⟩)) (jt_c (jt_l (show jp_Lx_P 15 1 from ⟨by decide, jw_s4 159 (by decide +kernel) rfl, by decide⟩)) (jt_l (show jp_Lx_P 28 2 from ⟨by decide, jw_s7 151 (by decide +kernel) rfl, by decide⟩))))
def jp_XS (q i : Nat) : Bool := (jp_XT q i).isSome
/-- static tables: where they are read -/
def jp_S (q i : Nat) : Option Nat := bif Nat.beq q 11 && Nat.beq i 56 then some 1000001 else bif Nat.beq q 8 && Nat.beq i 265 then some 1000002 else none
theorem jp_S_ok (q i a : Nat) (h : jp_S q i = some a) : (a = 1000001 ∧ Cond.fieldLinkNest (jp_O q) i "WhilePress" "KEYS" "[J" "WhilePress" ∈ jn) ∨ (a = 1000002 ∧ Cond.fieldLinkNest (jp_O q) i "WhilePress" "STRENGTH" "[I" "WhilePress" ∈ jn) := by
  unfold jp_S at h
  cases hb0 : (Nat.beq q 11 && Nat.beq i 56)
  case true =>
    rw [hb0] at h
    cases h
    have h1 := Bool.and_eq_true_iff.mp hb0
    rw [Nat.eq_of_beq_eq_true h1.1, Nat.eq_of_beq_eq_true h1.2]
    exact Or.inl ⟨rfl, by decide +kernel⟩
  case false =>
    rw [hb0] at h
    cases hb1 : (Nat.beq q 8 && Nat.beq i 265)
    case true =>
      rw [hb1] at h
      cases h
      have h1 := Bool.and_eq_true_iff.mp hb1
      rw [Nat.eq_of_beq_eq_true h1.1, Nat.eq_of_beq_eq_true h1.2]
      exact Or.inr ⟨rfl, by decide +kernel⟩
    case false =>
      rw [hb1] at h
      cases h
end
section
/-! THE PROGRAM'S TABLES, part d: the law and its wrappers -/
abbrev jm_Hh : Type := List (Nat × Nat × Nat × Nat)
def jm_mokW (r : jm_M × jm_Hh) : Prop := Cond.codeWith r.1.1 r.1.2.1 r.1.2.2.1 r.1.2.2.2.1 r.2 ∈ jw ∧ Cond.initialized r.1.1.cls ∈ jw ∧ plainName r.1.1.cls = true ∧ (r.1.1.cls ≠ "java/lang/invoke/MethodHandle" ∧ r.1.1.cls ≠ "java/lang/invoke/VarHandle") ∧ (parseMethodDescriptor r.1.1.desc).map (fun d => d.parameters.length) = some (jm_n r.1) ∧ r.1.2.2.1 ≤ 40 ∧ (r.1.2.2.2.2.2.2 = 1 → r.1.1.name = "<init>") ∧ jp_O (jm_q r.1) = r.1.1.cls
def mL_law : jm_M := (⟨"WhilePressLaw", "law", "([I)Z"⟩, code, maxLocals, some .boolean, 13, 1, 0)
def mL_feed : jm_M × jm_Hh := ((⟨"WhilePressLaw", "feed", "(LWhilePress;JI[J)I"⟩, method_3_code, 6, (some .int), 13, 4, 0), [(0, 11, 14, 13), (0, 11, 18, 15)])
theorem mL_feed_ok : jm_mokW mL_feed := ⟨jw_s4 157 rfl rfl, jq_13.1, jq_13.2.1, jq_13.2.2, by decide +kernel, Nat.le_of_ble_eq_true rfl, (fun h => by cases h), rfl⟩
def mL_lower : jm_M × jm_Hh := ((⟨"WhilePressLaw", "lower", "(LWhilePress;[J)I"⟩, method_4_code, 3, (some .int), 13, 2, 0), [(0, 8, 11, 15)])
theorem mL_lower_ok : jm_mokW mL_lower := ⟨jw_s5 12 rfl rfl, jq_13.1, jq_13.2.1, jq_13.2.2, by decide +kernel, Nat.le_of_ble_eq_true rfl, (fun h => by cases h), rfl⟩
def mL_improve : jm_M × jm_Hh := ((⟨"WhilePressLaw", "improve", "(LWhilePress;[J)I"⟩, method_5_code, 3, (some .int), 13, 2, 0), [(0, 8, 11, 15)])
theorem mL_improve_ok : jm_mokW mL_improve := ⟨jw_s5 152 rfl rfl, jq_13.1, jq_13.2.1, jq_13.2.2, by decide +kernel, Nat.le_of_ble_eq_true rfl, (fun h => by cases h), rfl⟩
def mL_code : jm_M × jm_Hh := ((⟨"WhilePressLaw", "code", "(LWhilePress;ZII[J)I"⟩, method_6_code, 6, (some .int), 13, 5, 0), [(0, 12, 15, 28), (0, 12, 19, 15)])
theorem mL_code_ok : jm_mokW mL_code := ⟨jw_s7 150 rfl rfl, jq_13.1, jq_13.2.1, jq_13.2.2, by decide +kernel, Nat.le_of_ble_eq_true rfl, (fun h => by cases h), rfl⟩
def mL_isKnown : jm_M × jm_Hh := ((⟨"WhilePressLaw", "isKnown", "(LWhilePress;II[J)I"⟩, method_7_code, 5, (some .int), 13, 4, 0), [(0, 17, 20, 28), (0, 17, 24, 15)])
theorem mL_isKnown_ok : jm_mokW mL_isKnown := ⟨jw_s7 172 rfl rfl, jq_13.1, jq_13.2.1, jq_13.2.2, by decide +kernel, Nat.le_of_ble_eq_true rfl, (fun h => by cases h), rfl⟩
def mL_known : jm_M × jm_Hh := ((⟨"WhilePressLaw", "known", "(LWhilePress;II[J)I"⟩, method_8_code, 5, (some .int), 13, 4, 0), [(0, 10, 13, 28), (0, 10, 17, 15)])
theorem mL_known_ok : jm_mokW mL_known := ⟨jw_s7 190 rfl rfl, jq_13.1, jq_13.2.1, jq_13.2.2, by decide +kernel, Nat.le_of_ble_eq_true rfl, (fun h => by cases h), rfl⟩
def mL_isLive : jm_M × jm_Hh := ((⟨"WhilePressLaw", "isLive", "(LWhilePress;ZII[J)I"⟩, method_9_code, 6, (some .int), 13, 5, 0), [(0, 19, 22, 28), (0, 19, 26, 15)])
theorem mL_isLive_ok : jm_mokW mL_isLive := ⟨jw_s7 197 rfl rfl, jq_13.1, jq_13.2.1, jq_13.2.2, by decide +kernel, Nat.le_of_ble_eq_true rfl, (fun h => by cases h), rfl⟩
def mL_colour : jm_M × jm_Hh := ((⟨"WhilePressLaw", "colour", "(LWhilePress;I[J)I"⟩, method_10_code, 4, (some .int), 13, 3, 0), [(0, 9, 12, 28), (0, 9, 15, 15)])
theorem mL_colour_ok : jm_mokW mL_colour := ⟨jw_s7 205 rfl rfl, jq_13.1, jq_13.2.1, jq_13.2.2, by decide +kernel, Nat.le_of_ble_eq_true rfl, (fun h => by cases h), rfl⟩
def mL_input : jm_M × jm_Hh := ((⟨"WhilePressLaw", "input", "(LWhilePress;I[J)I"⟩, method_11_code, 4, (some .int), 13, 3, 0), [(0, 9, 12, 15)])
theorem mL_input_ok : jm_mokW mL_input := ⟨jw_s7 214 rfl rfl, jq_13.1, jq_13.2.1, jq_13.2.2, by decide +kernel, Nat.le_of_ble_eq_true rfl, (fun h => by cases h), rfl⟩
def mL_run : jm_M × jm_Hh := ((⟨"WhilePressLaw", "run", "(LWhilePress;II[J)I"⟩, method_12_code, 5, (some .int), 13, 4, 0), [(0, 10, 13, 13), (0, 10, 17, 15)])
theorem mL_run_ok : jm_mokW mL_run := ⟨jw_s7 222 rfl rfl, jq_13.1, jq_13.2.1, jq_13.2.2, by decide +kernel, Nat.le_of_ble_eq_true rfl, (fun h => by cases h), rfl⟩
def mL_printed : jm_M × jm_Hh := ((⟨"WhilePressLaw", "printed", "(LWhilePress;I[J)I"⟩, method_13_code, 4, (some .int), 13, 3, 0), [(0, 9, 12, 28)])
theorem mL_printed_ok : jm_mokW mL_printed := ⟨jw_s8 67 rfl rfl, jq_13.1, jq_13.2.1, jq_13.2.2, by decide +kernel, Nat.le_of_ble_eq_true rfl, (fun h => by cases h), rfl⟩
def mL_told : jm_M × jm_Hh := ((⟨"WhilePressLaw", "told", "(LWhilePress;I[J)I"⟩, method_14_code, 4, (some .int), 13, 3, 0), [(0, 9, 12, 13)])
theorem mL_told_ok : jm_mokW mL_told := ⟨jw_s8 75 rfl rfl, jq_13.1, jq_13.2.1, jq_13.2.2, by decide +kernel, Nat.le_of_ble_eq_true rfl, (fun h => by cases h), rfl⟩
def jp_V (i : Nat) : Option (jm_M × jm_Hh) := (bif Nat.blt i 99 then (bif Nat.blt i 88 then (bif Nat.blt i 78 then (bif Nat.beq i 64 then some mL_feed else none) else (bif Nat.blt i 82 then (bif Nat.beq i 78 then some mL_lower else none) else (bif Nat.beq i 82 then some mL_improve else none))) else (bif Nat.blt i 92 then (bif Nat.beq i 88 then some mL_code else none) else (bif Nat.blt i 96 then (bif Nat.beq i 92 then some mL_isKnown else none) else (bif Nat.beq i 96 then some mL_known else none)))) else (bif Nat.blt i 113 then (bif Nat.blt i 102 then (bif Nat.beq i 99 then some mL_isLive else none) else (bif Nat.blt i 106 then (bif Nat.beq i 102 then some mL_colour else none) else (bif Nat.beq i 106 then some mL_input else none))) else (bif Nat.blt i 116 then (bif Nat.beq i 113 then some mL_run else none) else (bif Nat.blt i 119 then (bif Nat.beq i 116 then some mL_printed else none) else (bif Nat.beq i 119 then some mL_told else none)))))
def jp_V_P (i : Nat) (r : jm_M × jm_Hh) : Prop := jm_mokW r ∧ Cond.methodLink "WhilePressLaw" i r.1.1 ∈ jw ∧ Cond.static r.1.1 ∈ jw
set_option maxRecDepth 20000 in
theorem jp_V_ok (i : Nat) : ∀ r, jp_V i = some r → jp_V_P i r := (jt_c (jt_c (jt_c (jt_l (show jp_V_P 64 mL_feed from ⟨mL_feed_ok, jw_s4 155 (by decide +kernel) rfl, jw_s4 156 (by decide +kernel) rfl⟩)) (jt_c (jt_l (show jp_V_P 78 mL_lower from ⟨mL_lower_ok, jw_s5 10 (by decide +kernel) rfl, jw_s5 11 (by decide +kernel) rfl⟩)) (jt_l (show jp_V_P 82 mL_improve from ⟨mL_improve_ok, jw_s5 150 (by decide +kernel) rfl, jw_s5 151 (by decide +kernel) rfl⟩)))) (jt_c (jt_l (show jp_V_P 88 mL_code from ⟨mL_code_ok, jw_s7 148 (by decide +kernel) rfl, jw_s7 149 (by decide +kernel) rfl⟩)) (jt_c (jt_l (show jp_V_P 92 mL_isKnown from ⟨mL_isKnown_ok, jw_s7 170 (by decide +kernel) rfl, jw_s7 171 (by decide +kernel) rfl⟩)) (jt_l (show jp_V_P 96 mL_known from ⟨mL_known_ok, jw_s7 188 (by decide +kernel) rfl, jw_s7 189 (by decide +kernel) rfl⟩))))) (jt_c (jt_c (jt_l (show jp_V_P 99 mL_isLive from ⟨mL_isLive_ok, jw_s7 195 (by decide +kernel) rfl, jw_s7 196 (by decide +kernel) rfl⟩)) (jt_c (jt_l (show jp_V_P 102 mL_colour from ⟨mL_colour_ok, jw_s7 203 (by decide +kernel) rfl, jw_s7 204 (by decide +kernel) rfl⟩)) (jt_l (show jp_V_P 106 mL_input from ⟨mL_input_ok, jw_s7 212 (by decide +kernel) rfl, jw_s7 213 (by decide +kernel) rfl⟩)))) (jt_c (jt_l (show jp_V_P 113 mL_run from ⟨mL_run_ok, jw_s7 220 (by decide +kernel) rfl, jw_s7 221 (by decide +kernel) rfl⟩)) (jt_c (jt_l (show jp_V_P 116 mL_printed from ⟨mL_printed_ok, jw_s8 65 (by decide +kernel) rfl, jw_s8 66 (by decide +kernel) rfl⟩)) (jt_l (show jp_V_P 119 mL_told from ⟨mL_told_ok, jw_s8 73 (by decide +kernel) rfl, jw_s8 74 (by decide +kernel) rfl⟩))))))
end
section
/-! THE PURE MACHINE, part 1: words for cells, stores, locals; the instructions that touch no cell -/
/-- a cell: an array (number of its type, length, contents) or an object (number of its class, fields); a reference in it is the number of a cell (from jm_lim on: an array that nobody writes) -/
abbrev jm_c : Type := (Nat × vp_A) ⊕ (Nat × List Value)
abbrev jm_S : Type := Nat × (Nat → jm_c)
abbrev jm_L : Type := List (Nat × Value)
def jm_lim : Nat := 1000000
def jm_a (base : Nat) (sa : Nat → Nat) (k : Nat) : Nat := if k < jm_lim then base + k else sa k
def jm_v (base : Nat) (sa : Nat → Nat) (v : Value) : Value := match v with
  | .ref k => .ref (jm_a base sa k)
  | .int x => .int x
  | .long x => .long x
  | .float x => .float x
  | .double x => .double x
  | .null => .null
  | .retAddr x => .retAddr x
def jm_lv (base : Nat) (sa : Nat → Nat) (lv : jm_L) : List (Nat × Value) := lv.map fun q => (q.1, jm_v base sa q.2)
theorem jm_v_cat (base : Nat) (sa : Nat → Nat) (v : Value) : (jm_v base sa v).category = v.category := by cases v <;> rfl
theorem jm_cats (base : Nat) (sa : Nat → Nat) (st : List Value) : ((st.map (jm_v base sa)).map fun v => v.category).sum = (st.map fun v => v.category).sum := by
  rw [List.map_map]
  congr 1
  apply List.map_congr_left
  intro v _
  exact jm_v_cat base sa v
def jm_get (lv : jm_L) (i : Nat) : Option Value := match lv.find? (fun q => q.1 == i) with
  | some q => some q.2
  | none => none
theorem jm_get_mem {lv : jm_L} {i : Nat} {v : Value} (h : jm_get lv i = some v) : (i, v) ∈ lv := by
  unfold jm_get at h
  split at h
  · rename_i q hq
    cases h
    have h1 := List.find?_some hq
    have h2 := List.mem_of_find?_eq_some hq
    have h3 : q.1 = i := by simpa using h1
    rw [← h3]
    exact h2
  · cases h
theorem jm_get_has {base : Nat} {sa : Nat → Nat} {lv : jm_L} {i nL : Nat} {v : Value} {ls : Array Slot} (hl : lv_has ls nL (jm_lv base sa lv)) (h : jm_get lv i = some v) : ls[i]? = some (.val (jm_v base sa v)) :=
  hl.2.2 (i, jm_v base sa v) (List.mem_map.mpr ⟨(i, v), jm_get_mem h, rfl⟩)
def jm_set1 (lv : jm_L) (i : Nat) (v : Value) : jm_L := (i, v) :: lv.filter (fun q => !(q.1 == i) && !(q.1 + 1 == i && q.2.category == 2))
def jm_set2 (lv : jm_L) (i : Nat) (v : Value) : jm_L := (i, v) :: lv.filter (fun q => !(q.1 == i) && (!(q.1 == i + 1) && !(q.1 + 1 == i && q.2.category == 2)))
theorem jm_set1_eq (base : Nat) (sa : Nat → Nat) (lv : jm_L) (i : Nat) (v : Value) : (i, jm_v base sa v) :: (jm_lv base sa lv).filter (fun q => !(q.1 == i) && !(q.1 + 1 == i && q.2.category == 2)) = jm_lv base sa (jm_set1 lv i v) := by
  unfold jm_set1 jm_lv
  rw [List.map_cons, List.filter_map]
  congr 2
  apply List.filter_congr
  intro q _
  simp [jm_v_cat]
theorem jm_set2_eq (base : Nat) (sa : Nat → Nat) (lv : jm_L) (i : Nat) (v : Value) : (i, jm_v base sa v) :: (jm_lv base sa lv).filter (fun q => !(q.1 == i) && (!(q.1 == i + 1) && !(q.1 + 1 == i && q.2.category == 2))) = jm_lv base sa (jm_set2 lv i v) := by
  unfold jm_set2 jm_lv
  rw [List.map_cons, List.filter_map]
  congr 2
  apply List.filter_congr
  intro q _
  simp [jm_v_cat]
/-- a constant -/
def jm_k (i : Instr) (len : Nat) : Option Value := match i, len with
  | .iconst n, 1 => some (.int (Int32.ofInt n))
  | .bipush n, 2 => some (.int (Int8.ofInt n).toInt32)
  | .sipush n, 3 => some (.int (Int16.ofInt n).toInt32)
  | .lconst n, 1 => some (.long (Int64.ofNat (n : Nat)))
  | .aconst_null, 1 => some .null
  | _, _ => none
/-- a load: the local's number, the kind (0 int, 1 long, 2 reference) -/
def jm_ld (i : Instr) (len : Nat) : Option (Nat × Nat) := match i, len with
  | .iload n, 2 => some (n, 0)
  | .iload_n n, 1 => some (n.val, 0)
  | .lload n, 2 => some (n, 1)
  | .lload_n n, 1 => some (n.val, 1)
  | .aload n, 2 => some (n, 2)
  | .aload_n n, 1 => some (n.val, 2)
  | _, _ => none
def jm_isk (k : Nat) (v : Value) : Bool := match k, v with
  | 0, .int _ => true
  | 1, .long _ => true
  | 2, .ref _ => true
  | _, _ => false
def jm_sr (i : Instr) (len : Nat) : Option (Nat × Nat) := match i, len with
  | .istore n, 2 => some (n, 0)
  | .istore_n n, 1 => some (n.val, 0)
  | .lstore n, 2 => some (n, 1)
  | .lstore_n n, 1 => some (n.val, 1)
  | .astore n, 2 => some (n, 2)
  | .astore_n n, 1 => some (n.val, 2)
  | _, _ => none
/-- two ints to one -/
def jm_ib (i : Instr) (x y : Int32) : Option Int32 := match i with
  | .iadd => some (x + y)
  | .isub => some (x - y)
  | .imul => some (x * y)
  | .iand => some (x &&& y)
  | .ior => some (x ||| y)
  | .ixor => some (x ^^^ y)
  | .ishl => some (x <<< (y &&& 31))
  | .ishr => some (x >>> (y &&& 31))
  | .iushr => some (x.toUInt32 >>> (y.toUInt32 &&& Int32.toUInt32 31)).toInt32
  | .idiv => if y = 0 then none else some (x / y)
  | .irem => if y = 0 then none else some (x - x / y * y)
  | _ => none
/-- two longs to one -/
def jm_lb (i : Instr) (x y : Int64) : Option Int64 := match i with
  | .ladd => some (x + y)
  | .lsub => some (x - y)
  | .lmul => some (x * y)
  | .land => some (x &&& y)
  | .lor => some (x ||| y)
  | .lxor => some (x ^^^ y)
  | .ldiv => if y = 0 then none else some (x / y)
  | .lrem => if y = 0 then none else some (x - x / y * y)
  | _ => none
/-- a long and an int to a long -/
def jm_ls (i : Instr) (x : Int64) (y : Int32) : Option Int64 := match i with
  | .lshl => some (x <<< (y.toInt64 &&& 63))
  | .lshr => some (x >>> (y.toInt64 &&& 63))
  | .lushr => some (x.toUInt64 >>> (y.toInt64.toUInt64 &&& Int64.toUInt64 63)).toInt64
  | _ => none
/-- one value to one -/
def jm_un (i : Instr) (v : Value) : Option Value := match i, v with
  | .ineg, .int x => some (.int (-x))
  | .lneg, .long x => some (.long (-x))
  | .i2l, .int x => some (.long x.toInt64)
  | .l2i, .long x => some (.int x.toInt32)
  | .i2b, .int x => some (.int x.toInt8.toInt32)
  | .i2s, .int x => some (.int x.toInt16.toInt32)
  | .i2c, .int x => some (.int (x.toUInt32 % 65536).toInt32)
  | _, _ => none
/-- all that takes its operands from the stack and lays its result there, length 1 -/
def jm_al (i : Instr) (st : List Value) : Option (List Value) := match st with
  | .int y :: .int x :: r => (match jm_ib i x y with
    | some z => some (.int z :: r)
    | none => match jm_un i (.int y) with
      | some z => some (z :: .int x :: r)
      | none => none)
  | .long y :: .long x :: r => (match i with
    | .lcmp => some (.int (lg_cmp x y) :: r)
    | _ => match jm_lb i x y with
      | some z => some (.long z :: r)
      | none => match jm_un i (.long y) with
        | some z => some (z :: .long x :: r)
        | none => none)
  | .int y :: .long x :: r => (match jm_ls i x y with
    | some z => some (.long z :: r)
    | none => match jm_un i (.int y) with
      | some z => some (z :: .long x :: r)
      | none => none)
  | v :: r => (match jm_un i v with
    | some z => some (z :: r)
    | none => none)
  | [] => none
/-- the stack's own instructions, length 1 -/
def jm_sk (i : Instr) (st : List Value) : Option (List Value) := match i, st with
  | .dup, a :: r => if a.category = 1 then some (a :: a :: r) else none
  | .pop, a :: r => if a.category = 1 then some r else none
  | .dup_x1, a :: b :: r => if a.category = 1 ∧ b.category = 1 then some (a :: b :: a :: r) else none
  | .dup_x2, a :: b :: d :: r => if a.category = 1 ∧ b.category = 1 ∧ d.category = 1 then some (a :: b :: d :: a :: r) else none
  | .dup2, a :: r => if a.category = 2 then some (a :: a :: r) else (match r with
    | b :: r' => if a.category = 1 ∧ b.category = 1 then some (a :: b :: a :: b :: r') else none
    | [] => none)
  | .pop2, a :: r => if a.category = 2 then some r else none
  | _, _ => none
def jm_at (pc : Nat) (off : Int) : Nat := ((pc : Int) + off).toNat
def jm_ok (pc : Nat) (off : Int) : Bool := decide (0 ≤ (pc : Int) + off)
theorem jm_at_eq {pc : Nat} {off : Int} (h : jm_ok pc off = true) : (pc : Int) + off = (jm_at pc off : Int) := by
  have h1 : 0 ≤ (pc : Int) + off := of_decide_eq_true h
  unfold jm_at
  omega
def jm_cz (q : ClassFile.Cond) (x : Int32) : Bool := match q with
  | .eq => decide (x = 0)
  | .ne => decide (¬ x = 0)
  | .lt => decide (x < 0)
  | .ge => decide (0 ≤ x)
  | .gt => decide (0 < x)
  | .le => decide (x ≤ 0)
def jm_cc (q : ClassFile.Cond) (x y : Int32) : Bool := match q with
  | .eq => decide (x = y)
  | .ne => decide (¬ x = y)
  | .lt => decide (x < y)
  | .ge => decide (y ≤ x)
  | .gt => decide (y < x)
  | .le => decide (x ≤ y)
/-- where a jump goes, and the stack behind it -/
def jm_br (i : Instr) (len pc : Nat) (st : List Value) : Option (Nat × List Value) := match i, len, st with
  | .goto off, 3, r => if jm_ok pc off = true then some (jm_at pc off, r) else none
  | .ifCond q off, 3, .int x :: r => if jm_ok pc off = true then some (if jm_cz q x = true then jm_at pc off else pc + 3, r) else none
  | .if_icmp q off, 3, .int y :: .int x :: r => if jm_ok pc off = true then some (if jm_cc q x y = true then jm_at pc off else pc + 3, r) else none
  | .ifnull off, 3, .ref _ :: r => some (pc + 3, r)
  | .ifnull off, 3, .null :: r => if jm_ok pc off = true then some (jm_at pc off, r) else none
  | .ifnonnull off, 3, .ref _ :: r => if jm_ok pc off = true then some (jm_at pc off, r) else none
  | .ifnonnull off, 3, .null :: r => some (pc + 3, r)
  | .tableswitch dflt lo hi offs, _, .int x :: r =>
    if x.toInt < lo ∨ hi < x.toInt then (if jm_ok pc dflt = true then some (jm_at pc dflt, r) else none)
    else (match offs[(x.toInt - lo).toNat]? with
      | some off => if jm_ok pc off = true then some (jm_at pc off, r) else none
      | none => none)
  | .lookupswitch dflt ps, _, .int x :: r =>
    if (ps.toList.zip (ps.toList.drop 1)).all (fun (a, next) => a.1 < next.1) = true ∧ jm_ok pc (Op.lookupswitch.offset ps.toList dflt x.toInt) = true then some (jm_at pc (Op.lookupswitch.offset ps.toList dflt x.toInt), r) else none
  | _, _, _ => none
end
section
/-! THE PURE MACHINE, part 2: each of part 1's instructions, over the machine itself -/
section JM2
variable {p : Program} {l : Launch} {e : Env} {R : Room} {s : State} {m : MethodId} {args : Array Value} {below : List Frame} {meth : Method} {c : Code} {H : Heap} {locs : List Loc} {cells slots : Nat} {Q : State → Prop}
variable {cc : ByteArray} {pc len nL base : Nat} {sa : Nat → Nat} {ls : Array Slot} {lv : jm_L} {st st' : List Value} {rest : List Value} {i : Instr}
theorem jm_k_ok {v : Value} (hx : p.tables.exec = Jvm.exec) (hb : c.code = cc) (hd : decode cc pc = .ok (i, len)) (h : jm_k i len = some v)
    (k : W p l e R s m args below meth c H locs cells slots Q (F0 m (pc + len) ls (jm_v base sa v :: rest))) : W p l e R s m args below meth c H locs cells slots Q (F0 m pc ls rest) := by
  unfold jm_k at h
  split at h
  · cases h; exact lv_iconst hx hb hd rfl k
  · cases h; exact lv_bipush hx hb hd rfl k
  · cases h; exact lv_sipush hx hb hd rfl k
  · cases h; exact lv_lconst hx hb hd rfl k
  · cases h; exact lv_null hx hb hd k
  · cases h
theorem jm_ld_ok {v : Value} {n q : Nat} (hx : p.tables.exec = Jvm.exec) (hb : c.code = cc) (hd : decode cc pc = .ok (i, len)) (h : jm_ld i len = some (n, q)) (hl : lv_has ls nL (jm_lv base sa lv)) (hg : jm_get lv n = some v) (hq : jm_isk q v = true)
    (k : W p l e R s m args below meth c H locs cells slots Q (F0 m (pc + len) ls (jm_v base sa v :: rest))) : W p l e R s m args below meth c H locs cells slots Q (F0 m pc ls rest) := by
  have ha := jm_get_has hl hg
  unfold jm_isk at hq
  unfold jm_ld at h
  split at h
  all_goals first | cases h | skip
  all_goals (split at hq)
  all_goals first | (cases hq; done) | skip
  all_goals first | omega | skip
  all_goals first | exact lv_iload hx hb hd ha k | exact lv_iload_n hx hb hd rfl ha k | exact lv_lload hx hb hd ha k | exact lv_lload_n hx hb hd rfl ha k | exact lv_aload hx hb hd ha k | exact lv_aload_n hx hb hd rfl ha k
theorem jm_sr_ok {v : Value} {n q : Nat} (hx : p.tables.exec = Jvm.exec) (hb : c.code = cc) (hd : decode cc pc = .ok (i, len)) (h : jm_sr i len = some (n, q)) (hl : lv_has ls nL (jm_lv base sa lv)) (hq : jm_isk q v = true) (hn : n + 1 < nL ∨ (n < nL ∧ v.category = 1))
    (kk : ∀ ls' : Array Slot, lv_has ls' nL (jm_lv base sa (if q = 1 then jm_set2 lv n v else jm_set1 lv n v)) → W p l e R s m args below meth c H locs cells slots Q (F0 m (pc + len) ls' rest)) : W p l e R s m args below meth c H locs cells slots Q (F0 m pc ls (jm_v base sa v :: rest)) := by
  have e1 := jm_set1_eq base sa lv n v
  have e2 := jm_set2_eq base sa lv n v
  have h1 : n < nL := by omega
  unfold jm_isk at hq
  unfold jm_sr at h
  split at h
  all_goals first | cases h | skip
  all_goals (split at hq)
  all_goals first | (cases hq; done) | skip
  all_goals first | omega | skip
  all_goals first
    | exact lv_istore hx hb hd hl h1 e1 kk
    | exact lv_istore_n hx hb hd rfl hl h1 e1 kk
    | exact lv_astore hx hb hd hl h1 e1 kk
    | exact lv_astore_n hx hb hd rfl hl h1 e1 kk
    | exact lv_lstore hx hb hd hl (by simp [Value.category] at hn; omega) e2 kk
    | exact lv_lstore_n hx hb hd rfl hl (by simp [Value.category] at hn; omega) e2 kk
theorem jm_inc_ok {n : Nat} {q : Int} {x : Int32} (hx : p.tables.exec = Jvm.exec) (hb : c.code = cc) (hd : decode cc pc = .ok (.iinc n q, 3)) (hl : lv_has ls nL (jm_lv base sa lv)) (hg : jm_get lv n = some (.int x)) (hn : n < nL)
    (kk : ∀ ls' : Array Slot, lv_has ls' nL (jm_lv base sa (jm_set1 lv n (.int (x + Int32.ofInt q)))) → W p l e R s m args below meth c H locs cells slots Q (F0 m (pc + 3) ls' rest)) : W p l e R s m args below meth c H locs cells slots Q (F0 m pc ls rest) := by
  have hm : (n, Value.int x) ∈ jm_lv base sa lv := List.mem_map.mpr ⟨(n, .int x), jm_get_mem hg, rfl⟩
  obtain ⟨j, hj⟩ := List.getElem?_of_mem hm
  exact lv_iinc hx hb hd hl hj rfl hn (jm_set1_eq base sa lv n (.int (x + Int32.ofInt q))) kk
theorem jm_ib_ok {x y z : Int32} (hx : p.tables.exec = Jvm.exec) (hb : c.code = cc) (hd : decode cc pc = .ok (i, 1)) (h : jm_ib i x y = some z)
    (k : W p l e R s m args below meth c H locs cells slots Q (F0 m (pc + 1) ls (.int z :: rest))) : W p l e R s m args below meth c H locs cells slots Q (F0 m pc ls (.int y :: .int x :: rest)) := by
  unfold jm_ib at h
  split at h
  · cases h; exact lv_iadd hx hb hd k
  · cases h; exact lv_isub hx hb hd k
  · cases h; exact lv_imul hx hb hd k
  · cases h; exact lv_iand hx hb hd k
  · cases h; exact lv_ior hx hb hd k
  · cases h; exact lv_ixor hx hb hd k
  · cases h; exact lv_ishl hx hb hd k
  · cases h; exact lv_ishr hx hb hd k
  · cases h; exact lv_iushr hx hb hd rfl k
  · split at h
    · cases h
    · rename_i hy; cases h; exact lv_idiv hx hb hd hy k
  · split at h
    · cases h
    · rename_i hy; cases h; exact lv_irem hx hb hd hy k
  · cases h
theorem jm_lb_ok {x y z : Int64} (hx : p.tables.exec = Jvm.exec) (hb : c.code = cc) (hd : decode cc pc = .ok (i, 1)) (h : jm_lb i x y = some z)
    (k : W p l e R s m args below meth c H locs cells slots Q (F0 m (pc + 1) ls (.long z :: rest))) : W p l e R s m args below meth c H locs cells slots Q (F0 m pc ls (.long y :: .long x :: rest)) := by
  unfold jm_lb at h
  split at h
  · cases h; exact lv_ladd hx hb hd k
  · cases h; exact lv_lsub hx hb hd k
  · cases h; exact lv_lmul hx hb hd k
  · cases h; exact lv_land hx hb hd k
  · cases h; exact lv_lor hx hb hd k
  · cases h; exact lv_lxor hx hb hd k
  · split at h
    · cases h
    · rename_i hy; cases h; exact lv_ldiv hx hb hd hy k
  · split at h
    · cases h
    · rename_i hy; cases h; exact lv_lrem hx hb hd hy k
  · cases h
theorem jm_ls_ok {x z : Int64} {y : Int32} (hx : p.tables.exec = Jvm.exec) (hb : c.code = cc) (hd : decode cc pc = .ok (i, 1)) (h : jm_ls i x y = some z)
    (k : W p l e R s m args below meth c H locs cells slots Q (F0 m (pc + 1) ls (.long z :: rest))) : W p l e R s m args below meth c H locs cells slots Q (F0 m pc ls (.int y :: .long x :: rest)) := by
  unfold jm_ls at h
  split at h
  · cases h; exact lv_lshl hx hb hd rfl k
  · cases h; exact lv_lshr hx hb hd rfl k
  · cases h; exact lv_lushr hx hb hd rfl k
  · cases h
theorem jm_un_ok {v z : Value} (hx : p.tables.exec = Jvm.exec) (hb : c.code = cc) (hd : decode cc pc = .ok (i, 1)) (h : jm_un i v = some z)
    (k : W p l e R s m args below meth c H locs cells slots Q (F0 m (pc + 1) ls (jm_v base sa z :: rest))) : W p l e R s m args below meth c H locs cells slots Q (F0 m pc ls (jm_v base sa v :: rest)) := by
  unfold jm_un at h
  split at h
  · cases h; exact lv_ineg hx hb hd k
  · cases h; exact lv_lneg hx hb hd k
  · cases h; exact lv_i2l hx hb hd rfl k
  · cases h; exact lv_l2i hx hb hd rfl k
  · cases h; exact lv_i2b hx hb hd rfl k
  · cases h; exact lv_i2s hx hb hd rfl k
  · cases h; exact lv_i2c hx hb hd rfl k
  · cases h
theorem jm_al_ok (hx : p.tables.exec = Jvm.exec) (hb : c.code = cc) (hd : decode cc pc = .ok (i, 1)) (h : jm_al i st = some st')
    (k : W p l e R s m args below meth c H locs cells slots Q (F0 m (pc + 1) ls (st'.map (jm_v base sa)))) : W p l e R s m args below meth c H locs cells slots Q (F0 m pc ls (st.map (jm_v base sa))) := by
  unfold jm_al at h
  split at h
  · split at h
    · rename_i y x r z hz; cases h; exact jm_ib_ok hx hb hd hz k
    · split at h
      · rename_i z hz; cases h; exact jm_un_ok (base := base) (sa := sa) hx hb hd hz k
      · cases h
  · split at h
    · cases h; exact W.lcmp hx hb hd k
    · split at h
      · rename_i z hz; cases h; exact jm_lb_ok hx hb hd hz k
      · split at h
        · rename_i z hz; cases h; exact jm_un_ok (base := base) (sa := sa) hx hb hd hz k
        · cases h
  · split at h
    · rename_i y x r z hz; cases h; exact jm_ls_ok hx hb hd hz k
    · split at h
      · rename_i z hz; cases h; exact jm_un_ok (base := base) (sa := sa) hx hb hd hz k
      · cases h
  · split at h
    · rename_i z hz; cases h; exact jm_un_ok (base := base) (sa := sa) hx hb hd hz k
    · cases h
  · cases h
theorem jm_sk_ok (hx : p.tables.exec = Jvm.exec) (hb : c.code = cc) (hd : decode cc pc = .ok (i, 1)) (h : jm_sk i st = some st')
    (k : W p l e R s m args below meth c H locs cells slots Q (F0 m (pc + 1) ls (st'.map (jm_v base sa)))) : W p l e R s m args below meth c H locs cells slots Q (F0 m pc ls (st.map (jm_v base sa))) := by
  unfold jm_sk at h
  split at h
  · split at h
    · rename_i q; cases h; exact lv_dup hx hb hd (by rw [jm_v_cat]; exact q) k
    · cases h
  · split at h
    · rename_i q; cases h; exact lv_pop hx hb hd (by rw [jm_v_cat]; exact q) k
    · cases h
  · split at h
    · rename_i q; cases h; exact lv_dup_x1 hx hb hd (by rw [jm_v_cat]; exact q.1) (by rw [jm_v_cat]; exact q.2) k
    · cases h
  · split at h
    · rename_i q; cases h; exact lv_dup_x2 hx hb hd (by rw [jm_v_cat]; exact q.1) (by rw [jm_v_cat]; exact q.2.1) (by rw [jm_v_cat]; exact q.2.2) k
    · cases h
  · split at h
    · rename_i q; cases h; exact lv_dup2_2 hx hb hd (by rw [jm_v_cat]; exact q) k
    · split at h
      · split at h
        · rename_i q; cases h; exact lv_dup2_11 hx hb hd (by rw [jm_v_cat]; exact q.1) (by rw [jm_v_cat]; exact q.2) k
        · cases h
      · cases h
  · split at h
    · rename_i q; cases h; exact lv_pop2_2 hx hb hd (by rw [jm_v_cat]; exact q) k
    · cases h
  · cases h
theorem jm_cz_ok {q : ClassFile.Cond} {off : Int} {x : Int32} (hx : p.tables.exec = Jvm.exec) (hb : c.code = cc) (hd : decode cc pc = .ok (.ifCond q off, 3)) (ho : jm_ok pc off = true)
    (k : W p l e R s m args below meth c H locs cells slots Q (F0 m (if jm_cz q x = true then jm_at pc off else pc + 3) ls rest)) : W p l e R s m args below meth c H locs cells slots Q (F0 m pc ls (.int x :: rest)) := by
  have ht := jm_at_eq ho
  cases q
  · exact lv_if_eq hx hb hd ht (fun z => by rw [if_pos (by simp [jm_cz, z])] at k; exact k) (fun z => by rw [if_neg (by simp [jm_cz, z])] at k; exact k)
  · exact lv_if_ne hx hb hd ht (fun z => by rw [if_pos (by simp [jm_cz, z])] at k; exact k) (fun z => by rw [if_neg (by simp [jm_cz, z])] at k; exact k)
  · exact lv_if_lt hx hb hd ht (fun z => by rw [if_pos (by simp [jm_cz, z])] at k; exact k) (fun z => by rw [if_neg (by simp only [jm_cz, decide_eq_true_eq]; exact z)] at k; exact k)
  · exact lv_if_ge hx hb hd ht (fun z => by rw [if_pos (by simp only [jm_cz, decide_eq_true_eq]; exact z)] at k; exact k) (fun z => by rw [if_neg (by simp only [jm_cz, decide_eq_true_eq]; exact z)] at k; exact k)
  · exact lv_if_gt hx hb hd ht (fun z => by rw [if_pos (by simp only [jm_cz, decide_eq_true_eq]; exact z)] at k; exact k) (fun z => by rw [if_neg (by simp only [jm_cz, decide_eq_true_eq]; exact z)] at k; exact k)
  · exact lv_if_le hx hb hd ht (fun z => by rw [if_pos (by simp only [jm_cz, decide_eq_true_eq]; exact z)] at k; exact k) (fun z => by rw [if_neg (by simp only [jm_cz, decide_eq_true_eq]; exact z)] at k; exact k)
theorem jm_cc_ok {q : ClassFile.Cond} {off : Int} {x y : Int32} (hx : p.tables.exec = Jvm.exec) (hb : c.code = cc) (hd : decode cc pc = .ok (.if_icmp q off, 3)) (ho : jm_ok pc off = true)
    (k : W p l e R s m args below meth c H locs cells slots Q (F0 m (if jm_cc q x y = true then jm_at pc off else pc + 3) ls rest)) : W p l e R s m args below meth c H locs cells slots Q (F0 m pc ls (.int y :: .int x :: rest)) := by
  have ht := jm_at_eq ho
  cases q
  · exact lv_icmp_eq hx hb hd ht (fun z => by rw [if_pos (by simp only [jm_cc, decide_eq_true_eq]; exact z)] at k; exact k) (fun z => by rw [if_neg (by simp only [jm_cc, decide_eq_true_eq]; exact z)] at k; exact k)
  · exact lv_icmp_ne hx hb hd ht (fun z => by rw [if_pos (by simp only [jm_cc, decide_eq_true_eq]; exact z)] at k; exact k) (fun z => by rw [if_neg (by simp only [jm_cc, decide_eq_true_eq]; exact fun w => w z)] at k; exact k)
  · exact lv_icmp_lt hx hb hd ht (fun z => by rw [if_pos (by simp only [jm_cc, decide_eq_true_eq]; exact z)] at k; exact k) (fun z => by rw [if_neg (by simp only [jm_cc, decide_eq_true_eq]; exact z)] at k; exact k)
  · exact lv_icmp_ge hx hb hd ht (fun z => by rw [if_pos (by simp only [jm_cc, decide_eq_true_eq]; exact z)] at k; exact k) (fun z => by rw [if_neg (by simp only [jm_cc, decide_eq_true_eq]; exact z)] at k; exact k)
  · exact lv_icmp_gt hx hb hd ht (fun z => by rw [if_pos (by simp only [jm_cc, decide_eq_true_eq]; exact z)] at k; exact k) (fun z => by rw [if_neg (by simp only [jm_cc, decide_eq_true_eq]; exact z)] at k; exact k)
  · exact lv_icmp_le hx hb hd ht (fun z => by rw [if_pos (by simp only [jm_cc, decide_eq_true_eq]; exact z)] at k; exact k) (fun z => by rw [if_neg (by simp only [jm_cc, decide_eq_true_eq]; exact z)] at k; exact k)
theorem jm_br_ok {pc' : Nat} (hx : p.tables.exec = Jvm.exec) (hb : c.code = cc) (hd : decode cc pc = .ok (i, len)) (h : jm_br i len pc st = some (pc', st'))
    (k : W p l e R s m args below meth c H locs cells slots Q (F0 m pc' ls (st'.map (jm_v base sa)))) : W p l e R s m args below meth c H locs cells slots Q (F0 m pc ls (st.map (jm_v base sa))) := by
  unfold jm_br at h
  split at h
  · split at h
    · rename_i q; cases h; exact lv_goto hx hb hd (jm_at_eq q) k
    · cases h
  · split at h
    · rename_i q; cases h; exact jm_cz_ok hx hb hd q k
    · cases h
  · split at h
    · rename_i q; cases h; exact jm_cc_ok hx hb hd q k
    · cases h
  · cases h; exact lv_ifnull hx hb hd k
  · split at h
    · rename_i q; cases h; exact lv_ifnullN hx hb hd (jm_at_eq q) k
    · cases h
  · split at h
    · rename_i q; cases h; exact lv_ifnonnull hx hb hd (jm_at_eq q) k
    · cases h
  · cases h; exact lv_ifnonnullN hx hb hd k
  · split at h
    · rename_i q
      split at h
      · rename_i q2; cases h; exact lv_tableOut hx hb hd q (jm_at_eq q2) k
      · cases h
    · rename_i q
      split at h
      · rename_i off ho
        split at h
        · rename_i q2; cases h; exact lv_tableIn hx hb hd (fun z => q (Or.inl z)) (fun z => q (Or.inr z)) ho (jm_at_eq q2) k
        · cases h
      · cases h
  · split at h
    · rename_i q; cases h; exact lv_lookup hx hb hd q.1 rfl (jm_at_eq q.2) k
    · cases h
  · cases h
end JM2
end
section
/-! THE PURE MACHINE, part 3: cells -/
def jm_E (base : Nat) (sa : Nat → Nat) (dA : Nat → ClassId) (x : jm_c) : va_E := match x with
  | .inl (t, n, .inr (.inr (.inr (.inr g)))) => .inl (dA t, n, .inr (.inr (.inr (.inr (fun j => (g j).map (jm_a base sa))))))
  | .inl (t, a) => .inl (dA t, a)
  | .inr (ci, fs) => .inr (ci, fs.map (jm_v base sa))
/-- the heap holds the store S, from the address base on, and ends there -/
def jm_H (D : va_G) (cl : List vw_C) (dA : Nat → ClassId) (base : Nat) (sa : Nat → Nat) (S : jm_S) (H : Heap) : Prop :=
  H.size = base + S.1 ∧ ∀ k, k < S.1 → va_at D cl (base + k, jm_E base sa dA (S.2 k)) H
def jm_up (S : jm_S) (k : Nat) (x : jm_c) : jm_S := (S.1, va_up S.2 k x)
def jm_add (S : jm_S) (x : jm_c) : jm_S := (S.1 + 1, va_up S.2 S.1 x)
theorem jm_H.up {D : va_G} {cl : List vw_C} {dA : Nat → ClassId} {base : Nat} {sa : Nat → Nat} {S : jm_S} {H H1 : Heap} {k : Nat} {x : jm_c} (h : jm_H D cl dA base sa S H) (z : H1.size = H.size) (oq : ∀ q : Nat, q ≠ base + k → H1[q]? = H[q]?) (hx : va_at D cl (base + k, jm_E base sa dA x) H1) : jm_H D cl dA base sa (jm_up S k x) H1 := by
  refine ⟨by rw [z]; exact h.1, fun j hj => ?_⟩
  by_cases hjk : j = k
  · subst hjk
    show va_at D cl (base + j, jm_E base sa dA (va_up S.2 j x j)) H1
    rw [va_up_self]
    exact hx
  · show va_at D cl (base + j, jm_E base sa dA (va_up S.2 k x j)) H1
    rw [va_up_ne _ _ hjk]
    exact (h.2 j hj).kept (oq _ (by show base + j ≠ base + k; omega))
theorem jm_H.add {D : va_G} {cl : List vw_C} {dA : Nat → ClassId} {base : Nat} {sa : Nat → Nat} {S : jm_S} {H H1 : Heap} {x : jm_c} (h : jm_H D cl dA base sa S H) (z : H1.size = base + S.1 + 1) (oq : ∀ q : Nat, q < base + S.1 → H1[q]? = H[q]?) (hx : va_at D cl (base + S.1, jm_E base sa dA x) H1) : jm_H D cl dA base sa (jm_add S x) H1 := by
  refine ⟨by rw [z]; rfl, fun j hj => ?_⟩
  have hj' : j < S.1 + 1 := hj
  by_cases hjk : j = S.1
  · subst hjk
    show va_at D cl (base + S.1, jm_E base sa dA (va_up S.2 S.1 x S.1)) H1
    rw [va_up_self]
    exact hx
  · show va_at D cl (base + j, jm_E base sa dA (va_up S.2 S.1 x j)) H1
    rw [va_up_ne _ _ hjk]
    exact (h.2 j (by omega)).kept (oq _ (by show base + j < base + S.1; omega))
theorem jm_one {D : va_G} {cl : List vw_C} {q : Nat × va_E} {H : Heap} (h : va_at D cl q H) : va_P D cl [q] H := by
  intro k x hx
  have hk : k < 1 := (List.getElem?_eq_some_iff.mp hx).1
  rw [show k = 0 by omega] at hx
  cases hx
  exact h
/-- the types of arrays, by number -/
def jm_tys (dA : Nat → ClassId) : List (ClassId × FieldType) := [(dA 0, .int), (dA 1, .long), (dA 2, .boolean), (dA 3, .byte)]
/-- may the value be laid into a field of the type -/
def jm_fit (ty : FieldType) (v : Value) : Bool := match ty, v with
  | .int, .int _ => true
  | .long, .long _ => true
  | .boolean, .int x => x == 0 || x == 1
  | .object _, .ref _ => true
  | .array _, .ref _ => true
  | .object _, .null => true
  | .array _, .null => true
  | _, _ => false
theorem jm_fit_ok {ty : FieldType} {v : Value} (base : Nat) (sa : Nat → Nat) (h : jm_fit ty v = true) : narrow ty (jm_v base sa v) = jm_v base sa v ∧ fits ty (jm_v base sa v) = true := by
  unfold jm_fit at h
  split at h
  · exact ⟨rfl, rfl⟩
  · exact ⟨rfl, rfl⟩
  · rename_i x
    rcases (by simpa using h : x = 0 ∨ x = 1) with rfl | rfl <;> exact ⟨rfl, rfl⟩
  · exact ⟨rfl, rfl⟩
  · exact ⟨rfl, rfl⟩
  · exact ⟨rfl, rfl⟩
  · exact ⟨rfl, rfl⟩
  · cases h
section JM3
variable {p : Program} {l : Launch} {e : Env} {R : Room} {s : State} {m : MethodId} {args : Array Value} {below : List Frame} {meth : Method} {c : Code} {H H0 : Heap} {locs : List Loc} {cells slots : Nat} {Q : State → Prop}
variable {cc : ByteArray} {pc base : Nat} {sa : Nat → Nat} {dA : Nat → ClassId} {D : va_G} {cl : List vw_C} {tys : List (ClassId × FieldType)} {ls : Array Slot} {rest : List Value} {S : jm_S} {k : Nat}
theorem jm_a_lo (hk : k < S.1) (hlim : S.1 ≤ jm_lim) : jm_a base sa k = base + k := if_pos (by omega)
theorem jm_getf_ok (hx : p.tables.exec = Jvm.exec) (hb : c.code = cc) {own C host : String} {T : u_T} {N ci index : Nat} {Ts : List Cond} (hts : ∀ w ∈ Ts, w.before args s = true) (hin : ∀ w ∈ u_ws C T N, w ∈ Ts) (hown : s.vm.findClass own = some m.cls) (hK : va_K D cl tys s) (hH : jm_H D cl dA base sa S H) (hlim : S.1 ≤ jm_lim) (hk : k < S.1) {fs : List Value} (he : S.2 k = .inr (ci, fs)) (hc : cl[ci]? = some (C, T, N)) (j : Nat) (hj : j < N)
    (hlink : (Cond.fieldLink own index (T j).1 (T j).2.1 (T j).2.2.1) ∈ Ts ∨ (Cond.fieldLinkNest own index (T j).1 (T j).2.1 (T j).2.2.1 host) ∈ Ts) {v : Value} (hv : fs[j]? = some v) (hdg : decode cc pc = .ok (.getfield index, 3))
    (kk : W p l e R s m args below meth c H locs cells slots Q (F0 m (pc + 3) ls (jm_v base sa v :: rest))) : W p l e R s m args below meth c H locs cells slots Q (F0 m pc ls (jm_v base sa (.ref k) :: rest)) := by
  show W p l e R s m args below meth c H locs cells slots Q (F0 m pc ls (.ref (jm_a base sa k) :: rest))
  rw [jm_a_lo hk hlim]
  have h1 := hH.2 k hk
  rw [he] at h1
  have hv' : (fs.map (jm_v base sa))[j]? = some (jm_v base sa v) := by rw [List.getElem?_map, hv]; rfl
  rcases hlink with h | h
  · exact va_get hx hb hts hin hown hK (jm_one h1) 0 rfl hc j hj (hts _ h) (fun _ h9 => h9) hv' hdg kk
  · exact va_getN hx hb hts hin hown hK (jm_one h1) 0 rfl hc j hj (hts _ h) (fun _ h9 => h9) hv' hdg kk
theorem jm_putf_ok (hx : p.tables.exec = Jvm.exec) (hb : c.code = cc) {own C host : String} {T : u_T} {N ci index : Nat} {Ts : List Cond} (hts : ∀ w ∈ Ts, w.before args s = true) (hin : ∀ w ∈ u_ws C T N, w ∈ Ts) (ty0 : Nat → FieldType) (hty : ∀ k, k < N → parseFieldDescriptor (T k).2.2.1 = some (ty0 k)) (hnm : ∀ a, a < N → ∀ b, b < N → a ≠ b → (T a).2.1 ≠ (T b).2.1)
    (hown : s.vm.findClass own = some m.cls) (hK : va_K D cl tys s) (hH : jm_H D cl dA base sa S H) (hS : va_S (fun q => base ≤ q) H0 H locs) (hlim : S.1 ≤ jm_lim) (hk : k < S.1) {fs : List Value} (he : S.2 k = .inr (ci, fs)) (hc : cl[ci]? = some (C, T, N)) (j : Nat) (hj : j < N)
    (hlink : ((Cond.fieldLink own index (T j).1 (T j).2.1 (T j).2.2.1) ∈ Ts ∧ ((T j).2.2.2 = true → meth.name = "<init>" ∧ own = (T j).1)) ∨ ((Cond.fieldLinkNest own index (T j).1 (T j).2.1 (T j).2.2.1 host) ∈ Ts ∧ (T j).2.2.2 = false)) {v : Value} (hf : jm_fit (ty0 j) v = true) (hl : j < fs.length) (hdg : decode cc pc = .ok (.putfield index, 3))
    (kk : ∀ (H1 : Heap) (locs1 : List Loc), jm_H D cl dA base sa (jm_up S k (.inr (ci, fs.set j v))) H1 → va_S (fun q => base ≤ q) H0 H1 locs1 → W p l e R s m args below meth c H1 locs1 cells slots Q (F0 m (pc + 3) ls rest)) : W p l e R s m args below meth c H locs cells slots Q (F0 m pc ls (jm_v base sa v :: jm_v base sa (.ref k) :: rest)) := by
  show W p l e R s m args below meth c H locs cells slots Q (F0 m pc ls (jm_v base sa v :: .ref (jm_a base sa k) :: rest))
  rw [jm_a_lo hk hlim]
  have h1 := hH.2 k hk
  rw [he] at h1
  obtain ⟨hn, hfit⟩ := jm_fit_ok base sa hf
  have hd := hty j hj
  have hap := va_apart (own := own) hts hin ty0 hty hnm hK hc
  obtain ⟨r, h1, cell, q1, q2, q3, q4⟩ := h1
  have hr : r = (C, T, N) := Option.some.inj (h1.symm.trans hc)
  subst hr
  obtain ⟨hSl, hfc, kC, hkC, hkind⟩ := hK.1 ci _ hc
  obtain ⟨cf, kf, fi, f, hi, hsl⟩ := hSl j hj
  have hlays := u_lays hts hin hj
  have hst := (u_facts hfc hkC hlays hi).1
  have hl' : j < (fs.map (jm_v base sa)).length := by rw [List.length_map]; exact hl
  have fin : ∀ H' : Heap, H'[base + k]? = some (cell.setSlot f.slot (jm_v base sa v)) → H'.size = H.size → (∀ q, q ≠ base + k → H'[q]? = H[q]?) → W p l e R s m args below meth c H' (locs ++ [⟨base + k, f.slot⟩]) cells slots Q (F0 m (pc + 3) ls rest) := by
    intro H' e1 e2 e3
    rw [hsl] at e1 ⊢
    refine kk H' _ (hH.up e2 e3 ?_) (hS.put e2 e3 (Nat.le_add_right _ _))
    refine ⟨_, hc, ?_⟩
    show t_OB (base + k) (D.1 ci) N (D.2 ci) H' (vp_V ((fs.set j v).map (jm_v base sa)))
    rw [List.map_set]
    exact t_OB.to (V := updV (vp_V (fs.map (jm_v base sa))) j (jm_v base sa v)) ⟨_, e1, q2, q3, t_set q4 hap hj (jm_v base sa v)⟩ (fun i _ => vp_updV_set hl' (jm_v base sa v) i)
  have hlt : f.slot < cell.slots.size := by rw [hsl]; exact k2_hasslot (q4 j hj)
  rcases hlink with ⟨h, hfin⟩ | ⟨h, hfin⟩
  · by_cases hb4 : (T j).2.2.2 = true
    · obtain ⟨hin2, hdecl⟩ := hfin hb4
      have hlay := hts _ (hin _ (u_in_lay hj))
      unfold u_lay at hlay
      rw [if_pos hb4] at hlay
      have hcf : m.cls = cf := by
        obtain ⟨_, _, c', _, _, _, -, -, hf', -, -, -, hown2, -⟩ := Cond.laysFinal_spec hlay
        have e1 : c' = cf := by have := hi.symm.trans hf'; simp at this; exact this.1.symm
        rw [← hdecl] at hown2
        rw [← e1]; exact Option.some.inj (hown.symm.trans hown2)
      have h6 := u_fits hfc hkC hkind (Or.inr hlay) hi hd hn hfit
      exact W.putFinK hx hb hown (hts _ h) hi hst hcf hin2 (by rw [q2]; exact h6) q1 q3 hlt rfl rfl hdg fin
    · have hlay := hts _ (hin _ (u_in_lay hj))
      unfold u_lay at hlay
      rw [if_neg hb4] at hlay
      have h6 := u_store hfc hkC hkind hlay hi hd hn hfit
      exact W.putK hx hb (f := f) ⟨hown, hts _ h, ⟨_, _, _, hi⟩, hst⟩ (by rw [q2]; exact h6) q1 q3 hlt rfl rfl hdg fin
  · have hlay := hts _ (hin _ (u_in_lay hj))
    unfold u_lay at hlay
    rw [if_neg (by rw [hfin]; decide)] at hlay
    have h6 := u_store hfc hkC hkind hlay hi hd hn hfit
    exact va_WputK hx hb hown (hts _ h) hi hst (by rw [q2]; exact h6) q1 q3 hlt rfl rfl hdg fin
/-- an element, read -/
theorem jm_iald_ok (hx : p.tables.exec = Jvm.exec) (hb : c.code = cc) (hK : va_K D cl (jm_tys dA) s) (hH : jm_H D cl dA base sa S H) (hlim : S.1 ≤ jm_lim) (hk : k < S.1) {n : Nat} {f : Nat → Int32} (he : S.2 k = .inl (0, n, .inl f)) {i : Int32} (hin : vp_in i n) (hdg : decode cc pc = .ok (.iaload, 1))
    (kk : W p l e R s m args below meth c H locs cells slots Q (F0 m (pc + 1) ls (.int (f i.toNatClampNeg) :: rest))) : W p l e R s m args below meth c H locs cells slots Q (F0 m pc ls (.int i :: jm_v base sa (.ref k) :: rest)) := by
  show W p l e R s m args below meth c H locs cells slots Q (F0 m pc ls (.int i :: .ref (jm_a base sa k) :: rest))
  rw [jm_a_lo hk hlim]
  have h1 := hH.2 k hk
  rw [he] at h1
  exact va_iald hx hb hK (jm_one h1) 0 0 rfl rfl hin hdg kk
theorem jm_zald_ok (hx : p.tables.exec = Jvm.exec) (hb : c.code = cc) (hK : va_K D cl (jm_tys dA) s) (hH : jm_H D cl dA base sa S H) (hlim : S.1 ≤ jm_lim) (hk : k < S.1) {n : Nat} {f : Nat → Int32} (he : S.2 k = .inl (2, n, .inl f)) {i : Int32} (hin : vp_in i n) (hdg : decode cc pc = .ok (.baload, 1))
    (kk : W p l e R s m args below meth c H locs cells slots Q (F0 m (pc + 1) ls (.int (f i.toNatClampNeg) :: rest))) : W p l e R s m args below meth c H locs cells slots Q (F0 m pc ls (.int i :: jm_v base sa (.ref k) :: rest)) := by
  show W p l e R s m args below meth c H locs cells slots Q (F0 m pc ls (.int i :: .ref (jm_a base sa k) :: rest))
  rw [jm_a_lo hk hlim]
  have h1 := hH.2 k hk
  rw [he] at h1
  exact va_zald hx hb hK (jm_one h1) 0 2 rfl rfl hin hdg kk
theorem jm_bald_ok (hx : p.tables.exec = Jvm.exec) (hb : c.code = cc) (hK : va_K D cl (jm_tys dA) s) (hH : jm_H D cl dA base sa S H) (hlim : S.1 ≤ jm_lim) (hk : k < S.1) {n : Nat} {f : Nat → Int32} (he : S.2 k = .inl (3, n, .inl f)) {i : Int32} (hin : vp_in i n) (hdg : decode cc pc = .ok (.baload, 1))
    (kk : W p l e R s m args below meth c H locs cells slots Q (F0 m (pc + 1) ls (.int (f i.toNatClampNeg) :: rest))) : W p l e R s m args below meth c H locs cells slots Q (F0 m pc ls (.int i :: jm_v base sa (.ref k) :: rest)) := by
  show W p l e R s m args below meth c H locs cells slots Q (F0 m pc ls (.int i :: .ref (jm_a base sa k) :: rest))
  rw [jm_a_lo hk hlim]
  have h1 := hH.2 k hk
  rw [he] at h1
  exact va_bald hx hb hK (jm_one h1) 0 3 rfl rfl hin hdg kk
theorem jm_lald_ok (hx : p.tables.exec = Jvm.exec) (hb : c.code = cc) (hK : va_K D cl (jm_tys dA) s) (hH : jm_H D cl dA base sa S H) (hlim : S.1 ≤ jm_lim) (hk : k < S.1) {n : Nat} {f : Nat → Int64} (he : S.2 k = .inl (1, n, .inr (.inl f))) {i : Int32} (hin : vp_in i n) (hdg : decode cc pc = .ok (.laload, 1))
    (kk : W p l e R s m args below meth c H locs cells slots Q (F0 m (pc + 1) ls (.long (f i.toNatClampNeg) :: rest))) : W p l e R s m args below meth c H locs cells slots Q (F0 m pc ls (.int i :: jm_v base sa (.ref k) :: rest)) := by
  show W p l e R s m args below meth c H locs cells slots Q (F0 m pc ls (.int i :: .ref (jm_a base sa k) :: rest))
  rw [jm_a_lo hk hlim]
  have h1 := hH.2 k hk
  rw [he] at h1
  exact va_lald hx hb hK (jm_one h1) 0 1 rfl rfl hin hdg kk
theorem jm_alen_ok (hx : p.tables.exec = Jvm.exec) (hb : c.code = cc) (hK : va_K D cl (jm_tys dA) s) (hH : jm_H D cl dA base sa S H) (hlim : S.1 ≤ jm_lim) (hk : k < S.1) {t n : Nat} (ht : t < 4) {x : (Nat → Int32) ⊕ (Nat → Int64) ⊕ (Nat → UInt32) ⊕ (Nat → UInt64) ⊕ (Nat → Option Nat)} (he : S.2 k = .inl (t, n, x)) (hdg : decode cc pc = .ok (.arraylength, 1))
    (kk : W p l e R s m args below meth c H locs cells slots Q (F0 m (pc + 1) ls (.int (Int32.ofNat n) :: rest))) : W p l e R s m args below meth c H locs cells slots Q (F0 m pc ls (jm_v base sa (.ref k) :: rest)) := by
  show W p l e R s m args below meth c H locs cells slots Q (F0 m pc ls (.ref (jm_a base sa k) :: rest))
  rw [jm_a_lo hk hlim]
  have h1 := hH.2 k hk
  rw [he] at h1
  have hty : ∃ ty, (jm_tys dA)[t]? = some (dA t, ty) := by
    match t, ht with
    | 0, _ => exact ⟨_, rfl⟩
    | 1, _ => exact ⟨_, rfl⟩
    | 2, _ => exact ⟨_, rfl⟩
    | 3, _ => exact ⟨_, rfl⟩
  obtain ⟨ty, hty⟩ := hty
  rcases x with f | f | f | f | f
  · exact va_alen (x := (n, .inl f)) hx hb hK (jm_one h1) 0 t rfl hty rfl hdg kk
  · exact va_alen (x := (n, .inr (.inl f))) hx hb hK (jm_one h1) 0 t rfl hty rfl hdg kk
  · exact va_alen (x := (n, .inr (.inr (.inl f)))) hx hb hK (jm_one h1) 0 t rfl hty rfl hdg kk
  · exact va_alen (x := (n, .inr (.inr (.inr (.inl f))))) hx hb hK (jm_one h1) 0 t rfl hty rfl hdg kk
  · exact va_alen (x := (n, .inr (.inr (.inr (.inr (fun j => (f j).map (jm_a base sa))))))) hx hb hK (jm_one h1) 0 t rfl hty rfl hdg kk
/-- an element, written -/
theorem jm_iast_ok (hx : p.tables.exec = Jvm.exec) (hb : c.code = cc) (hK : va_K D cl (jm_tys dA) s) (hH : jm_H D cl dA base sa S H) (hS : va_S (fun q => base ≤ q) H0 H locs) (hlim : S.1 ≤ jm_lim) (hk : k < S.1) {n : Nat} {f : Nat → Int32} (he : S.2 k = .inl (0, n, .inl f)) {i x : Int32} (hin : vp_in i n) (hdg : decode cc pc = .ok (.iastore, 1))
    (kk : ∀ (H1 : Heap) (locs1 : List Loc), jm_H D cl dA base sa (jm_up S k (.inl (0, n, .inl (upd f i.toNatClampNeg x)))) H1 → va_S (fun q => base ≤ q) H0 H1 locs1 → W p l e R s m args below meth c H1 locs1 cells slots Q (F0 m (pc + 1) ls rest)) : W p l e R s m args below meth c H locs cells slots Q (F0 m pc ls (.int x :: .int i :: jm_v base sa (.ref k) :: rest)) := by
  show W p l e R s m args below meth c H locs cells slots Q (F0 m pc ls (.int x :: .int i :: .ref (jm_a base sa k) :: rest))
  rw [jm_a_lo hk hlim]
  have h1 := hH.2 k hk
  rw [he] at h1
  have h1' : H[base + k]? = some (vp_cell (dA 0) (n, .inl f)) := h1
  refine W.iast hx hb h1' ((hK.2 0 (dA 0, .int) rfl).1 n (fun j => .int (f j))) (fun q => by cases q) (by show ¬ (i < 0 ∨ (arrV _ _ _).slots.size ≤ _); rw [arrV_size]; exact hin) rfl rfl hdg fun H1 e z oq => ?_
  refine kk H1 _ (hH.up z oq ?_) (hS.put z oq (Nat.le_add_right _ _))
  show H1[base + k]? = some (vp_cell (dA 0) (n, .inl (upd f i.toNatClampNeg x)))
  rw [e, vp_cell_i, vp_cell_i, arrV_store]
  congr 2
  funext q
  by_cases hq : q = i.toNatClampNeg
  · subst hq
    simp [updV, upd]
  · simp [updV, upd, hq]
theorem jm_zast_ok (hx : p.tables.exec = Jvm.exec) (hb : c.code = cc) (hK : va_K D cl (jm_tys dA) s) (hH : jm_H D cl dA base sa S H) (hS : va_S (fun q => base ≤ q) H0 H locs) (hlim : S.1 ≤ jm_lim) (hk : k < S.1) {n : Nat} {f : Nat → Int32} (he : S.2 k = .inl (2, n, .inl f)) {i x : Int32} (hin : vp_in i n) (hdg : decode cc pc = .ok (.bastore, 1))
    (kk : ∀ (H1 : Heap) (locs1 : List Loc), jm_H D cl dA base sa (jm_up S k (.inl (2, n, .inl (upd f i.toNatClampNeg (x &&& 1))))) H1 → va_S (fun q => base ≤ q) H0 H1 locs1 → W p l e R s m args below meth c H1 locs1 cells slots Q (F0 m (pc + 1) ls rest)) : W p l e R s m args below meth c H locs cells slots Q (F0 m pc ls (.int x :: .int i :: jm_v base sa (.ref k) :: rest)) := by
  show W p l e R s m args below meth c H locs cells slots Q (F0 m pc ls (.int x :: .int i :: .ref (jm_a base sa k) :: rest))
  rw [jm_a_lo hk hlim]
  have h1 := hH.2 k hk
  rw [he] at h1
  have h1' : H[base + k]? = some (vp_cell (dA 2) (n, .inl f)) := h1
  refine W.zast hx hb h1' ((hK.2 2 (dA 2, .boolean) rfl).1 n (fun j => .int (f j))) (fun q => by cases q) (by show ¬ (i < 0 ∨ (arrV _ _ _).slots.size ≤ _); rw [arrV_size]; exact hin) rfl rfl hdg fun H1 e z oq => ?_
  refine kk H1 _ (hH.up z oq ?_) (hS.put z oq (Nat.le_add_right _ _))
  show H1[base + k]? = some (vp_cell (dA 2) (n, .inl (upd f i.toNatClampNeg (x &&& 1))))
  rw [e, vp_cell_i, vp_cell_i, arrV_store]
  congr 2
  funext q
  by_cases hq : q = i.toNatClampNeg
  · subst hq
    simp [updV, upd, narrow]
  · simp [updV, upd, hq]
theorem jm_bast_ok (hx : p.tables.exec = Jvm.exec) (hb : c.code = cc) (hK : va_K D cl (jm_tys dA) s) (hH : jm_H D cl dA base sa S H) (hS : va_S (fun q => base ≤ q) H0 H locs) (hlim : S.1 ≤ jm_lim) (hk : k < S.1) {n : Nat} {f : Nat → Int32} (he : S.2 k = .inl (3, n, .inl f)) {i x : Int32} (hin : vp_in i n) (hdg : decode cc pc = .ok (.bastore, 1))
    (kk : ∀ (H1 : Heap) (locs1 : List Loc), jm_H D cl dA base sa (jm_up S k (.inl (3, n, .inl (upd f i.toNatClampNeg x.toInt8.toInt32)))) H1 → va_S (fun q => base ≤ q) H0 H1 locs1 → W p l e R s m args below meth c H1 locs1 cells slots Q (F0 m (pc + 1) ls rest)) : W p l e R s m args below meth c H locs cells slots Q (F0 m pc ls (.int x :: .int i :: jm_v base sa (.ref k) :: rest)) := by
  show W p l e R s m args below meth c H locs cells slots Q (F0 m pc ls (.int x :: .int i :: .ref (jm_a base sa k) :: rest))
  rw [jm_a_lo hk hlim]
  have h1 := hH.2 k hk
  rw [he] at h1
  have h1' : H[base + k]? = some (vp_cell (dA 3) (n, .inl f)) := h1
  refine W.bast hx hb h1' ((hK.2 3 (dA 3, .byte) rfl).1 n (fun j => .int (f j))) (fun q => by cases q) (by show ¬ (i < 0 ∨ (arrV _ _ _).slots.size ≤ _); rw [arrV_size]; exact hin) rfl rfl hdg fun H1 e z oq => ?_
  refine kk H1 _ (hH.up z oq ?_) (hS.put z oq (Nat.le_add_right _ _))
  show H1[base + k]? = some (vp_cell (dA 3) (n, .inl (upd f i.toNatClampNeg x.toInt8.toInt32)))
  rw [e, vp_cell_i, vp_cell_i, arrV_store]
  congr 2
  funext q
  by_cases hq : q = i.toNatClampNeg
  · subst hq
    simp [updV, upd, narrow]
  · simp [updV, upd, hq]
theorem jm_last_ok (hx : p.tables.exec = Jvm.exec) (hb : c.code = cc) (hK : va_K D cl (jm_tys dA) s) (hH : jm_H D cl dA base sa S H) (hS : va_S (fun q => base ≤ q) H0 H locs) (hlim : S.1 ≤ jm_lim) (hk : k < S.1) {n : Nat} {f : Nat → Int64} (he : S.2 k = .inl (1, n, .inr (.inl f))) {i : Int32} {x : Int64} (hin : vp_in i n) (hdg : decode cc pc = .ok (.lastore, 1))
    (kk : ∀ (H1 : Heap) (locs1 : List Loc), jm_H D cl dA base sa (jm_up S k (.inl (1, n, .inr (.inl (vp_updL f i.toNatClampNeg x))))) H1 → va_S (fun q => base ≤ q) H0 H1 locs1 → W p l e R s m args below meth c H1 locs1 cells slots Q (F0 m (pc + 1) ls rest)) : W p l e R s m args below meth c H locs cells slots Q (F0 m pc ls (.long x :: .int i :: jm_v base sa (.ref k) :: rest)) := by
  show W p l e R s m args below meth c H locs cells slots Q (F0 m pc ls (.long x :: .int i :: .ref (jm_a base sa k) :: rest))
  rw [jm_a_lo hk hlim]
  have h1 := hH.2 k hk
  rw [he] at h1
  have h1' : H[base + k]? = some (vp_cell (dA 1) (n, .inr (.inl f))) := h1
  refine W.last hx hb h1' ((hK.2 1 (dA 1, .long) rfl).1 n (fun j => .long (f j))) (fun q => by cases q) (by show ¬ (i < 0 ∨ (arrV _ _ _).slots.size ≤ _); rw [arrV_size]; exact hin) rfl rfl hdg fun H1 e z oq => ?_
  refine kk H1 _ (hH.up z oq ?_) (hS.put z oq (Nat.le_add_right _ _))
  show H1[base + k]? = some (vp_cell (dA 1) (n, .inr (.inl (vp_updL f i.toNatClampNeg x))))
  rw [e, vp_cell_l, vp_cell_l, arrV_store]
  congr 2
  funext q
  by_cases hq : q = i.toNatClampNeg
  · subst hq
    simp [updV, vp_updL]
  · simp [updV, vp_updL, hq]
end JM3
end
section
/-! THE PURE MACHINE, part 4: new cells, constants of the pool, arrays that nobody writes -/
theorem jm_v_dflt (base : Nat) (sa : Nat → Nat) (t : FieldType) : jm_v base sa (defaultValue t) = defaultValue t := by cases t <;> rfl
def jm_new (N : Nat) (ty : Nat → FieldType) : List Value := (List.range N).map fun j => defaultValue (ty j)
theorem jm_new_V (base : Nat) (sa : Nat → Nat) (N : Nat) (ty : Nat → FieldType) (j : Nat) (hj : j < N) : defaultValue (ty j) = vp_V ((jm_new N ty).map (jm_v base sa)) j := by
  simp [vp_V, jm_new, hj, jm_v_dflt]
/-- the number of an array's type -/
def jm_nt (a : ArrayType) : Option Nat := match a with
  | .int => some 0
  | .long => some 1
  | .boolean => some 2
  | .byte => some 3
  | _ => none
def jm_blank (t n : Nat) : jm_c := if t = 1 then .inl (1, n, .inr (.inl fun _ => 0)) else .inl (t, n, .inl fun _ => 0)
section JM4
variable {p : Program} {l : Launch} {e : Env} {R : Room} {s : State} {m : MethodId} {args : Array Value} {below : List Frame} {meth : Method} {c : Code} {H H0 : Heap} {locs : List Loc} {cells slots : Nat} {Q : State → Prop}
variable {cc : ByteArray} {pc base : Nat} {sa : Nat → Nat} {dA : Nat → ClassId} {D : va_G} {cl : List vw_C} {tys : List (ClassId × FieldType)} {ls : Array Slot} {rest : List Value} {S : jm_S} {k : Nat}
theorem jm_new_ok (hx : p.tables.exec = Jvm.exec) (hb : c.code = cc) {own C : String} {T : u_T} {N ci index : Nat} {Ts : List Cond} (hts : ∀ w ∈ Ts, w.before args s = true) (hin : ∀ w ∈ u_ws C T N, w ∈ Ts) (ty : Nat → FieldType) (hty : ∀ k, k < N → parseFieldDescriptor (T k).2.2.1 = some (ty k)) (hown : s.vm.findClass own = some m.cls)
    (hcl : Cond.classLink own index C ∈ Ts) (hinst : Cond.instantiable C N ∈ Ts) (hini : Cond.initialized C ∈ Ts) (hK : va_K D cl tys s) (hH : jm_H D cl dA base sa S H) (hS : va_S (fun q => base ≤ q) H0 H locs) (hlim : S.1 < jm_lim) (hc : cl[ci]? = some (C, T, N)) (hcells : cells + 1 ≤ R.cells) (hslots : slots + N ≤ R.slots) (hdg : decode cc pc = .ok (.new index, 3))
    (kk : ∀ H1 : Heap, jm_H D cl dA base sa (jm_add S (.inr (ci, jm_new N ty))) H1 → va_S (fun q => base ≤ q) H0 H1 locs → W p l e R s m args below meth c H1 locs (cells + 1) (slots + N) Q (F0 m (pc + 3) ls (jm_v base sa (.ref S.1) :: rest))) : W p l e R s m args below meth c H locs cells slots Q (F0 m pc ls rest) := by
  have hKn := hK.1 ci _ hc
  have ha : jm_v base sa (.ref S.1) = .ref (base + S.1) := congrArg Value.ref (if_pos hlim)
  refine W.newcK hx hb hown (hts _ hcl) (hts _ hinst) (hts _ hini) rfl hdg hcells hslots hKn.2.1 hH.1 fun H1 kC hkC e1 z1 o1 => ?_
  have hkk := kk H1 (hH.add z1 o1 ⟨_, hc, (u_born ty hts hin hKn hkC e1 hty).to (fun j hj => jm_new_V base sa N ty j hj)⟩)
    ⟨by rw [z1]; exact Nat.le_trans hS.1 (by rw [hH.1]; exact Nat.le_succ _), fun q h1 h2 => by
      have hq : q < base + S.1 := by have := hS.1; rw [hH.1] at this; omega
      rw [o1 q hq]; exact hS.2.1 q h1 h2, hS.2.2⟩
  rw [ha] at hkk
  exact hkk
theorem jm_newa_ok (hx : p.tables.exec = Jvm.exec) (hb : c.code = cc) {atype : ArrayType} {t : Nat} (ht : jm_nt atype = some t) {Ts : List Cond} (hts : ∀ w ∈ Ts, w.before args s = true) (harr : Cond.arrayClass (newarray.typeOf atype) ∈ Ts) (hK : va_K D cl (jm_tys dA) s) (hH : jm_H D cl dA base sa S H) (hS : va_S (fun q => base ≤ q) H0 H locs) (hlim : S.1 < jm_lim)
    {n : Int32} (hn : ¬ n < 0) (hbig : n.toNatClampNeg ≤ 1000000) (hcells : cells + 1 ≤ R.cells) (hslots : slots + n.toNatClampNeg ≤ R.slots) (hdg : decode cc pc = .ok (.newarray atype, 2))
    (kk : ∀ H1 : Heap, jm_H D cl dA base sa (jm_add S (jm_blank t n.toNatClampNeg)) H1 → va_S (fun q => base ≤ q) H0 H1 locs → W p l e R s m args below meth c H1 locs (cells + 1) (slots + n.toNatClampNeg) Q (F0 m (pc + 2) ls (jm_v base sa (.ref S.1) :: rest))) : W p l e R s m args below meth c H locs cells slots Q (F0 m pc ls (.int n :: rest)) := by
  have ha : jm_v base sa (.ref S.1) = .ref (base + S.1) := congrArg Value.ref (if_pos hlim)
  have hbytes : n.toNatClampNeg * componentBytes (newarray.typeOf atype) ≤ 536870912 := by
    have : componentBytes (newarray.typeOf atype) ≤ 8 := by cases atype <;> decide
    calc n.toNatClampNeg * componentBytes (newarray.typeOf atype) ≤ 1000000 * 8 := Nat.mul_le_mul hbig this
      _ ≤ 536870912 := by decide
  refine va_newaK hx hb (hts _ harr) rfl hdg rfl hn rfl hbytes hcells hslots hH.1 fun H1 cA e1 z1 o1 hAr hNm => ?_
  have hcell : H1[base + S.1]? = some (vp_cell (dA t) (match jm_blank t n.toNatClampNeg with
    | .inl (_, a) => a
    | .inr _ => (0, .inl fun _ => 0))) ∧ jm_E base sa dA (jm_blank t n.toNatClampNeg) = .inl (dA t, (match jm_blank t n.toNatClampNeg with
    | .inl (_, a) => a
    | .inr _ => (0, .inl fun _ => 0))) := by
    unfold jm_nt at ht
    split at ht
    · cases ht
      have hq : s.vm.findClass ("[" ++ (FieldType.int).toString) = some (dA 0) := (hK.2 0 (dA 0, .int) rfl).2
      have hc2 : cA = dA 0 := Option.some.inj (hNm.symm.trans hq)
      exact ⟨by rw [e1, hc2]; rfl, rfl⟩
    · cases ht
      have hq : s.vm.findClass ("[" ++ (FieldType.long).toString) = some (dA 1) := (hK.2 1 (dA 1, .long) rfl).2
      have hc2 : cA = dA 1 := Option.some.inj (hNm.symm.trans hq)
      exact ⟨by rw [e1, hc2]; rfl, rfl⟩
    · cases ht
      have hq : s.vm.findClass ("[" ++ (FieldType.boolean).toString) = some (dA 2) := (hK.2 2 (dA 2, .boolean) rfl).2
      have hc2 : cA = dA 2 := Option.some.inj (hNm.symm.trans hq)
      exact ⟨by rw [e1, hc2]; rfl, rfl⟩
    · cases ht
      have hq : s.vm.findClass ("[" ++ (FieldType.byte).toString) = some (dA 3) := (hK.2 3 (dA 3, .byte) rfl).2
      have hc2 : cA = dA 3 := Option.some.inj (hNm.symm.trans hq)
      exact ⟨by rw [e1, hc2]; rfl, rfl⟩
    · cases ht
  have hkk := kk H1 (hH.add z1 o1 (by rw [hcell.2]; exact hcell.1))
    ⟨by rw [z1]; exact Nat.le_trans hS.1 (by rw [hH.1]; exact Nat.le_succ _), fun q h1 h2 => by
      have hq : q < base + S.1 := by have := hS.1; rw [hH.1] at this; omega
      rw [o1 q hq]; exact hS.2.1 q h1 h2, hS.2.2⟩
  rw [ha] at hkk
  exact hkk
end JM4
end
section
/-! THE PURE MACHINE, part 5: a step (jp_ names: the program's own tables) -/
/-- the law's script: its length, its ints -/
abbrev jm_X : Type := Nat × (Nat → Int32)
abbrev jm_N : Type := Nat × jm_L × List Value × jm_S × Nat × Nat
/-- arrays that nobody writes: the script, and the class's two tables -/
def jm_sa (X : jm_X) (a : Nat) : Option (Nat × Nat × (Nat → Value)) :=
  bif Nat.beq a 1000000 then some (0, X.1, fun j => .int (X.2 j))
  else bif Nat.beq a 1000001 then some (1, jp_KEYS.length, fun j => .long (jp_KEYS.getD j 0))
  else bif Nat.beq a 1000002 then some (0, jp_STR.length, fun j => .int (jp_STR.getD j 0))
  else none
/-- a static field that holds a reference or null, unwritten -/
def jm_sf (C n d : String) (A : Nat → Prop) (U : State) (H : Heap) : Prop := ∃ (c : ClassId) (k : Class) (i : Nat) (f : Field) (a : Nat) (cell : Cell) (v : Value), U.vm.findClass C = some c ∧ U.fieldFound? C n d = some (c, k, i, f) ∧ f.isStatic = true ∧ k.statics = some a ∧ H[a]? = some cell ∧ cell.vm.isStatics = true ∧ cell.cls = c ∧ f.slot < cell.slots.size ∧ k.staticTypes[f.slot]? = some f.type ∧ cell.slots[f.slot]? = some v ∧ (v = .null ∨ ∃ t, v = .ref t) ∧ ¬ A a
theorem jm_sf.go {C n d : String} {A : Nat → Prop} {s U : State} {H H1 : Heap} (h : jm_sf C n d A s H) (hvm : s.vm.Alike U.vm) (hq : ∀ a : Nat, a < H.size → ¬ A a → H1[a]? = H[a]?) : jm_sf C n d A U H1 := by
  obtain ⟨c, k, i, f, a, cell, v, h1, h2, h3, h4, h5, h6, h7, h8, h9, h10, h11, h12⟩ := h
  obtain ⟨k', hi', he⟩ := State.fieldFound?_setVm hvm h2
  exact ⟨c, k', i, f, a, cell, v, by rw [hvm.findClass]; exact h1, hi', h3, by rw [he]; exact h4, by rw [hq a (Array.getElem?_eq_some_iff.mp h5).1 h12]; exact h5, h6, h7, h8, by rw [he]; exact h9, h10, h11, h12⟩
theorem jm_sf.lays {C n d : String} {A : Nat → Prop} {U : State} (h : jm_sf C n d A U U.heap) (args : Array Value) : (Cond.laysStatic C n d).before args U = true := by
  obtain ⟨c, k, i, f, a, cell, v, h1, h2, h3, h4, h5, h6, h7, h8, h9, h10, h11, h12⟩ := h
  simp [Cond.before, Cond.holds, Cond.value, h1, h2, h3, h4, h5, h6, h7, h8, h9]
theorem jm_sf.isRef {C n d : String} {A : Nat → Prop} {U : State} (h : jm_sf C n d A U U.heap) (args : Array Value) : (Cond.isRef (.static C n d)).before args U = true := by
  obtain ⟨c, k, i, f, a, cell, v, h1, h2, h3, h4, h5, h6, h7, h8, h9, h10, h11, h12⟩ := h
  have e1 : (Term.static C n d).eval args U none [] U = some v := by
    simp [Term.eval, State.fieldNamed?, h2, h3, h4, h5, h6, h10]
  simp only [Cond.before, Cond.holds, Cond.value, e1]
  rcases h11 with rfl | ⟨t, rfl⟩ <;> rfl
/-- the links that stay by laws of their own; the class's String constants -/
def jnc : List (String × String) := [("java/lang/IllegalArgumentException", "java/lang/IllegalStateException"), ("java/lang/IllegalArgumentException", "java/lang/IndexOutOfBoundsException"), ("java/lang/IllegalStateException", "java/lang/IllegalArgumentException"), ("java/lang/IllegalStateException", "java/lang/IndexOutOfBoundsException"), ("java/lang/IndexOutOfBoundsException", "java/lang/IllegalArgumentException"), ("java/lang/IndexOutOfBoundsException", "java/lang/IllegalStateException")]
def jm_nst (U : State) : Prop := (∀ w ∈ jn, va_Nw w U) ∧ (∀ x ∈ jstr, ∃ q, vk_R "WhilePress" x.1 x.2 q U) ∧ (∀ x ∈ jnc, va_Nc x.1 x.2 U)
theorem jm_nst.go {s U : State} (h : jm_nst s) (hW : s.WarmedH U.vm) : jm_nst U := ⟨jn_warm hW h.1, fun x hx => by
  obtain ⟨q, hq⟩ := h.2.1 x hx
  exact ⟨q, hq.warm hW⟩, fun x hx => (h.2.2 x hx).moved hW.alike⟩
theorem jm_nst.same {u U : State} (h : jm_nst u) (hv : U.vm = u.vm) : jm_nst U := ⟨fun w hw => va_Nw.same (jn_on w hw) hv.symm (h.1 w hw), fun x hx => by
  obtain ⟨q, hq⟩ := h.2.1 x hx
  exact ⟨q, hq.same hv⟩, fun x hx => (h.2.2 x hx).moved (by rw [hv]; exact Vm.Alike.refl _)⟩
def jm_sta (A : Nat → Prop) (sa : Nat → Nat) (X : jm_X) (U : State) : Prop :=
  va_Z "WhilePress" "KEYS" "[J" (.ref (sa 1000001)) A U U.heap ∧ va_Z "WhilePress" "STRENGTH" "[I" (.ref (sa 1000002)) A U U.heap ∧ va_T .int (sa 1000000) X.1 (fun j => .int (X.2 j)) A U U.heap ∧ va_T .long (sa 1000001) jp_KEYS.length (fun j => .long (jp_KEYS.getD j 0)) A U U.heap ∧ va_T .int (sa 1000002) jp_STR.length (fun j => .int (jp_STR.getD j 0)) A U U.heap ∧ jm_sf Bundle.tN "UNASSIGNED_STACK" Bundle.steD A U U.heap ∧ jm_sf Bundle.tN "SUPPRESSED_SENTINEL" Bundle.listD A U U.heap
/-- an element's place is in range -/
def jm_in (i : Int32) (n : Nat) : Bool := decide (¬ (i < 0 ∨ n ≤ i.toNatClampNeg))
theorem jm_in_ok {i : Int32} {n : Nat} (h : jm_in i n = true) : vp_in i n := by
  have h1 : ¬ (i < 0 ∨ n ≤ i.toNatClampNeg) := of_decide_eq_true h
  exact h1
/-- an element of an array that lies in the store -/
def jm_rd (i : Instr) (j : Int32) (x : jm_c) : Option Value := match i, x with
  | .iaload, .inl (0, n, .inl f) => if jm_in j n = true then some (.int (f j.toNatClampNeg)) else none
  | .baload, .inl (2, n, .inl f) => if jm_in j n = true then some (.int (f j.toNatClampNeg)) else none
  | .baload, .inl (3, n, .inl f) => if jm_in j n = true then some (.int (f j.toNatClampNeg)) else none
  | .laload, .inl (1, n, .inr (.inl f)) => if jm_in j n = true then some (.long (f j.toNatClampNeg)) else none
  | _, _ => none
def jm_rs (i : Instr) (j : Int32) (x : Nat × Nat × (Nat → Value)) : Option Value := match i, x with
  | .iaload, (0, n, f) => if jm_in j n = true then some (f j.toNatClampNeg) else none
  | .laload, (1, n, f) => if jm_in j n = true then some (f j.toNatClampNeg) else none
  | _, _ => none
def jm_wr (i : Instr) (v : Value) (j : Int32) (x : jm_c) : Option jm_c := match i, v, x with
  | .iastore, .int z, .inl (0, n, .inl f) => if jm_in j n = true then some (.inl (0, n, .inl (upd f j.toNatClampNeg z))) else none
  | .bastore, .int z, .inl (2, n, .inl f) => if jm_in j n = true then some (.inl (2, n, .inl (upd f j.toNatClampNeg (z &&& 1)))) else none
  | .bastore, .int z, .inl (3, n, .inl f) => if jm_in j n = true then some (.inl (3, n, .inl (upd f j.toNatClampNeg z.toInt8.toInt32))) else none
  | .lastore, .long z, .inl (1, n, .inr (.inl f)) => if jm_in j n = true then some (.inl (1, n, .inr (.inl (vp_updL f j.toNatClampNeg z)))) else none
  | _, _, _ => none
def jm_ln (x : jm_c) : Option Int32 := match x with
  | .inl (t, n, _) => if t < 4 then some (Int32.ofNat n) else none
  | .inr _ => none
/-- instructions on cells: the stack, the store, the cells and the slots that came -/
def jm_cell (X : jm_X) (M : jm_M) (i : Instr) (len : Nat) (st : List Value) (S : jm_S) : Option (List Value × jm_S × Nat × Nat) := match i, len, st with
  | .getfield idx, 3, .ref a :: r => (match jp_F (jm_q M) idx with
    | some f => if a < S.1 then (match S.2 a with
      | .inr o => if o.1 = f.1 then (match o.2[f.2.1]? with
        | some v => some (v :: r, S, 0, 0)
        | none => none) else none
      | .inl _ => none) else none
    | none => none)
  | .putfield idx, 3, v :: .ref a :: r => (match jp_F (jm_q M) idx with
    | some f => if a < S.1 ∧ (f.2.2 = 0 ∨ (M.2.2.2.2.2.2 = 1 ∧ jm_q M = f.1)) ∧ jm_fit (jp_ty f.1 f.2.1) v = true then (match S.2 a with
      | .inr o => if o.1 = f.1 ∧ f.2.1 < o.2.length then some (r, jm_up S a (.inr (o.1, o.2.set f.2.1 v)), 0, 0) else none
      | .inl _ => none) else none
    | none => none)
  | .getstatic idx, 3, r => (match jp_S (jm_q M) idx with
    | some a => some (.ref a :: r, S, 0, 0)
    | none => none)
  | .arraylength, 1, .ref a :: r => if a < S.1 then (match jm_ln (S.2 a) with
    | some z => some (.int z :: r, S, 0, 0)
    | none => none) else (match jm_sa X a with
    | some x => some (.int (Int32.ofNat x.2.1) :: r, S, 0, 0)
    | none => none)
  | .new idx, 3, r => (match jp_W (jm_q M) idx with
    | some ci => if S.1 < jm_lim then some (.ref S.1 :: r, jm_add S (.inr (ci, jm_new (jp_N ci) (jp_ty ci))), 1, jp_N ci) else none
    | none => none)
  | .newarray a, 2, .int n :: r => (match jm_nt a with
    | some t => if S.1 < jm_lim ∧ ¬ n < 0 ∧ n.toNatClampNeg ≤ 1000000 then some (.ref S.1 :: r, jm_add S (jm_blank t n.toNatClampNeg), 1, n.toNatClampNeg) else none
    | none => none)
  | i, 1, .int j :: .ref a :: r => if a < S.1 then (match jm_rd i j (S.2 a) with
    | some v => some (v :: r, S, 0, 0)
    | none => none) else (match jm_sa X a with
    | some x => (match jm_rs i j x with
      | some v => some (v :: r, S, 0, 0)
      | none => none)
    | none => none)
  | i, 1, v :: .int j :: .ref a :: r => if a < S.1 then (match jm_wr i v j (S.2 a) with
    | some x => some (r, jm_up S a x, 0, 0)
    | none => none) else none
  | _, _, _ => none
/-- what is left of the simple ones -/
def jm_mis (M : jm_M) (i : Instr) (len pc : Nat) (lv : jm_L) (st : List Value) : Option (Nat × jm_L × List Value) := match i, len with
  | .iinc n z, 3 => (match jm_get lv n with
    | some (.int x) => if n < M.2.2.1 then some (pc + 3, jm_set1 lv n (.int (x + Int32.ofInt z)), st) else none
    | _ => none)
  | .ldc idx, 2 => (match jp_K (jm_q M) idx with
    | some (.int x) => some (pc + 2, lv, .int x :: st)
    | _ => none)
  | .ldc_w idx, 3 => (match jp_K (jm_q M) idx with
    | some (.int x) => some (pc + 3, lv, .int x :: st)
    | _ => none)
  | .ldc2_w idx, 3 => (match jp_K (jm_q M) idx with
    | some (.long x) => some (pc + 3, lv, .long x :: st)
    | _ => none)
  | i, 1 => (match jm_al i st with
    | some st' => some (pc + 1, lv, st')
    | none => match jm_sk i st with
      | some st' => some (pc + 1, lv, st')
      | none => none)
  | _, _ => none
def jm_step (X : jm_X) (M : jm_M) (i : Instr) (len pc : Nat) (lv : jm_L) (st : List Value) (S : jm_S) : Option jm_N :=
  match jm_k i len with
  | some v => some (pc + len, lv, v :: st, S, 0, 0)
  | none => match jm_ld i len with
  | some q => (match jm_get lv q.1 with
    | some v => if jm_isk q.2 v = true then some (pc + len, lv, v :: st, S, 0, 0) else none
    | none => none)
  | none => match jm_sr i len with
  | some q => (match st with
    | v :: r => if jm_isk q.2 v = true ∧ q.1 + v.category ≤ M.2.2.1 then some (pc + len, if q.2 = 1 then jm_set2 lv q.1 v else jm_set1 lv q.1 v, r, S, 0, 0) else none
    | [] => none)
  | none => match jm_br i len pc st with
  | some q => some (q.1, lv, q.2, S, 0, 0)
  | none => match jm_cell X M i len st S with
  | some q => some (pc + len, lv, q.1, q.2.1, q.2.2.1, q.2.2.2)
  | none => match jm_mis M i len pc lv st with
  | some q => some (q.1, q.2.1, q.2.2, S, 0, 0)
  | none => none
/-- where a method's walk stands: the machine, its code, the tables' words, classes, arrays that nobody writes -/
def jm_ctx (p : Program) (s : State) (m : MethodId) (args : Array Value) (meth : Method) (c : Code) (D : va_G) (dA : Nat → ClassId) (base : Nat) (sa : Nat → Nat) (X : jm_X) (M : jm_M) : Prop :=
  p.tables.exec = Jvm.exec ∧ c.code = M.2.1 ∧ c.maxLocals = M.2.2.1 ∧ s.vm.findClass (jp_O (jm_q M)) = some m.cls ∧ (∀ w ∈ jw, w.before args s = true) ∧ jm_nst s ∧ va_K D jCl (jm_tys dA) s ∧ jm_sta (fun q => base ≤ q) sa X s ∧ (M.2.2.2.2.2.2 = 1 → meth.name = "<init>") ∧ meth.locks = false
theorem jm_sa_ok {X : jm_X} {a : Nat} {x : Nat × Nat × (Nat → Value)} (h : jm_sa X a = some x) : (a = 1000000 ∧ x = (0, X.1, fun j => .int (X.2 j))) ∨ (a = 1000001 ∧ x = (1, jp_KEYS.length, fun j => .long (jp_KEYS.getD j 0))) ∨ (a = 1000002 ∧ x = (0, jp_STR.length, fun j => .int (jp_STR.getD j 0))) := by
  unfold jm_sa at h
  cases h0 : Nat.beq a 1000000
  case true =>
    rw [h0] at h
    cases h
    exact Or.inl ⟨Nat.eq_of_beq_eq_true h0, rfl⟩
  case false =>
    rw [h0] at h
    cases h1 : Nat.beq a 1000001
    case true =>
      rw [h1] at h
      cases h
      exact Or.inr (Or.inl ⟨Nat.eq_of_beq_eq_true h1, rfl⟩)
    case false =>
      rw [h1] at h
      cases h2 : Nat.beq a 1000002
      case true =>
        rw [h2] at h
        cases h
        exact Or.inr (Or.inr ⟨Nat.eq_of_beq_eq_true h2, rfl⟩)
      case false =>
        rw [h2] at h
        cases h
end
section
/-! THE PURE MACHINE, part 6: a step, over the machine itself -/
theorem jm_bne {a b : Nat} (h : a ≠ b) : Nat.beq a b = false := by
  cases hb : Nat.beq a b
  · rfl
  · exact absurd (Nat.eq_of_beq_eq_true hb) h
theorem jm_map_r (base : Nat) (sa : Nat → Nat) (a : Nat) (r : List Value) : (Value.ref a :: r).map (jm_v base sa) = .ref (jm_a base sa a) :: r.map (jm_v base sa) := rfl
theorem jm_map_ir (base : Nat) (sa : Nat → Nat) (j : Int32) (a : Nat) (r : List Value) : (Value.int j :: Value.ref a :: r).map (jm_v base sa) = .int j :: .ref (jm_a base sa a) :: r.map (jm_v base sa) := rfl
section JM6
variable {p : Program} {l : Launch} {e : Env} {R : Room} {s : State} {m : MethodId} {args : Array Value} {below : List Frame} {meth : Method} {c : Code} {H : Heap} {locs : List Loc} {cells slots : Nat} {Q : State → Prop}
variable {D : va_G} {dA : Nat → ClassId} {base pc len pc' : Nat} {sa : Nat → Nat} {X : jm_X} {M : jm_M} {i : Instr} {lv lv' : jm_L} {st st' : List Value} {S S' : jm_S} {ls : Array Slot}
theorem jm_mis_ok (C : jm_ctx p s m args meth c D dA base sa X M) (hd : decode M.2.1 pc = .ok (i, len)) (h : jm_mis M i len pc lv st = some (pc', lv', st')) (hl : lv_has ls M.2.2.1 (jm_lv base sa lv))
    (kk : ∀ ls1 : Array Slot, lv_has ls1 M.2.2.1 (jm_lv base sa lv') → W p l e R s m args below meth c H locs cells slots Q (F0 m pc' ls1 (st'.map (jm_v base sa)))) : W p l e R s m args below meth c H locs cells slots Q (F0 m pc ls (st.map (jm_v base sa))) := by
  obtain ⟨hx, hb, hml, hown, hts, hnn, hK, hst, hini, hlk⟩ := C
  unfold jm_mis at h
  split at h
  · split at h
    · rename_i hg
      split at h
      · rename_i hn; cases h; exact jm_inc_ok hx hb hd hl hg hn kk
      · cases h
    · cases h
  · split at h
    · rename_i hk; have hw := jp_K_ok _ _ _ hk; cases h; exact lv_ldc hx hb hown (hts _ hw) hd (kk ls hl)
    · cases h
  · split at h
    · rename_i hk; have hw := jp_K_ok _ _ _ hk; cases h; exact lv_ldcw hx hb hown (hts _ hw) hd (kk ls hl)
    · cases h
  · split at h
    · rename_i hk; have hw := jp_K_ok _ _ _ hk; cases h; exact lv_ldc2 hx hb hown (hts _ hw) hd (kk ls hl)
    · cases h
  · split at h
    · rename_i hk; cases h; exact jm_al_ok hx hb hd hk (kk ls hl)
    · split at h
      · rename_i hk; cases h; exact jm_sk_ok hx hb hd hk (kk ls hl)
      · cases h
  · cases h
theorem jm_cell_ok {k n : Nat} (C : jm_ctx p s m args meth c D dA base sa X M) (hd : decode M.2.1 pc = .ok (i, len)) (h : jm_cell X M i len st S = some (st', S', k, n)) (hH : jm_H D jCl dA base sa S H) (hS : va_S (fun q => base ≤ q) s.heap H locs) (hlim : S.1 ≤ jm_lim) (hc : cells + k ≤ R.cells) (hsl : slots + n ≤ R.slots)
    (kk : ∀ (H1 : Heap) (locs1 : List Loc), jm_H D jCl dA base sa S' H1 → va_S (fun q => base ≤ q) s.heap H1 locs1 → S'.1 ≤ jm_lim → W p l e R s m args below meth c H1 locs1 (cells + k) (slots + n) Q (F0 m (pc + len) ls (st'.map (jm_v base sa)))) : W p l e R s m args below meth c H locs cells slots Q (F0 m pc ls (st.map (jm_v base sa))) := by
  obtain ⟨hx, hb, hml, hown, hts, hnn, hK, hst, hini, hlk⟩ := C
  have hA : ∀ a x, jm_sa X a = some x → jm_a base sa a = sa a := by
    intro a x hq
    unfold jm_a
    rw [if_neg]
    intro hlt
    have hlt' : a < 1000000 := hlt
    unfold jm_sa at hq
    rw [show Nat.beq a 1000000 = false from jm_bne (by omega), show Nat.beq a 1000001 = false from jm_bne (by omega), show Nat.beq a 1000002 = false from jm_bne (by omega)] at hq
    cases hq
  unfold jm_cell at h
  split at h
  · -- getfield
    split at h
    · rename_i f hf
      obtain ⟨hci, hj, hlink, -, hdc⟩ := jp_F_ok _ _ _ hf
      obtain ⟨hcl, hin, hnm, hty⟩ := jp_cl _ (Nat.lt_of_lt_of_le hci (by decide))
      split at h
      · rename_i ha
        split at h
        · rename_i o ho
          split at h
          · rename_i ho1
            split at h
            · rename_i v hv
              cases h
              refine jm_getf_ok (host := "") hx hb hts hin hown hK hH hlim ha (show S.2 _ = .inr (f.1, o.2) by rw [ho, ← ho1]) hcl _ hj (Or.inl hlink) hv hd ?_
              exact kk H locs hH hS hlim
            · cases h
          · cases h
        · cases h
      · cases h
    · cases h
  · -- putfield
    split at h
    · rename_i f hf
      obtain ⟨hci, hj, hlink, hfin, hdc⟩ := jp_F_ok _ _ _ hf
      obtain ⟨hcl, hin, hnm, hty⟩ := jp_cl _ (Nat.lt_of_lt_of_le hci (by decide))
      split at h
      · rename_i ha
        split at h
        · rename_i o ho
          split at h
          · rename_i ho1
            cases h
            refine jm_putf_ok (host := "") hx hb hts hin _ hty hnm hown hK hH hS hlim ha.1 (show S.2 _ = .inr (f.1, o.2) by rw [ho, ← ho1.1]) hcl _ hj (Or.inl ⟨hlink, fun hf1 => ?_⟩) ha.2.2 ho1.2 hd ?_
            · rcases ha.2.1 with h0 | h0
              · rw [hfin h0] at hf1; cases hf1
              · refine ⟨hini h0.1, ?_⟩
                rw [hdc, h0.2]
                exact jp_OC _ hci
            · intro H1 locs1 h1 h2
              refine kk H1 locs1 ?_ h2 hlim
              rw [ho1.1]
              exact h1
          · cases h
        · cases h
      · cases h
    · cases h
  · -- getstatic
    split at h
    · rename_i a ha
      cases h
      obtain ⟨hz1, hz2, ht0, ht1, ht2, -⟩ := hst
      rcases jp_S_ok _ _ _ ha with ⟨rfl, hw⟩ | ⟨rfl, hw⟩
      · exact va_getsN hx hb hz1 hS hown (va_Nw.use rfl (hnn.1 _ hw)) (fun _ h9 => h9) hd (kk H locs hH hS hlim)
      · exact va_getsN hx hb hz2 hS hown (va_Nw.use rfl (hnn.1 _ hw)) (fun _ h9 => h9) hd (kk H locs hH hS hlim)
    · cases h
  · -- arraylength
    split at h
    · rename_i ha
      split at h
      · rename_i z hz
        cases h
        unfold jm_ln at hz
        split at hz
        · rename_i t n x hq
          split at hz
          · rename_i ht
            cases hz
            exact jm_alen_ok hx hb hK hH hlim ha ht hq hd (kk H locs hH hS hlim)
          · cases hz
        · cases hz
      · cases h
    · split at h
      · rename_i x hq
        cases h
        have e1 := hA _ _ hq
        obtain ⟨hz1, hz2, ht0, ht1, ht2, -⟩ := hst
        rw [jm_map_r, e1]
        rcases jm_sa_ok hq with ⟨rfl, rfl⟩ | ⟨rfl, rfl⟩ | ⟨rfl, rfl⟩
        · exact va_tlen hx hb ht0 hS rfl hd (kk H locs hH hS hlim)
        · exact va_tlen hx hb ht1 hS rfl hd (kk H locs hH hS hlim)
        · exact va_tlen hx hb ht2 hS rfl hd (kk H locs hH hS hlim)
      · cases h
  · -- new
    split at h
    · rename_i ci hw
      obtain ⟨hci, h1, h2, h3⟩ := jp_W_ok _ _ _ hw
      obtain ⟨hcl, hin, hnm, hty⟩ := jp_cl _ (Nat.lt_of_lt_of_le hci (by decide))
      split at h
      · rename_i hl1
        cases h
        exact jm_new_ok hx hb hts hin _ hty hown h1 h2 h3 hK hH hS hl1 hcl hc hsl hd (fun H1 q1 q2 => kk H1 locs q1 q2 hl1)
      · cases h
    · cases h
  · -- newarray
    split at h
    · rename_i t ht
      split at h
      · rename_i hq
        cases h
        refine jm_newa_ok hx hb ht hts ?_ hK hH hS hq.1 hq.2.1 hq.2.2 hc hsl hd (fun H1 q1 q2 => kk H1 locs q1 q2 hq.1)
        unfold jm_nt at ht
        split at ht
        · exact jp_arr.1
        · exact jp_arr.2.1
        · exact jp_arr.2.2.1
        · exact jp_arr.2.2.2
        · cases ht
      · cases h
    · cases h
  · -- an element is read
    split at h
    · rename_i ha
      split at h
      · rename_i v hv
        cases h
        unfold jm_rd at hv
        split at hv
        · rename_i hq
          split at hv
          · rename_i hi; cases hv; exact jm_iald_ok hx hb hK hH hlim ha hq (jm_in_ok hi) hd (kk H locs hH hS hlim)
          · cases hv
        · rename_i hq
          split at hv
          · rename_i hi; cases hv; exact jm_zald_ok hx hb hK hH hlim ha hq (jm_in_ok hi) hd (kk H locs hH hS hlim)
          · cases hv
        · rename_i hq
          split at hv
          · rename_i hi; cases hv; exact jm_bald_ok hx hb hK hH hlim ha hq (jm_in_ok hi) hd (kk H locs hH hS hlim)
          · cases hv
        · rename_i hq
          split at hv
          · rename_i hi; cases hv; exact jm_lald_ok hx hb hK hH hlim ha hq (jm_in_ok hi) hd (kk H locs hH hS hlim)
          · cases hv
        · cases hv
      · cases h
    · split at h
      · rename_i x hq
        have e1 := hA _ _ hq
        split at h
        · rename_i v hv
          cases h
          obtain ⟨hz1, hz2, ht0, ht1, ht2, -⟩ := hst
          rw [jm_map_ir, e1]
          rcases jm_sa_ok hq with ⟨rfl, rfl⟩ | ⟨rfl, rfl⟩ | ⟨rfl, rfl⟩
          · unfold jm_rs at hv
            split at hv
            · rename_i hz
              cases hz
              split at hv
              · rename_i hi; cases hv; exact va_ti hx hb ht0 hS (jm_in_ok hi) rfl hd (kk H locs hH hS hlim)
              · cases hv
            · rename_i hz; cases hz
            · cases hv
          · unfold jm_rs at hv
            split at hv
            · rename_i hz; cases hz
            · rename_i hz
              cases hz
              split at hv
              · rename_i hi; cases hv; exact va_tl hx hb ht1 hS (jm_in_ok hi) rfl hd (kk H locs hH hS hlim)
              · cases hv
            · cases hv
          · unfold jm_rs at hv
            split at hv
            · rename_i hz
              cases hz
              split at hv
              · rename_i hi; cases hv; exact va_ti hx hb ht2 hS (jm_in_ok hi) rfl hd (kk H locs hH hS hlim)
              · cases hv
            · rename_i hz; cases hz
            · cases hv
        · cases h
      · cases h
  · -- an element is written
    split at h
    · rename_i ha
      split at h
      · rename_i x hv
        cases h
        unfold jm_wr at hv
        split at hv
        · rename_i hq
          split at hv
          · rename_i hi; cases hv; exact jm_iast_ok hx hb hK hH hS hlim ha (by assumption) (jm_in_ok hi) hd (fun H1 l1 q1 q2 => kk H1 l1 q1 q2 hlim)
          · cases hv
        · rename_i hq
          split at hv
          · rename_i hi; cases hv; exact jm_zast_ok hx hb hK hH hS hlim ha (by assumption) (jm_in_ok hi) hd (fun H1 l1 q1 q2 => kk H1 l1 q1 q2 hlim)
          · cases hv
        · rename_i hq
          split at hv
          · rename_i hi; cases hv; exact jm_bast_ok hx hb hK hH hS hlim ha (by assumption) (jm_in_ok hi) hd (fun H1 l1 q1 q2 => kk H1 l1 q1 q2 hlim)
          · cases hv
        · rename_i hq
          split at hv
          · rename_i hi; cases hv; exact jm_last_ok hx hb hK hH hS hlim ha (by assumption) (jm_in_ok hi) hd (fun H1 l1 q1 q2 => kk H1 l1 q1 q2 hlim)
          · cases hv
        · cases hv
      · cases h
    · cases h
  · cases h
theorem jm_step_ok {k n : Nat} (C : jm_ctx p s m args meth c D dA base sa X M) (hd : decode M.2.1 pc = .ok (i, len)) (h : jm_step X M i len pc lv st S = some (pc', lv', st', S', k, n)) (hH : jm_H D jCl dA base sa S H) (hS : va_S (fun q => base ≤ q) s.heap H locs) (hl : lv_has ls M.2.2.1 (jm_lv base sa lv)) (hlim : S.1 ≤ jm_lim) (hc : cells + k ≤ R.cells) (hsl : slots + n ≤ R.slots)
    (kk : ∀ (H1 : Heap) (locs1 : List Loc) (ls1 : Array Slot), jm_H D jCl dA base sa S' H1 → va_S (fun q => base ≤ q) s.heap H1 locs1 → lv_has ls1 M.2.2.1 (jm_lv base sa lv') → S'.1 ≤ jm_lim → W p l e R s m args below meth c H1 locs1 (cells + k) (slots + n) Q (F0 m pc' ls1 (st'.map (jm_v base sa)))) : W p l e R s m args below meth c H locs cells slots Q (F0 m pc ls (st.map (jm_v base sa))) := by
  have hx := C.1
  have hb := C.2.1
  unfold jm_step at h
  split at h
  · rename_i v hv; cases h; exact jm_k_ok (base := base) (sa := sa) hx hb hd hv (kk H locs ls hH hS hl hlim)
  · split at h
    · rename_i q hq
      split at h
      · rename_i v hv
        split at h
        · rename_i hk; cases h; exact jm_ld_ok hx hb hd hq hl hv hk (kk H locs ls hH hS hl hlim)
        · cases h
      · cases h
    · split at h
      · rename_i q hq
        split at h
        · rename_i v r
          split at h
          · rename_i hk
            cases h
            refine jm_sr_ok hx hb hd hq hl hk.1 ?_ (fun ls' h' => kk H locs ls' hH hS h' hlim)
            rcases lv_cat v with h1 | h1
            · exact Or.inr ⟨by have := hk.2; omega, h1⟩
            · exact Or.inl (by have := hk.2; omega)
          · cases h
        · cases h
      · split at h
        · rename_i q hq; cases h; exact jm_br_ok hx hb hd hq (kk H locs ls hH hS hl hlim)
        · split at h
          · rename_i q hq
            cases h
            exact jm_cell_ok C hd hq hH hS hlim hc hsl (fun H1 l1 q1 q2 q3 => kk H1 l1 ls q1 q2 hl q3)
          · split at h
            · rename_i q hq; cases h; exact jm_mis_ok C hd hq hl (fun ls1 h1 => kk H locs ls1 hH hS h1 hlim)
            · cases h
end JM6
end
section
/-! THE PURE MACHINE, part 7: a run -/
/-- how a method ends: 0 it returned (what), or 1 + the number of an exception's class; the store; cells and slots that came -/
abbrev jm_O : Type := Nat × Option Value × jm_S × Nat × Nat
def jm_ret (i : Instr) (len : Nat) (r : Option FieldType) (st : List Value) : Option (Option Value) := match i, len, r, st with
  | .ireturn, 1, some .int, [.int x] => some (some (.int x))
  | .ireturn, 1, some .boolean, [.int x] => if x = 0 ∨ x = 1 then some (some (.int x)) else none
  | .lreturn, 1, some .long, [.long x] => some (some (.long x))
  | .return_, 1, none, [] => some none
  | _, _, _, _ => none
theorem jm_ret_st {i : Instr} {len : Nat} {r : Option FieldType} {st : List Value} {v : Option Value} (h : jm_ret i len r st = some v) : st = v.toList := by
  unfold jm_ret at h
  split at h
  · cases h; rfl
  · split at h
    · cases h; rfl
    · cases h
  · cases h; rfl
  · cases h; rfl
  · cases h
/-- a call: the method, the form of the call, the arguments (this among them), what is left on the stack -/
def jm_inv (M : jm_M) (i : Instr) (len : Nat) (st : List Value) (S : jm_S) : Option (jm_M × Nat × List Value × List Value) := match i, len with
  | .invokevirtual idx, 3 => (match jp_M (jm_q M) idx with
    | some (N, 0) => (match st.drop (jm_n N) with
      | .ref a :: r => if a < S.1 ∧ jm_q N < jp_nobj ∧ (r.map fun v => v.category).sum ≤ 8 ∧ (lg_sl (.ref a :: (st.take (jm_n N)).reverse)).length ≤ N.2.2.1 then (match S.2 a with
        | .inr o => if o.1 = jm_q N then some (N, 0, .ref a :: (st.take (jm_n N)).reverse, r) else none
        | .inl _ => none) else none
      | _ => none)
    | _ => none)
  | .invokestatic idx, 3 => (match jp_M (jm_q M) idx with
    | some (N, k) => if (k = 1 ∨ k = 3) ∧ jm_n N ≤ st.length ∧ ((st.drop (jm_n N)).map fun v => v.category).sum ≤ 8 ∧ (lg_sl (st.take (jm_n N)).reverse).length ≤ N.2.2.1 then some (N, k, (st.take (jm_n N)).reverse, st.drop (jm_n N)) else none
    | none => none)
  | .invokespecial idx, 3 => (match jp_M (jm_q M) idx with
    | some (N, k) => (match st.drop (jm_n N) with
      | .ref a :: r => if (k = 2 ∨ k = 4) ∧ (r.map fun v => v.category).sum ≤ 8 ∧ (lg_sl (.ref a :: (st.take (jm_n N)).reverse)).length ≤ N.2.2.1 then some (N, k, .ref a :: (st.take (jm_n N)).reverse, r) else none
      | _ => none)
    | none => none)
  | _, _ => none
/-- Object.<init>, Math.max, Math.min -/
def jm_obj (M : jm_M) (i : Instr) (len d : Nat) (st : List Value) : Option (List Value) := match i, len, st with
  | .invokespecial idx, 3, .ref _ :: r => (match jp_B (jm_q M) idx with
    | some _ => if 1 ≤ d ∧ (r.map fun v => v.category).sum ≤ 8 then some r else none
    | none => none)
  | .invokestatic idx, 3, .int y :: .int x :: r => if 1 ≤ d ∧ (r.map fun v => v.category).sum ≤ 8 then (match jp_max (jm_q M) idx with
    | some _ => some (.int (if x < y then y else x) :: r)
    | none => match jp_min (jm_q M) idx with
      | some _ => some (.int (if y < x then y else x) :: r)
      | none => none) else none
  | _, _, _ => none
/-- System.arraycopy, of arrays of ints or of longs -/
def jm_cp (M : jm_M) (i : Instr) (len d : Nat) (st : List Value) (S : jm_S) : Option (List Value × jm_S) := match i, len, st with
  | .invokestatic idx, 3, .int n :: .int dp :: .ref b :: .int sp :: .ref a :: r => (match jp_A (jm_q M) idx with
    | some _ => if a < S.1 ∧ b < S.1 ∧ 1 ≤ d ∧ (r.map fun v => v.category).sum ≤ 8 ∧ ¬ sp < 0 ∧ ¬ dp < 0 ∧ ¬ n < 0 then (match S.2 a, S.2 b with
      | .inl (0, n0, .inl f), .inl (0, n1, .inl g) => if sp.toNatClampNeg + n.toNatClampNeg ≤ n0 ∧ dp.toNatClampNeg + n.toNatClampNeg ≤ n1 then some (r, jm_up S b (.inl (0, n1, .inl (va_cpy f g sp.toNatClampNeg dp.toNatClampNeg n.toNatClampNeg)))) else none
      | .inl (1, n0, .inr (.inl f)), .inl (1, n1, .inr (.inl g)) => if sp.toNatClampNeg + n.toNatClampNeg ≤ n0 ∧ dp.toNatClampNeg + n.toNatClampNeg ≤ n1 then some (r, jm_up S b (.inl (1, n1, .inr (.inl (va_cpy f g sp.toNatClampNeg dp.toNatClampNeg n.toNatClampNeg))))) else none
      | _, _ => none) else none
    | none => none)
  | _, _, _ => none
/-- throw new E("text"): the five instructions from here on; the number of E -/
def jm_thr (M : jm_M) (i : Instr) (len pc : Nat) : Option Nat := match i, len with
  | .new idx, 3 => (match jp_X (jm_q M) idx with
    | some ex => (match decode M.2.1 (pc + 3), decode M.2.1 (pc + 4), decode M.2.1 (pc + 6), decode M.2.1 (pc + 9) with
      | .ok (.dup, 1), .ok (.ldc k, 2), .ok (.invokespecial j, 3), .ok (.athrow, 1) => if jp_XS (jm_q M) k = true ∧ jp_XI (jm_q M) j = some ex then some ex else none
      | _, _, _, _ => none)
    | none => none)
  | _, _ => none
def jm_more (c k : Nat) (o : Option jm_O) : Option jm_O := match o with
  | some r => some (r.1, r.2.1, r.2.2.1, c + r.2.2.2.1, k + r.2.2.2.2)
  | none => none
def jm_run (X : jm_X) : Nat → Nat → jm_M → Nat → jm_L → List Value → jm_S → Option jm_O
  | 0, _, _, _, _, _, _ => none
  | n + 1, d, M, pc, lv, st, S => match decode M.2.1 pc with
    | .error _ => none
    | .ok (i, len) => match jm_step X M i len pc lv st S with
      | some q => jm_more q.2.2.2.2.1 q.2.2.2.2.2 (jm_run X n d M q.1 q.2.1 q.2.2.1 q.2.2.2.1)
      | none => match jm_ret i len M.2.2.2.1 st with
        | some v => some (0, v, S, 0, 0)
        | none => match jm_obj M i len d st with
          | some r => jm_run X n d M (pc + 3) lv r S
          | none => match jm_cp M i len d st S with
            | some q => jm_run X n d M (pc + 3) lv q.1 q.2
            | none => match jm_thr M i len pc with
              | some ex => if S.1 < jm_lim then some (ex + 1, some (.ref S.1), jm_add S (.inr (jp_nobj + ex, [])), 1, 6) else none
              | none => match jm_inv M i len st S with
                | some q => (match d with
                  | 0 => none
                  | d' + 1 => match jm_run X n d' q.1 0 (lv_args 0 q.2.2.1) [] S with
                    | some r => (match r.1 with
                      | 0 => jm_more r.2.2.2.1 r.2.2.2.2 (jm_run X n (d' + 1) M (pc + 3) lv (r.2.1.toList ++ q.2.2.2) r.2.2.1)
                      | _ => some r)
                    | none => none)
                | none => none
end
section
/-! THE PURE MACHINE, part 8: a run that returns, over the machine itself -/
theorem jm_args_eq (base : Nat) (sa : Nat → Nat) : ∀ (vs : List Value) (i : Nat), lv_args i (vs.map (jm_v base sa)) = jm_lv base sa (lv_args i vs) := by
  intro vs
  induction vs with
  | nil => intro i; rfl
  | cons v vs ih =>
    intro i
    show (i, jm_v base sa v) :: lv_args (if (jm_v base sa v).category = 2 then i + 2 else i + 1) (vs.map (jm_v base sa)) = (i, jm_v base sa v) :: jm_lv base sa (lv_args (if v.category = 2 then i + 2 else i + 1) vs)
    rw [jm_v_cat, ih]
theorem jm_sl_len (base : Nat) (sa : Nat → Nat) (vs : List Value) : (lg_sl (vs.map (jm_v base sa))).length = (lg_sl vs).length := by
  unfold lg_sl
  induction vs with
  | nil => rfl
  | cons v vs ih =>
    simp only [List.map_cons, List.flatMap_cons, List.length_append, jm_v_cat]
    rw [ih]
    congr 1
    split <;> rfl
theorem jm_sta.go {A : Nat → Prop} {sa : Nat → Nat} {X : jm_X} {s U : State} (h : jm_sta A sa X s) (hvm : s.vm.Alike U.vm) (hq : ∀ a : Nat, a < s.heap.size → ¬ A a → U.heap[a]? = s.heap[a]?) : jm_sta A sa X U := by
  obtain ⟨h1, h2, h3, h4, h5, h6, h7⟩ := h
  exact ⟨(h1.moved hvm).kept hq, (h2.moved hvm).kept hq, (h3.moved hvm).kept hq, (h4.moved hvm).kept hq, (h5.moved hvm).kept hq, h6.go hvm hq, h7.go hvm hq⟩
/-- what holds where a method begins -/
def jm_pre (D : va_G) (dA : Nat → ClassId) (base : Nat) (sa : Nat → Nat) (X : jm_X) (S : jm_S) (U : State) : Prop :=
  jm_H D jCl dA base sa S U.heap ∧ va_K D jCl (jm_tys dA) U ∧ jm_nst U ∧ jm_sta (fun q => base ≤ q) sa X U
theorem jm_pre_blind (D : va_G) (dA : Nat → ClassId) (base : Nat) (sa : Nat → Nat) (X : jm_X) (S : jm_S) (as : List Value) : FrameBlind (va_Pc as (jm_pre D dA base sa X S)) := by
  intro a U g mk q
  obtain ⟨q0, qH, qK, qn, qs⟩ := q
  exact ⟨q0, qH, va_K.moved (u := U) (U := U.calling g mk a) (Vm.Alike.refl U.vm) qK, qn.same rfl, qs.go (U := U.calling g mk a) (Vm.Alike.refl U.vm) (fun _ _ _ => rfl)⟩
/-- what holds where a method has returned -/
def jm_post (D : va_G) (dA : Nat → ClassId) (base : Nat) (sa : Nat → Nat) (v : Option Value) (S : jm_S) : Array Value → State → Outcome → State → Prop := fun _ st o t =>
  o = .returned (v.map (jm_v base sa)) ∧ S.1 ≤ jm_lim ∧ jm_H D jCl dA base sa S t.heap ∧ va_F (fun q => base ≤ q) st t
def jm_ws (N : jm_M) : List Cond := Cond.code N.1 N.2.1 N.2.2.1 N.2.2.2.1 :: jw
def jm_room (d k n : Nat) : Room := { frames := d, cells := k, slots := n, locals := d * 64 }
theorem jm_good {N : jm_M} (h : jm_mok N) : GoodIn jw (jm_ws N) := by
  intro w hw
  have hm : w ∈ jw := by
    rcases List.mem_cons.mp hw with rfl | hw
    · exact h.1
    · exact hw
  exact ⟨hm, jw_good w hm⟩
section JM8
variable {p : Program} {l : Launch} {e : Env} {R : Room} {s : State} {m : MethodId} {args : Array Value} {below : List Frame} {meth : Method} {c : Code} {H : Heap} {locs : List Loc} {cells slots : Nat} {Q : State → Prop}
variable {D : va_G} {dA : Nat → ClassId} {base pc : Nat} {sa : Nat → Nat} {X : jm_X} {M N : jm_M} {S S' : jm_S} {ls : Array Slot}
/-- behind a call that came back -/
theorem jm_back {v : Option Value} {k n : Nat} {st0 rest : List Value} {a : Array Value} (hr : va_Run p l e R s m args below meth c H locs cells slots k n (F0 m pc ls st0) rest (jm_post D dA base sa v S' a) (fun q => base ≤ q)) (hS : va_S (fun q => base ≤ q) s.heap H locs)
    (kk : ∀ (H1 : Heap) (locs1 : List Loc), S'.1 ≤ jm_lim → jm_H D jCl dA base sa S' H1 → va_S (fun q => base ≤ q) s.heap H1 locs1 → W p l e R s m args below meth c H1 locs1 (cells + k) (slots + n) Q (F0 m (pc + 3) ls ((v.map (jm_v base sa)).toList ++ rest))) : W p l e R s m args below meth c H locs cells slots Q (F0 m pc ls st0) := by
  intro T hT Z
  obtain ⟨v', st₀, t, T', L, h0, X', hL, e1, e2, ⟨hv, hle, hH, hz, hk⟩, st⟩ := hr T hT Z
  cases hv
  rw [h0] at hz hk
  obtain ⟨t2, a1, b1⟩ := kk T'.heap (locs ++ L) hle (by rw [e1]; exact hH)
    ⟨Nat.le_trans hS.1 (by rw [e1]; exact hz), fun q h1 h2 => by rw [e1, hk q (Nat.lt_of_lt_of_le h1 hS.1) h2]; exact hS.2.1 q h1 h2, fun q hq => by
      rcases List.mem_append.mp hq with h | h
      · exact hS.2.2 q h
      · exact hL q h⟩ T' rfl X'
  exact ⟨t2, st t2 a1, b1⟩
end JM8
/-- how a walk of a method goes on where it returns v with the store S' -/
def jm_hret (p : Program) (l : Launch) (e : Env) (R : Room) (s : State) (m : MethodId) (args : Array Value) (below : List Frame) (meth : Method) (c : Code) (D : va_G) (dA : Nat → ClassId) (base : Nat) (sa : Nat → Nat) (M : jm_M) (v : Option Value) (S' : jm_S) (cells slots : Nat) (Q : State → Prop) : Prop :=
  ∀ (H1 : Heap) (locs1 : List Loc) (ls1 : Array Slot) (pc1 : Nat) (i1 : Instr) (len1 : Nat), jm_H D jCl dA base sa S' H1 → va_S (fun q => base ≤ q) s.heap H1 locs1 → S'.1 ≤ jm_lim → decode M.2.1 pc1 = .ok (i1, len1) → jm_ret i1 len1 M.2.2.2.1 v.toList = some v → W p l e R s m args below meth c H1 locs1 cells slots Q (F0 m pc1 ls1 (v.toList.map (jm_v base sa)))
/-- a walk from pc on returns v with the store S', making k cells of n slots, nested at most d deep -/
def jm_goes (X : jm_X) (M : jm_M) (d pc : Nat) (lv : jm_L) (st : List Value) (S : jm_S) (v : Option Value) (S' : jm_S) (k n : Nat) : Prop :=
  ∀ (p : Program) (l : Launch) (e : Env) (R : Room) (s : State) (m : MethodId) (args : Array Value) (below : List Frame) (meth : Method) (c : Code) (D : va_G) (dA : Nat → ClassId) (base : Nat) (sa : Nat → Nat) (H : Heap) (locs : List Loc) (cells slots : Nat) (ls : Array Slot) (Q : State → Prop),
    jm_ctx p s m args meth c D dA base sa X M → jm_H D jCl dA base sa S H → va_S (fun q => base ≤ q) s.heap H locs → lv_has ls M.2.2.1 (jm_lv base sa lv) → S.1 ≤ jm_lim → d ≤ R.frames → d * 64 ≤ R.locals → cells + k ≤ R.cells → slots + n ≤ R.slots →
    jm_hret p l e R s m args below meth c D dA base sa M v S' (cells + k) (slots + n) Q → W p l e R s m args below meth c H locs cells slots Q (F0 m pc ls (st.map (jm_v base sa)))
theorem jm_met (l : Launch) (X : jm_X) {N : jm_M} (hok : jm_mok N) (as : List Value) (hlen : (lg_sl as).length ≤ N.2.2.1) {d k n : Nat} {v : Option Value} {S S' : jm_S} (hlim : S.1 ≤ jm_lim) (body : jm_goes X N d 0 (lv_args 0 as) [] S v S' k n) (D : va_G) (dA : Nat → ClassId) (base : Nat) (sa : Nat → Nat) :
    Met l N.1 (jm_ws N) (jm_room d k n) (va_Pc (as.map (jm_v base sa)) (jm_pre D dA base sa X S)) (jm_post D dA base sa v S') k n (fun q => base ≤ q) := by
  refine Met.ofW (cc := N.2.1) (maxL := N.2.2.1) (ret := N.2.2.2.1) hok.2.2.1 rfl ?_
  intro p e s m args below meth c s₁ B hml hv
  obtain ⟨rfl, hH, hK, hn, hst⟩ := hv
  have hts := atoms_spec (ws := jm_ws N) B.pre
  have hown : s.vm.findClass N.1.cls = some m.cls := findClass_of_methodNamed B.named
  have hlk := B.notSynchronized
  have hl := lv_entry (as.map (jm_v base sa)) (n := N.2.2.1) (by rw [jm_sl_len]; exact hlen)
  rw [jm_args_eq] at hl
  rw [lg_entry_eq]
  refine body p l e _ s m _ below meth c D dA base sa s.heap [] 0 0 _ _ ⟨B.exec, B.bytes, hml, by rw [hok.2.2.2.2.2.2.2]; exact hown, fun w hw => hts w (List.mem_cons_of_mem _ hw), hn, hK, hst, fun h1 => ?_, hlk⟩ hH va_S.rf hl hlim (Nat.le_refl _) (Nat.le_refl _) (Nat.le_of_eq (Nat.zero_add _)) (Nat.le_of_eq (Nat.zero_add _)) ?_
  · rw [(name_of_methodNamed B.named B.method).1]
    exact hok.2.2.2.2.2.2.1 h1
  · intro H1 locs1 ls1 pc1 i1 len1 h1 h2 h3 hd hr
    rw [Nat.zero_add, Nat.zero_add]
    have hq : ∀ w : Option Value, w = v.map (jm_v base sa) → ∀ t : State, t.heap = H1 → s.WarmedH t.vm → jm_post D dA base sa v S' (as.map (jm_v base sa)).toArray s (.returned w) t := by
      intro w hw t ht hW
      exact ⟨by rw [hw], h3, by rw [ht]; exact h1, h2.F ht⟩
    have hret := B.returns
    unfold jm_ret at hr
    split at hr
    · rename_i e1 e2 e3 hvl
      cases hr
      exact W.iret B.exec B.bytes (by rw [hret, e3]) (hq _ rfl) h2.2.2 hd
    · rename_i e1 e2 e3 hvl
      split at hr
      · rename_i hx
        cases hr
        refine W.zret B.exec B.bytes (ty := .boolean) (by rw [hret, e3]) ?_ (hq _ rfl) h2.2.2 hd
        rcases hx with rfl | rfl <;> rfl
      · cases hr
    · rename_i e1 e2 e3 hvl
      cases hr
      exact W.lret B.exec B.bytes (by rw [hret, e3]) (hq _ rfl) h2.2.2 hd
    · rename_i e1 e2 e3 hvl
      cases hr
      exact W.vret B.exec B.bytes (by rw [hret, e3]) (hq _ rfl) h2.2.2 hd
    · cases hr
end
section
/-! THE PURE MACHINE, part 9: calls, and the run as a whole -/
section JM9
variable {p : Program} {l : Launch} {e : Env} {R : Room} {s : State} {m : MethodId} {args : Array Value} {below : List Frame} {meth : Method} {c : Code} {H : Heap} {locs : List Loc} {cells slots : Nat} {Q : State → Prop}
variable {D : va_G} {dA : Nat → ClassId} {base pc len : Nat} {sa : Nat → Nat} {X : jm_X} {M N : jm_M} {S S' : jm_S} {ls : Array Slot} {i : Instr} {lv : jm_L} {st : List Value}
theorem jm_inv_ok {f d k n : Nat} {as r : List Value} {v : Option Value} (C : jm_ctx p s m args meth c D dA base sa X M) (hd : decode M.2.1 pc = .ok (i, len)) (h : jm_inv M i len st S = some (N, f, as, r)) (hH : jm_H D jCl dA base sa S H) (hS : va_S (fun q => base ≤ q) s.heap H locs) (hl : lv_has ls M.2.2.1 (jm_lv base sa lv)) (hlim : S.1 ≤ jm_lim) (hfr : d + 1 ≤ R.frames) (hlo : (d + 1) * 64 ≤ R.locals) (hc : cells + k ≤ R.cells) (hsl : slots + n ≤ R.slots)
    (body : jm_goes X N d 0 (lv_args 0 as) [] S v S' k n)
    (kk : ∀ (H1 : Heap) (locs1 : List Loc), S'.1 ≤ jm_lim → jm_H D jCl dA base sa S' H1 → va_S (fun q => base ≤ q) s.heap H1 locs1 → W p l e R s m args below meth c H1 locs1 (cells + k) (slots + n) Q (F0 m (pc + 3) ls ((v.toList ++ r).map (jm_v base sa)))) : W p l e R s m args below meth c H locs cells slots Q (F0 m pc ls (st.map (jm_v base sa))) := by
  obtain ⟨hx, hb, hml, hown, hts, hnn, hK, hst, hini, hlk⟩ := C
  have kk2 : ∀ (H1 : Heap) (locs1 : List Loc), S'.1 ≤ jm_lim → jm_H D jCl dA base sa S' H1 → va_S (fun q => base ≤ q) s.heap H1 locs1 → W p l e R s m args below meth c H1 locs1 (cells + k) (slots + n) Q (F0 m (pc + 3) ls ((v.map (jm_v base sa)).toList ++ r.map (jm_v base sa))) := by
    intro H1 locs1 h1 h2 h3
    have := kk H1 locs1 h1 h2 h3
    rw [List.map_append] at this
    have e1 : (v.map (jm_v base sa)).toList = v.toList.map (jm_v base sa) := by cases v <;> rfl
    rw [e1]
    exact this
  have hblind := jm_pre_blind D dA base sa X S (as.map (jm_v base sa))
  have hpre : ∀ U : State, U.heap = H → s.WarmedH U.vm → va_Pc (as.map (jm_v base sa)) (jm_pre D dA base sa X S) (as.map (jm_v base sa)).toArray U := by
    intro U hU hW
    exact ⟨rfl, by rw [hU]; exact hH, va_K.moved hW.alike hK, hnn.go hW, hst.go hW.alike (fun a h1 h2 => by rw [hU]; exact hS.2.1 a h1 h2)⟩
  have room : ∀ hok : jm_mok N, (jm_room d k n).frames + 1 ≤ R.frames ∧ 8 + (N.2.2.1 + 11) + (jm_room d k n).locals ≤ R.locals := by
    intro hok
    have h40 := hok.2.2.2.2.2.1
    refine ⟨hfr, ?_⟩
    show 8 + (N.2.2.1 + 11) + d * 64 ≤ R.locals
    omega
  have CF : CallFix p m c M.2.1 M.2.2.1 s args jw (jp_O (jm_q M)) := ⟨hx, hb, hml, hown, hts⟩
  unfold jm_inv at h
  split at h
  · -- virtual
    rename_i idx
    split at h
    · rename_i N' hN
      obtain ⟨hok, hl1, hl2, hl3⟩ := jp_M_ok _ _ _ hN
      split at h
      · rename_i a r' hdrop
        split at h
        · rename_i hcnd
          split at h
          · rename_i o ho
            split at h
            · rename_i ho1
              cases h
              have hM := jm_met l X hok _ hcnd.2.2.2 hlim body D dA base sa
              have hst' : st.map (jm_v base sa) = (((st.take (jm_n N)).reverse).map (jm_v base sa)).reverse ++ .ref (base + a) :: r.map (jm_v base sa) := by
                rw [← List.map_reverse, List.reverse_reverse]
                have e1 : st = st.take (jm_n N) ++ (.ref a :: r) := by rw [← hdrop]; exact (List.take_append_drop _ _).symm
                have e2 : jm_v base sa (.ref a) = .ref (base + a) := congrArg Value.ref (jm_a_lo hcnd.1 hlim)
                rw [← e2, ← List.map_cons, ← List.map_append, ← e1]
              have hq := (hok.2.2.2.2.2.2.2)
              have hcls : jp_C o.1 = N.1.cls := by rw [ho1, ← jp_OC _ hcnd.2.1]; exact hq
              have hcl := (jp_cl o.1 (by rw [ho1]; exact Nat.lt_of_lt_of_le hcnd.2.1 (by decide))).1
              have hrec := va_recv hK (jm_one (hH.2 a hcnd.1)) (ci := o.1) (q0 := 0) hcl (by rw [ho]; rfl)
              rw [hcls] at hrec
              have hnn2 : ((st.take (jm_n N)).reverse.map (jm_v base sa)).length = jm_n N := by
                have : jm_n N ≤ st.length := by
                  rcases Nat.lt_or_ge (jm_n N) st.length with z | z
                  · omega
                  · rw [List.drop_eq_nil_of_le z] at hdrop; cases hdrop
                simp [Nat.min_eq_left this]
              have e2 : jm_v base sa (.ref a) = .ref (base + a) := congrArg Value.ref (jm_a_lo hcnd.1 hlim)
              have cb : CallW R s args (jp_O (jm_q M)) N.1.cls idx N.1 N.2.1 N.2.2.1 N.2.2.2.1 (jm_ws N) (jm_room d k n) k n (jm_n N) :=
                ⟨callB_of (jm_n N) hts (jm_good hok) rfl rfl rfl (hts _ hok.2.1) (hts _ hl1) ⟨hok.2.2.2.1.1, hok.2.2.2.1.2, hok.2.2.2.2.1⟩ (room hok), hts _ hl2, hts _ hl3⟩
              have hrun := va_runV (b := base + a) (As := (st.take (jm_n N)).reverse.map (jm_v base sa)) (rest := r.map (jm_v base sa)) (g := F0 m pc ls (st.map (jm_v base sa))) (H := H) (locs := locs) (cells := cells) (slots := slots) (l := l) (e := e) (below := below) (meth := meth) CF hM cb
                ⟨hblind, hrec, fun U hU hW => ⟨by rw [List.map_cons, e2], (hpre U hU hW).2⟩⟩ rfl hnn2 hl.1 hst' (by rw [jm_cats]; show 2 * 0 + _ ≤ 8; have := hcnd.2.2.1; omega) hd ⟨hc, hsl⟩
              exact jm_back hrun hS kk2
            · cases h
          · cases h
        · cases h
      · cases h
    · cases h
  · -- static
    rename_i idx
    split at h
    · rename_i N' f' hN
      obtain ⟨hok, hlk1⟩ := jp_M_ok _ _ _ hN
      split at h
      · rename_i hcnd
        cases h
        have hM := jm_met l X hok _ hcnd.2.2.2 hlim body D dA base sa
        have hst' : st.map (jm_v base sa) = (((st.take (jm_n N)).reverse).map (jm_v base sa)).reverse ++ (st.drop (jm_n N)).map (jm_v base sa) := by
          rw [← List.map_reverse, List.reverse_reverse, ← List.map_append, List.take_append_drop]
        have hnn2 : ((st.take (jm_n N)).reverse.map (jm_v base sa)).length = jm_n N := by
          simp [Nat.min_eq_left hcnd.2.1]
        rcases hcnd.1 with rfl | rfl
        · obtain ⟨hl1, hl2⟩ := hlk1
          have cb : CallB R s args (jp_O (jm_q M)) idx N.1 N.2.1 N.2.2.1 N.2.2.2.1 (jm_ws N) (jm_room d k n) k n (jm_n N) :=
            callB_of (jm_n N) hts (jm_good hok) rfl rfl rfl (hts _ hok.2.1) (hts _ hl1) ⟨hok.2.2.2.1.1, hok.2.2.2.1.2, hok.2.2.2.2.1⟩ (room hok)
          have hrun := va_runS (As := (st.take (jm_n N)).reverse.map (jm_v base sa)) (rest := (st.drop (jm_n N)).map (jm_v base sa)) (g := F0 m pc ls (st.map (jm_v base sa))) (H := H) (locs := locs) (cells := cells) (slots := slots) (l := l) (e := e) (below := below) (meth := meth) CF hM ⟨cb, hts _ hl2⟩
            ⟨hblind, hpre⟩ rfl hnn2 hl.1 hst' (by rw [jm_cats]; show 2 * 0 + _ ≤ 8; have := hcnd.2.2.1; omega) hd ⟨hc, hsl⟩
          exact jm_back hrun hS kk2
        · obtain ⟨hl1, hl2⟩ := hlk1
          have cb := va_cnB (R := R) (s := s) (args := args) (own := jp_O (jm_q M)) (index := idx) (bytes := N.2.1) (maxL := N.2.2.1) (ret := N.2.2.2.1) (ws := jm_ws N) (rm := jm_room d k n) (mc := k) (ms := n) (jm_n N) hts (jm_good hok) rfl rfl rfl (hnn.1 _ hl1) (hts _ hok.2.1) ⟨hok.2.2.2.1.1, hok.2.2.2.1.2, hok.2.2.2.2.1⟩ (room hok)
          have hrun := va_runSN (As := (st.take (jm_n N)).reverse.map (jm_v base sa)) (rest := (st.drop (jm_n N)).map (jm_v base sa)) (g := F0 m pc ls (st.map (jm_v base sa))) (H := H) (locs := locs) (cells := cells) (slots := slots) (l := l) (e := e) (below := below) (meth := meth) CF hM ⟨cb, hts _ hl2, trivial⟩
            ⟨hblind, hpre⟩ rfl hnn2 hl.1 hst' (by rw [jm_cats]; show 2 * 0 + _ ≤ 8; have := hcnd.2.2.1; omega) hd ⟨hc, hsl⟩
          exact jm_back hrun hS kk2
      · cases h
    · cases h
  · -- a constructor
    rename_i idx
    split at h
    · rename_i N' f' hN
      obtain ⟨hok, hlk1⟩ := jp_M_ok _ _ _ hN
      split at h
      · rename_i a r' hdrop
        split at h
        · rename_i hcnd
          cases h
          have hM := jm_met l X hok _ hcnd.2.2 hlim body D dA base sa
          have hst' : st.map (jm_v base sa) = (((st.take (jm_n N)).reverse).map (jm_v base sa)).reverse ++ .ref (jm_a base sa a) :: r.map (jm_v base sa) := by
            rw [← List.map_reverse, List.reverse_reverse]
            have e1 : st = st.take (jm_n N) ++ (.ref a :: r) := by rw [← hdrop]; exact (List.take_append_drop _ _).symm
            have e2 : jm_v base sa (.ref a) = .ref (jm_a base sa a) := rfl
            rw [← e2, ← List.map_cons, ← List.map_append, ← e1]
          have hnn2 : ((st.take (jm_n N)).reverse.map (jm_v base sa)).length = jm_n N := by
            have : jm_n N ≤ st.length := by
              rcases Nat.lt_or_ge (jm_n N) st.length with z | z
              · omega
              · rw [List.drop_eq_nil_of_le z] at hdrop; cases hdrop
            simp [Nat.min_eq_left this]
          rcases hcnd.1 with rfl | rfl
          · obtain ⟨hl1, hl2, hl3, hret⟩ := hlk1
            have cb : CallB R s args (jp_O (jm_q M)) idx N.1 N.2.1 N.2.2.1 N.2.2.2.1 (jm_ws N) (jm_room d k n) k n (jm_n N) :=
              callB_of (jm_n N) hts (jm_good hok) rfl rfl rfl (hts _ hok.2.1) (hts _ hl1) ⟨hok.2.2.2.1.1, hok.2.2.2.1.2, hok.2.2.2.2.1⟩ (room hok)
            rw [hret] at cb
            have hrun := va_runI (b := jm_a base sa a) (As := (st.take (jm_n N)).reverse.map (jm_v base sa)) (rest := r.map (jm_v base sa)) (g := F0 m pc ls (st.map (jm_v base sa))) (H := H) (locs := locs) (cells := cells) (slots := slots) (l := l) (e := e) (below := below) (meth := meth) CF hM ⟨cb, hl3, hts _ hl2⟩
              ⟨hblind, hpre⟩ rfl hnn2 hl.1 hst' (by rw [jm_cats]; show 2 * 0 + _ ≤ 8; have := hcnd.2.1; omega) hd ⟨hc, hsl⟩
            exact jm_back hrun hS kk2
          · obtain ⟨hl1, hl2, hl3, hret⟩ := hlk1
            have cb := va_cnB (R := R) (s := s) (args := args) (own := jp_O (jm_q M)) (index := idx) (bytes := N.2.1) (maxL := N.2.2.1) (ret := N.2.2.2.1) (ws := jm_ws N) (rm := jm_room d k n) (mc := k) (ms := n) (jm_n N) hts (jm_good hok) rfl rfl rfl (hnn.1 _ hl1) (hts _ hok.2.1) ⟨hok.2.2.2.1.1, hok.2.2.2.1.2, hok.2.2.2.2.1⟩ (room hok)
            rw [hret] at cb
            have hrun := va_runIN (b := jm_a base sa a) (As := (st.take (jm_n N)).reverse.map (jm_v base sa)) (rest := r.map (jm_v base sa)) (g := F0 m pc ls (st.map (jm_v base sa))) (H := H) (locs := locs) (cells := cells) (slots := slots) (l := l) (e := e) (below := below) (meth := meth) CF hM ⟨cb, hl3, hts _ hl2⟩
              ⟨hblind, hpre⟩ rfl hnn2 hl.1 hst' (by rw [jm_cats]; show 2 * 0 + _ ≤ 8; have := hcnd.2.1; omega) hd ⟨hc, hsl⟩
            exact jm_back hrun hS kk2
        · cases h
      · cases h
    · cases h
  · cases h
end JM9
end
section
/-! THE PURE MACHINE, part 10: System.arraycopy; the run as a whole -/
section JM10
variable {p : Program} {l : Launch} {e : Env} {R : Room} {s : State} {m : MethodId} {args : Array Value} {below : List Frame} {meth : Method} {c : Code} {H : Heap} {locs : List Loc} {cells slots : Nat} {Q : State → Prop}
variable {D : va_G} {dA : Nat → ClassId} {base pc len : Nat} {sa : Nat → Nat} {X : jm_X} {M N : jm_M} {S S' : jm_S} {ls : Array Slot} {i : Instr} {lv : jm_L} {st st' : List Value}
theorem jm_nn (z : Int32) (hz : ¬ z < 0) : z.toInt = (z.toNatClampNeg : Int) := by
  have hz0 : (0 : Int) ≤ z.toInt := by
    have := Int32.not_lt.mp hz
    simpa using Int32.le_iff_toInt_le.mp this
  show z.toInt = ((z.toInt.toNat : Nat) : Int)
  omega
/-- a copy between two arrays of one type without references -/
theorem jm_acp {α : Type} (mk : α → Value) (ty : FieldType) {cA : ClassId} {f g : Nat → α} {n0 n1 a b : Nat} (hx : p.tables.exec = Jvm.exec) (hb : c.code = M.2.1) (hml : c.maxLocals = ls.size) {own : String} {index : Nat} (hown : s.vm.findClass own = some m.cls) (hlink : (Cond.methodLink own index arraycopyName).before args s = true) (hnat : (Cond.native arraycopyName).before args s = true) (hstat : (Cond.static arraycopyName).before args s = true) (hini : (Cond.initialized "java/lang/System").before args s = true)
    (hty : ArrOfT s cA ty) (h0 : H[a]? = some (arrV cA n0 (fun j => mk (f j)))) (h1' : H[b]? = some (arrV cA n1 (fun j => mk (g j)))) (hprim : refKind ty = false)
    {sp dp n : Int32} (h1 : ¬ sp < 0) (h2 : ¬ dp < 0) (h3 : ¬ n < 0) (h4 : sp.toNatClampNeg + n.toNatClampNeg ≤ n0) (h5 : dp.toNatClampNeg + n.toNatClampNeg ≤ n1) (hfit : ∀ x : α, fits ty (mk x) = true) (htk : ∀ (U : State) (d : ClassId) (x : α), U.takes d (mk x)) {rest : List Value}
    (hframes : 1 ≤ R.frames) (hlocals : (rest.map fun v => v.category).sum + (nativeFrameWords "java/lang/System" "arraycopy" 5 + 11) ≤ R.locals) (hdg : decode M.2.1 pc = .ok (.invokestatic index, 3))
    (kk : ∀ (H1 : Heap) (L : List Loc), H1[b]? = some (arrV cA n1 (fun j => mk (va_cpy f g sp.toNatClampNeg dp.toNatClampNeg n.toNatClampNeg j))) → H1.size = H.size → (∀ q, q ≠ b → H1[q]? = H[q]?) → (∀ q ∈ L, q.base = b) → W p l e R s m args below meth c H1 (locs ++ L) cells slots Q (F0 m (pc + 3) ls rest)) : W p l e R s m args below meth c H locs cells slots Q (F0 m pc ls (.int n :: .int dp :: .ref b :: .int sp :: .ref a :: rest)) := by
  intro T hT Z
  obtain ⟨-, k0, hk0, cm0, hkk0⟩ := hty n0 (fun j => mk (f j))
  obtain ⟨-, k1, hk1, cm1, hkk1⟩ := hty n1 (fun j => mk (g j))
  obtain ⟨vm', X', step⟩ := Z.arraycopy hx hown hlink hnat hstat hini (src := a) (dst := b) (cs := arrV cA n0 (fun j => mk (f j))) (cd := arrV cA n1 (fun j => mk (g j))) (srcPos := sp) (destPos := dp) (n := n) (by rw [hT]; exact h0) (by rw [hT]; exact h1')
    (fun _ h => by cases h) (fun _ h => by cases h) (fun h => by cases h) (fun h => by cases h) hk0 hk1 hkk0 hkk1 (by simp [hprim]) h1 h2 h3
    (by rw [jm_nn sp h1, jm_nn n h3, arrV_size]; omega)
    (by rw [jm_nn dp h2, jm_nn n h3, arrV_size]; omega)
    (fun vm₁ _ i hi => by
      have e : (arrV cA n0 (fun j => mk (f j))).slots.getD (sp.toNatClampNeg + i) .null = mk (f (sp.toNatClampNeg + i)) := by
        rw [Array.getD_eq_getD_getElem?, arrV_read _ _ (by omega)]
        rfl
      rw [e]
      exact ⟨hfit _, htk _ _ _⟩)
    (g := F0 m pc ls (.int n :: .int dp :: .ref b :: .int sp :: .ref a :: rest)) rfl (by rw [hml]) (rest := rest) rfl (by rw [hb]; exact hdg) hframes (by show 2 * 0 + _ + _ ≤ _; omega)
  have e1 : copied (arrV cA n0 (fun j => mk (f j))) (arrV cA n1 (fun j => mk (g j))) sp dp n = arrV cA n1 (fun j => mk (va_cpy f g sp.toNatClampNeg dp.toNatClampNeg n.toNatClampNeg j)) := va_copied mk cA cA f g h4
  rw [e1] at X' step
  have hl : b < H.size := (Array.getElem?_eq_some_iff.mp h1').1
  obtain ⟨t, a1, b1⟩ := kk (H.setIfInBounds b (arrV cA n1 (fun j => mk (va_cpy f g sp.toNatClampNeg dp.toNatClampNeg n.toNatClampNeg j)))) _ (by simp [Array.getElem?_setIfInBounds, hl]) (by simp) (fun q hq => by simp [Array.getElem?_setIfInBounds, Ne.symm hq]) (fun q hq => by
      obtain ⟨z, -, hz⟩ := List.mem_map.mp hq
      rw [← hz]) _ (by rw [← hT]; rfl) X'
  exact ⟨t, step t a1, b1⟩
theorem jm_cp_ok {d : Nat} (C : jm_ctx p s m args meth c D dA base sa X M) (hd : decode M.2.1 pc = .ok (i, len)) (h : jm_cp M i len d st S = some (st', S')) (hH : jm_H D jCl dA base sa S H) (hS : va_S (fun q => base ≤ q) s.heap H locs) (hl : lv_has ls M.2.2.1 (jm_lv base sa lv)) (hlim : S.1 ≤ jm_lim) (hfr : d ≤ R.frames) (hlo : d * 64 ≤ R.locals)
    (kk : ∀ (H1 : Heap) (locs1 : List Loc), jm_H D jCl dA base sa S' H1 → va_S (fun q => base ≤ q) s.heap H1 locs1 → S'.1 ≤ jm_lim → W p l e R s m args below meth c H1 locs1 cells slots Q (F0 m (pc + 3) ls (st'.map (jm_v base sa)))) : W p l e R s m args below meth c H locs cells slots Q (F0 m pc ls (st.map (jm_v base sa))) := by
  obtain ⟨hx, hb, hml, hown, hts, hnn, hK, hst, hini, hlk⟩ := C
  unfold jm_cp at h
  split at h
  · rename_i idx n dp b sp a r
    split at h
    · rename_i hw
      have hlink := jp_A_ok _ _ _ hw
      split at h
      · rename_i hq
        obtain ⟨ha, hbl, hd1, hcat, g1, g2, g3⟩ := hq
        have e1 : ∀ q : List Value, (Value.int n :: .int dp :: .ref b :: .int sp :: .ref a :: q).map (jm_v base sa) = .int n :: .int dp :: .ref (base + b) :: .int sp :: .ref (base + a) :: q.map (jm_v base sa) := by
          intro q
          show Value.int n :: .int dp :: .ref (jm_a base sa b) :: .int sp :: .ref (jm_a base sa a) :: q.map (jm_v base sa) = _
          rw [jm_a_lo ha hlim, jm_a_lo hbl hlim]
        rw [e1]
        have hfr1 : 1 ≤ R.frames := by omega
        have hlo1 : ((r.map (jm_v base sa)).map fun v => v.category).sum + (nativeFrameWords "java/lang/System" "arraycopy" 5 + 11) ≤ R.locals := by
          rw [jm_cats, show nativeFrameWords "java/lang/System" "arraycopy" 5 = 7 by decide +kernel]
          omega
        have fin : ∀ (H1 : Heap) (L : List Loc), H1.size = H.size → (∀ q, q ≠ base + b → H1[q]? = H[q]?) → (∀ q ∈ L, q.base = base + b) → va_S (fun q => base ≤ q) s.heap H1 (locs ++ L) := by
          intro H1 L z oq hL
          refine ⟨by rw [z]; exact hS.1, fun q h1 h2 => ?_, fun q hq => ?_⟩
          · rw [oq q (fun e => h2 (by rw [e]; exact Nat.le_add_right _ _))]
            exact hS.2.1 q h1 h2
          · rcases List.mem_append.mp hq with h1 | h1
            · exact hS.2.2 q h1
            · rw [hL q h1]
              exact Nat.le_add_right _ _
        split at h
        · rename_i n0 f n1 g hea heb
          split at h
          · rename_i hle
            cases h
            have q0 := hH.2 a ha
            have q1 := hH.2 b hbl
            rw [hea] at q0
            rw [heb] at q1
            refine jm_acp (M := M) (fun z => Value.int z) .int hx hb (hml.trans hl.1.symm) hown (hts _ hlink) (hts _ jp_acp.1) (hts _ jp_acp.2.1) (hts _ jp_acp.2.2) (hK.2 0 (dA 0, .int) rfl).1 q0 q1 rfl g1 g2 g3 hle.1 hle.2 (fun _ => rfl) (fun _ _ _ => trivial) hfr1 hlo1 hd (fun H1 L w1 w2 w3 w4 => ?_)
            exact kk H1 _ (hH.up w2 w3 w1) (fin H1 L w2 w3 w4) hlim
          · cases h
        · rename_i n0 f n1 g hea heb
          split at h
          · rename_i hle
            cases h
            have q0 := hH.2 a ha
            have q1 := hH.2 b hbl
            rw [hea] at q0
            rw [heb] at q1
            refine jm_acp (M := M) (fun z => Value.long z) .long hx hb (hml.trans hl.1.symm) hown (hts _ hlink) (hts _ jp_acp.1) (hts _ jp_acp.2.1) (hts _ jp_acp.2.2) (hK.2 1 (dA 1, .long) rfl).1 q0 q1 rfl g1 g2 g3 hle.1 hle.2 (fun _ => rfl) (fun _ _ _ => trivial) hfr1 hlo1 hd (fun H1 L w1 w2 w3 w4 => ?_)
            exact kk H1 _ (hH.up w2 w3 w1) (fin H1 L w2 w3 w4) hlim
          · cases h
        · cases h
      · cases h
    · cases h
  · cases h
theorem jm_obj_ok {d : Nat} (C : jm_ctx p s m args meth c D dA base sa X M) (hd : decode M.2.1 pc = .ok (i, len)) (h : jm_obj M i len d st = some st') (hl : lv_has ls M.2.2.1 (jm_lv base sa lv)) (hfr : d ≤ R.frames) (hlo : d * 64 ≤ R.locals) (hc : cells ≤ R.cells) (hs : slots ≤ R.slots)
    (kk : W p l e R s m args below meth c H locs cells slots Q (F0 m (pc + 3) ls (st'.map (jm_v base sa)))) : W p l e R s m args below meth c H locs cells slots Q (F0 m pc ls (st.map (jm_v base sa))) := by
  obtain ⟨hx, hb, hml, hown, hts, hnn, hK, hst, hini, hlk⟩ := C
  unfold jm_obj at h
  split at h
  · split at h
    · rename_i hw
      have hlink := jp_B_ok _ _ _ hw
      split at h
      · rename_i hq
        cases h
        refine W.objInit hx hb hown (hts _ hlink) (hts _ jp_obj.1) (hts _ jp_obj.2) rfl (by rw [hml]; exact hl.1) rfl hd (by omega) ?_ kk
        rw [jm_cats]
        show 2 * 0 + _ + 12 ≤ R.locals
        omega
      · cases h
    · cases h
  · rename_i idx y x r
    split at h
    · rename_i hq
      have hlo1 : ((r.map (jm_v base sa)).map fun v => v.category).sum + 13 ≤ R.locals := by
        rw [jm_cats]
        omega
      split at h
      · rename_i hw
        cases h
        exact va_mmax hx hb (hml.trans hl.1.symm) hown (hts _ (jp_max_ok _ _ _ hw)) (hts _ jp_max_w.1) (hts _ jp_max_w.2.1) (hts _ jp_max_w.2.2) (by omega) hlo1 hc hs hd kk
      · split at h
        · rename_i hw
          cases h
          exact va_mmin hx hb (hml.trans hl.1.symm) hown (hts _ (jp_min_ok _ _ _ hw)) (hts _ jp_min_w.1) (hts _ jp_min_w.2.1) (hts _ jp_min_w.2.2) (by omega) hlo1 hc hs hd kk
        · cases h
    · cases h
  · cases h
end JM10
theorem jm_more_some {c k : Nat} {o : Option jm_O} {t : Nat} {v : Option Value} {S : jm_S} {a b : Nat} (h : jm_more c k o = some (t, v, S, a, b)) : ∃ a' b', o = some (t, v, S, a', b') ∧ a = c + a' ∧ b = k + b' := by
  unfold jm_more at h
  split at h
  · rename_i r
    cases h
    exact ⟨_, _, rfl, rfl, rfl⟩
  · cases h
/-- WHAT THE PURE MACHINE SAYS OF A METHOD THAT RETURNS, THE MACHINE ITSELF DOES -/
theorem jm_run_ok (X : jm_X) : ∀ (n d : Nat) (M : jm_M) (pc : Nat) (lv : jm_L) (st : List Value) (S : jm_S) (v : Option Value) (S' : jm_S) (k j : Nat), jm_run X n d M pc lv st S = some (0, v, S', k, j) → jm_goes X M d pc lv st S v S' k j := by
  intro n
  induction n with
  | zero => intro d M pc lv st S v S' k j h; cases h
  | succ n ih =>
    intro d M pc lv st S v S' k j h
    intro p l e R s m args below meth c D dA base sa H locs cells slots ls Q C hH hS hl hlim hfr hlo hc hs hret
    unfold jm_run at h
    split at h
    · cases h
    · rename_i i len hd
      split at h
      · rename_i q hq
        obtain ⟨pc1, lv1, st1, S1, c1, k1⟩ := q
        obtain ⟨a', b', h1, rfl, rfl⟩ := jm_more_some h
        refine jm_step_ok C hd hq hH hS hl hlim (by dsimp only at hc; omega) (by dsimp only at hs; omega) (fun H1 locs1 ls1 w1 w2 w3 w4 => ?_)
        refine ih d M pc1 lv1 st1 S1 v S' a' b' h1 p l e R s m args below meth c D dA base sa H1 locs1 _ _ ls1 Q C w1 w2 w3 w4 hfr hlo (by dsimp only at hc; omega) (by dsimp only at hs; omega) ?_
        rw [Nat.add_assoc, Nat.add_assoc]
        exact hret
      · split at h
        · rename_i v1 hv
          cases h
          have e1 := jm_ret_st hv
          subst e1
          exact hret H locs ls pc i len hH hS hlim hd hv
        · split at h
          · rename_i r hr
            exact jm_obj_ok C hd hr hl hfr hlo (by omega) (by omega) (ih d M _ lv r S v S' k j h p l e R s m args below meth c D dA base sa H locs cells slots ls Q C hH hS hl hlim hfr hlo hc hs hret)
          · split at h
            · rename_i q hq
              exact jm_cp_ok C hd hq hH hS hl hlim hfr hlo (fun H1 locs1 w1 w2 w3 => ih d M _ lv q.1 q.2 v S' k j h p l e R s m args below meth c D dA base sa H1 locs1 cells slots ls Q C w1 w2 hl w3 hfr hlo hc hs hret)
            · split at h
              · rename_i ex hex
                split at h <;> cases h
              · split at h
                · rename_i q hq
                  obtain ⟨N, f, as, r⟩ := q
                  match d, h, hfr, hlo with
                  | 0, h, _, _ => cases h
                  | d' + 1, h, hfr, hlo =>
                    dsimp only at h
                    split at h
                    · rename_i o ho
                      obtain ⟨t1, v1, S1, k1, j1⟩ := o
                      split at h
                      · rename_i ht
                        dsimp only at ht
                        subst ht
                        obtain ⟨a', b', h1, rfl, rfl⟩ := jm_more_some h
                        dsimp only at hc hs
                        refine jm_inv_ok C hd hq hH hS hl hlim hfr hlo (k := k1) (n := j1) (by omega) (by omega) (ih d' N 0 _ [] S v1 S1 k1 j1 ho) (fun H1 locs1 w1 w2 w3 => ?_)
                        refine ih (d' + 1) M (pc + 3) lv _ S1 v S' a' b' h1 p l e R s m args below meth c D dA base sa H1 locs1 _ _ ls Q C w2 w3 hl w1 hfr hlo (by omega) (by omega) ?_
                        rw [Nat.add_assoc, Nat.add_assoc]
                        exact hret
                      · rename_i hne
                        cases h
                        exact absurd rfl hne
                    · cases h
                · cases h
end
section
/-! THE PURE MACHINE, part 11: a method that throws (new E("text") thrown before anything is written) -/
/-- cells, read -/
def jm_cellr (X : jm_X) (M : jm_M) (i : Instr) (len : Nat) (st : List Value) (S : jm_S) : Option (List Value) := match i, len, st with
  | .getfield idx, 3, .ref a :: r => (match jp_F (jm_q M) idx with
    | some f => if a < S.1 then (match S.2 a with
      | .inr o => if o.1 = f.1 then (match o.2[f.2.1]? with
        | some v => some (v :: r)
        | none => none) else none
      | .inl _ => none) else none
    | none => none)
  | i, 1, .int j :: .ref a :: r => if a < S.1 then (match jm_rd i j (S.2 a) with
    | some v => some (v :: r)
    | none => none) else none
  | _, _, _ => none
/-- a step that writes nothing -/
def jm_rst (X : jm_X) (M : jm_M) (i : Instr) (len pc : Nat) (lv : jm_L) (st : List Value) (S : jm_S) : Option (Nat × jm_L × List Value) :=
  match jm_k i len with
  | some v => some (pc + len, lv, v :: st)
  | none => match jm_ld i len with
  | some q => (match jm_get lv q.1 with
    | some v => if jm_isk q.2 v = true then some (pc + len, lv, v :: st) else none
    | none => none)
  | none => match jm_sr i len with
  | some q => (match st with
    | v :: r => if jm_isk q.2 v = true ∧ q.1 + v.category ≤ M.2.2.1 then some (pc + len, if q.2 = 1 then jm_set2 lv q.1 v else jm_set1 lv q.1 v, r) else none
    | [] => none)
  | none => match jm_br i len pc st with
  | some q => some (q.1, lv, q.2)
  | none => match jm_cellr X M i len st S with
  | some q => some (pc + len, lv, q)
  | none => jm_mis M i len pc lv st
/-- the number of the exception that a method throws -/
def jm_thw (X : jm_X) : Nat → Nat → jm_M → Nat → jm_L → List Value → jm_S → Option Nat
  | 0, _, _, _, _, _, _ => none
  | n + 1, d, M, pc, lv, st, S => match decode M.2.1 pc with
    | .error _ => none
    | .ok (i, len) => match jm_rst X M i len pc lv st S with
      | some q => jm_thw X n d M q.1 q.2.1 q.2.2 S
      | none => match jm_thr M i len pc with
        | some ex => if 6 ≤ d ∧ (st.map fun v => v.category).sum ≤ 4 ∧ S.1 < jm_lim then some ex else none
        | none => match jm_inv M i len st S with
          | some q => if q.2.1 = 0 then (match d with
            | 0 => none
            | d' + 1 => jm_thw X n d' q.1 0 (lv_args 0 q.2.2.1) [] S) else none
          | none => none
section JM11
variable {p : Program} {l : Launch} {e : Env} {R : Room} {s : State} {m : MethodId} {args : Array Value} {below : List Frame} {meth : Method} {c : Code} {H : Heap} {locs : List Loc} {cells slots : Nat} {Q : State → Prop}
variable {D : va_G} {dA : Nat → ClassId} {base pc len pc' : Nat} {sa : Nat → Nat} {X : jm_X} {M N : jm_M} {i : Instr} {lv lv' : jm_L} {st st' : List Value} {S S' : jm_S} {ls : Array Slot}
theorem jm_cellr_ok (C : jm_ctx p s m args meth c D dA base sa X M) (hd : decode M.2.1 pc = .ok (i, len)) (h : jm_cellr X M i len st S = some st') (hH : jm_H D jCl dA base sa S H) (hlim : S.1 ≤ jm_lim)
    (kk : W p l e R s m args below meth c H locs cells slots Q (F0 m (pc + len) ls (st'.map (jm_v base sa)))) : W p l e R s m args below meth c H locs cells slots Q (F0 m pc ls (st.map (jm_v base sa))) := by
  obtain ⟨hx, hb, hml, hown, hts, hnn, hK, hst, hini, hlk⟩ := C
  unfold jm_cellr at h
  split at h
  · split at h
    · rename_i f hf
      obtain ⟨hci, hj, hlink, -, hdc⟩ := jp_F_ok _ _ _ hf
      obtain ⟨hcl, hin, hnm, hty⟩ := jp_cl _ (Nat.lt_of_lt_of_le hci (by decide))
      split at h
      · rename_i ha
        split at h
        · rename_i o ho
          split at h
          · rename_i ho1
            split at h
            · rename_i v hv
              cases h
              exact jm_getf_ok (host := "") hx hb hts hin hown hK hH hlim ha (show S.2 _ = .inr (f.1, o.2) by rw [ho, ← ho1]) hcl _ hj (Or.inl hlink) hv hd kk
            · cases h
          · cases h
        · cases h
      · cases h
    · cases h
  · split at h
    · rename_i ha
      split at h
      · rename_i v hv
        cases h
        unfold jm_rd at hv
        split at hv
        · rename_i hq
          split at hv
          · rename_i hi; cases hv; exact jm_iald_ok hx hb hK hH hlim ha hq (jm_in_ok hi) hd kk
          · cases hv
        · rename_i hq
          split at hv
          · rename_i hi; cases hv; exact jm_zald_ok hx hb hK hH hlim ha hq (jm_in_ok hi) hd kk
          · cases hv
        · rename_i hq
          split at hv
          · rename_i hi; cases hv; exact jm_bald_ok hx hb hK hH hlim ha hq (jm_in_ok hi) hd kk
          · cases hv
        · rename_i hq
          split at hv
          · rename_i hi; cases hv; exact jm_lald_ok hx hb hK hH hlim ha hq (jm_in_ok hi) hd kk
          · cases hv
        · cases hv
      · cases h
    · cases h
  · cases h
theorem jm_rst_ok (C : jm_ctx p s m args meth c D dA base sa X M) (hd : decode M.2.1 pc = .ok (i, len)) (h : jm_rst X M i len pc lv st S = some (pc', lv', st')) (hH : jm_H D jCl dA base sa S H) (hl : lv_has ls M.2.2.1 (jm_lv base sa lv)) (hlim : S.1 ≤ jm_lim)
    (kk : ∀ ls1 : Array Slot, lv_has ls1 M.2.2.1 (jm_lv base sa lv') → W p l e R s m args below meth c H locs cells slots Q (F0 m pc' ls1 (st'.map (jm_v base sa)))) : W p l e R s m args below meth c H locs cells slots Q (F0 m pc ls (st.map (jm_v base sa))) := by
  have hx := C.1
  have hb := C.2.1
  unfold jm_rst at h
  split at h
  · rename_i v hv; cases h; exact jm_k_ok (base := base) (sa := sa) hx hb hd hv (kk ls hl)
  · split at h
    · rename_i q hq
      split at h
      · rename_i v hv
        split at h
        · rename_i hk; cases h; exact jm_ld_ok hx hb hd hq hl hv hk (kk ls hl)
        · cases h
      · cases h
    · split at h
      · rename_i q hq
        split at h
        · rename_i v r
          split at h
          · rename_i hk
            cases h
            refine jm_sr_ok hx hb hd hq hl hk.1 ?_ (fun ls' h' => kk ls' h')
            rcases lv_cat v with h1 | h1
            · exact Or.inr ⟨by have := hk.2; omega, h1⟩
            · exact Or.inl (by have := hk.2; omega)
          · cases h
        · cases h
      · split at h
        · rename_i q hq; cases h; exact jm_br_ok hx hb hd hq (kk ls hl)
        · split at h
          · rename_i q hq; cases h; exact jm_cellr_ok C hd hq hH hlim (kk ls hl)
          · exact jm_mis_ok C hd h hl kk
end JM11
/-- how a method has thrown: E's new object, at the end of the heap; nothing else has changed -/
def jm_QT (below : List Frame) (s : State) (ex : Nat) : State → Prop := fun t =>
  t.status = .running ∧ Ended t below (.threw s.heap.size) ∧ s.WarmedH t.vm ∧ s.sameButNew ({ t with vm := s.vm } : State) [] 1 6 ∧ ∃ ce : Cell, t.heap[s.heap.size]? = some ce ∧ s.vm.findClass (jp_C (jp_nobj + ex)) = some ce.cls ∧ ce.vm = .none
end
section
/-! THE PURE MACHINE, part 12: throws, over the machine itself -/
section JM12
variable {p : Program} {l : Launch} {e : Env} {R : Room} {s : State} {m : MethodId} {args : Array Value} {below : List Frame} {meth : Method} {c : Code}
variable {D : va_G} {dA : Nat → ClassId} {base pc len pc' : Nat} {sa : Nat → Nat} {X : jm_X} {M N : jm_M} {i : Instr} {lv lv' : jm_L} {st st' : List Value} {S S' : jm_S} {ls : Array Slot}
theorem jm_own (C : jm_ctx p s m args meth c D dA base sa X M) : ∀ ex, ex < 3 → ∀ w ∈ Bundle.ownAtoms "WhilePress" (jp_ic ex) (jp_C (jp_nobj + ex)) ["java/lang/RuntimeException", "java/lang/Exception"], w.before args s = true := by
  obtain ⟨hx, hb, hml, hown, hts, hnn, hK, hst, hini, hlk⟩ := C
  obtain ⟨hz1, hz2, ht0, ht1, ht2, hs1, hs2⟩ := hst
  intro ex hex
  match ex, hex with
  | 0, _ => exact jo_0 hts hnn.1 (hs1.isRef args) (hs2.isRef args) (hs1.lays args) (hs2.lays args)
  | 1, _ => exact jo_1 hts hnn.1 (hs1.isRef args) (hs2.isRef args) (hs1.lays args) (hs2.lays args)
  | 2, _ => exact jo_2 hts hnn.1 (hs1.isRef args) (hs2.isRef args) (hs1.lays args) (hs2.lays args)
  | k + 3, h => exact absurd h (by omega)
theorem jm_thr_ok {ex : Nat} (C : jm_ctx p s m args meth c D dA base sa X M) (hfl : l.flags = pinnedFlags ++ [noTraceFlag]) (hno : c.exceptionTable.isEmpty = true) (hd : decode M.2.1 pc = .ok (i, len)) (h : jm_thr M i len pc = some ex) (hl : lv_has ls M.2.2.1 (jm_lv base sa lv)) (hfr : 6 ≤ R.frames) (hlo : 384 ≤ R.locals) (hcat : (st.map fun v => v.category).sum ≤ 4) (hc : 1 ≤ R.cells) (hs : 6 ≤ R.slots) :
    W p l e R s m args below meth c s.heap [] 0 0 (jm_QT below s ex) (F0 m pc ls (st.map (jm_v base sa))) := by
  have hown3 := jm_own C
  obtain ⟨hx, hb, hml, hown, hts, hnn, hK, hst, hini, hlk⟩ := C
  unfold jm_thr at h
  split at h
  · rename_i idx
    split at h
    · rename_i ex' hX
      obtain ⟨hq, hex, hcl⟩ := jp_X_ok _ _ _ hX
      split at h
      · rename_i k j d3 d4 d6 d9
        split at h
        · rename_i hcnd
          cases h
          obtain ⟨tx, htx⟩ := Option.isSome_iff_exists.mp hcnd.1
          obtain ⟨-, hmem⟩ := jp_XT_ok _ _ _ htx
          obtain ⟨qs, hqs⟩ := hnn.2.1 _ hmem
          have hic : j = jp_ic ex := by
            rcases (jp_XI_ok _ _ _ hcnd.2).2 with ⟨h1, h2⟩ | ⟨h1, h2⟩ | ⟨h1, h2⟩ <;> rw [h1, h2] <;> rfl
          rw [hq] at hown
          have hown : s.vm.findClass "WhilePress" = some m.cls := hown
          have hz : Cond.instantiable (jp_C (jp_nobj + ex)) 6 ∈ jw ∧ Cond.initialized (jp_C (jp_nobj + ex)) ∈ jw := by
            match ex, hex with
            | 0, _ => exact jz_0
            | 1, _ => exact jz_1
            | 2, _ => exact jz_2
            | k + 3, h => exact absurd h (by omega)
          have hcl16 := (jp_cl (jp_nobj + ex) (by show 13 + ex < 16; omega)).1
          have hfc := (hK.1 _ _ hcl16).2.1
          refine W.newcK hx hb hown (hts _ hcl) (hts _ hz.1) (hts _ hz.2) rfl hd (by omega) (by omega) hfc rfl fun H1 kC hkC e1 z1 o1 => ?_
          refine lv_dup hx hb d3 rfl ?_
          refine W.eq (g2 := F0 m (pc + 4) ls (.ref s.heap.size :: .ref s.heap.size :: st.map (jm_v base sa))) rfl ?_
          refine va_ldcS hx hb hown hqs d4 ?_
          refine W.eq (g2 := F0 m (pc + 6) ls (.ref qs :: .ref s.heap.size :: .ref s.heap.size :: st.map (jm_v base sa))) rfl ?_
          intro T hT Z
          have htr : e.platform.stackTraces = false := Launch.traces_off hfl Z.admits
          have hfit : Bundle.fit (jp_C (jp_nobj + ex)) = true ∧ ∀ n ∈ ["java/lang/RuntimeException", "java/lang/Exception"], Bundle.fit n = true := by
            match ex, hex with
            | 0, _ => decide +kernel
            | 1, _ => decide +kernel
            | 2, _ => decide +kernel
            | k + 3, h => exact absurd h (by omega)
          have hout : ∀ x ∈ c.exceptionTable.toList, covers x (pc + 6 + 3) = false := by
            intro x hxx
            have : c.exceptionTable = #[] := by simpa using hno
            rw [this] at hxx
            simp at hxx
          obtain ⟨U, u1, u2, u3, u4, u5, ce, u6, u7⟩ := Z.ctorThrowS hx htr (own := "WhilePress") (cls := jp_C (jp_nobj + ex)) (names := ["java/lang/RuntimeException", "java/lang/Exception"]) (ic := jp_ic ex) hown hfit.1 hfit.2 (hown3 ex hex) (fun x hx => by cases hx)
            (a := s.heap.size) hfc hkC (by rw [hT]; exact e1) (Nat.le_refl _) (msg := .ref qs) rfl (g := F0 m (pc + 6) ls (.ref qs :: .ref s.heap.size :: .ref s.heap.size :: st.map (jm_v base sa))) rfl (by rw [hml]; exact hl.1) rfl rfl (rest := st.map (jm_v base sa)) rfl
            (by rw [hb, ← hic]; exact d6) (by rw [hb]; exact d9) hout (by show 2 + 3 < R.frames; omega) (by
              show 2 * 0 + (1 + ((st.map (jm_v base sa)).map fun v => v.category).sum) + (13 * (2 + 1) + 42) ≤ R.locals
              rw [jm_cats]
              omega) hlk
          exact ⟨U, u1, u2, u3, u4, u5, ce, u6, u7.cls, u7.vm⟩
        · cases h
      · cases h
    · cases h
  · cases h
end JM12
end
section
/-! THE PURE MACHINE, part 13: a call that throws -/
/-- what holds where a method has thrown -/
def jm_postT (ex : Nat) : Array Value → State → Outcome → State → Prop := fun _ st o t =>
  o = .threw st.heap.size ∧ st.WarmedH t.vm ∧ st.sameButNew ({ t with vm := st.vm } : State) [] 1 6 ∧ ∃ ce : Cell, t.heap[st.heap.size]? = some ce ∧ st.vm.findClass (jp_C (jp_nobj + ex)) = some ce.cls ∧ ce.vm = .none
def jm_MT (l : Launch) (X : jm_X) (N : jm_M) (d : Nat) (as : List Value) (S : jm_S) (ex : Nat) (D : va_G) (dA : Nat → ClassId) (base : Nat) (sa : Nat → Nat) : Prop :=
  MetFree l N.1 (headSpec (jm_ws N) (jm_room d 1 6)) (va_Pc (as.map (jm_v base sa)) (jm_pre D dA base sa X S)) (fun _ _ _ _ _ => True) (jm_postT ex)
/-- a walk from pc on throws -/
def jm_goesT (X : jm_X) (M : jm_M) (d pc : Nat) (lv : jm_L) (st : List Value) (S : jm_S) (ex : Nat) : Prop :=
  ∀ (p : Program) (l : Launch) (e : Env) (R : Room) (s : State) (m : MethodId) (args : Array Value) (below : List Frame) (meth : Method) (c : Code) (D : va_G) (dA : Nat → ClassId) (base : Nat) (sa : Nat → Nat) (ls : Array Slot),
    l.flags = pinnedFlags ++ [noTraceFlag] → jm_ctx p s m args meth c D dA base sa X M → c.exceptionTable.isEmpty = true → jm_H D jCl dA base sa S s.heap → lv_has ls M.2.2.1 (jm_lv base sa lv) → S.1 ≤ jm_lim → d ≤ R.frames → d * 64 ≤ R.locals → 1 ≤ R.cells → 6 ≤ R.slots →
    W p l e R s m args below meth c s.heap [] 0 0 (jm_QT below s ex) (F0 m pc ls (st.map (jm_v base sa)))
theorem jm_metT (l : Launch) (hfl : l.flags = pinnedFlags ++ [noTraceFlag]) (X : jm_X) {N : jm_M} (hok : jm_mok N) (as : List Value) (hlen : (lg_sl as).length ≤ N.2.2.1) {d ex : Nat} {S : jm_S} (hlim : S.1 ≤ jm_lim) (body : jm_goesT X N d 0 (lv_args 0 as) [] S ex) (D : va_G) (dA : Nat → ClassId) (base : Nat) (sa : Nat → Nat) :
    jm_MT l X N d as S ex D dA base sa := by
  refine MetFree.of_bodyS (code := N.2.1) (maxLocals := N.2.2.1) (ret := N.2.2.2.1) hok.2.2.1 ?_ ?_
  · intro args s m h hn
    obtain ⟨meth, c, h1, h2, h3, h4, h5, h6, -, -⟩ := Cond.code_spec hn (atoms_spec (ws := jm_ws N) h _ List.mem_cons_self)
    exact ⟨meth, c, h1, h2, h3, h4, h5, h6⟩
  · intro p e s m args below meth c s₁ B hml hv _
    obtain ⟨rfl, hH, hK, hn, hst⟩ := hv
    have hh0 : s₁.heap = s.heap := by rw [B.state]; rfl
    have hts := atoms_spec (ws := jm_ws N) B.pre
    have hown : s.vm.findClass N.1.cls = some m.cls := findClass_of_methodNamed B.named
    have hlk := B.notSynchronized
    have hno := BodyLoose.noHandlers B (hts _ List.mem_cons_self)
    have hl := lv_entry (as.map (jm_v base sa)) (n := N.2.2.1) (by rw [jm_sl_len]; exact hlen)
    rw [jm_args_eq] at hl
    have w := body p l e (jm_room d 1 6) s m _ below meth c D dA base sa _ hfl ⟨B.exec, B.bytes, hml, by rw [hok.2.2.2.2.2.2.2]; exact hown, fun w hw => hts w (List.mem_cons_of_mem _ hw), hn, hK, hst, fun h1 => by rw [(name_of_methodNamed B.named B.method).1]; exact hok.2.2.2.2.2.2.1 h1, hlk⟩ hno hH hl hlim (Nat.le_refl _) (Nat.le_refl _) (Nat.le_refl _) (Nat.le_refl _)
    rw [lg_entry_eq]
    obtain ⟨t, a1, b1, b2, b3, b4, b5⟩ := w s₁ hh0 (Stand.of_body B)
    exact ⟨t, .threw s.heap.size, a1, b1, b2, rfl, b3, b4, b5⟩
section JM13
variable {p : Program} {l : Launch} {e : Env} {R : Room} {s : State} {m : MethodId} {args : Array Value} {below : List Frame} {meth : Method} {c : Code} {T : State} {locs : List Loc} {cells slots : Nat}
/-- 'invokevirtual' of a method that throws: the note lies over the caller's frame -/
theorem jm_callT (Z : Stand p l e R s m args below meth c T locs cells slots) (hx : p.tables.exec = Jvm.exec) {own C : String} {index : Nat} {y : MethodName} {bytes : ByteArray} {maxL : Nat} {ret : Option FieldType}
    (hown : s.vm.findClass own = some m.cls) (hlink : (Cond.methodLink own index y).before args s = true) (hinst : (Cond.instanceMethod y).before args s = true) (hsel : (Cond.selects C y y).before args s = true) (hcode : (Cond.code y bytes maxL ret).before args s = true) (hini : (Cond.initialized y.cls).before args s = true) (hy : y.cls ≠ "java/lang/invoke/MethodHandle" ∧ y.cls ≠ "java/lang/invoke/VarHandle")
    {ws : List Cond} {rm : Room} {Pc : Array Value → State → Prop} {ex : Nat} (hM : MetFree l y (headSpec ws rm) Pc (fun _ _ _ _ _ => True) (jm_postT ex)) (hblind : FrameBlind Pc) (hws : ∀ w ∈ ws, ∀ (a' : Array Value) (U : State), s.WarmedH U.vm → w.before a' U = true) (hcw : Cond.code y bytes maxL ret ∈ ws)
    (hfr : rm.frames + 1 ≤ R.frames) (hlo : 8 + (maxL + 11) + rm.locals ≤ R.locals) (hcl : cells + rm.cells ≤ R.cells) (hsl : slots + rm.slots ≤ R.slots)
    {b : Addr} {cellB : Cell} (hcell : T.heap[b]? = some cellB) (hobj : cellB.vm.isStatics = false) (hcls : s.vm.findClass C = some cellB.cls)
    {g : JFrame} (hg : g.method = m) (hsize : g.locals.size = c.maxLocals) {argsL rest : List Value} (hlen : ∀ sig, parseMethodDescriptor y.desc = some sig → argsL.length = sig.parameters.length)
    (hstack : g.stack = argsL.reverse ++ .ref b :: rest) (hW : 2 * g.monitorRoom + (rest.map fun v => v.category).sum ≤ 8) (hdg : decode c.code g.pc = .ok (.invokevirtual index, 3))
    (hpre : ∀ vm₁, s.WarmedH vm₁ → Pc (Value.ref b :: argsL).toArray (T.setVm vm₁)) :
    ∃ T' : State, Stand p l e R s m args below meth c T' locs (cells + 1) (slots + 6) ∧ (∃ vm₁ : Vm, (T.setVm vm₁).sameButNew (T'.setVm vm₁) [] 1 6) ∧ (∃ ce : Cell, T'.heap[T.heap.size]? = some ce ∧ s.vm.findClass (jp_C (jp_nobj + ex)) = some ce.cls ∧ ce.vm = .none) ∧
      ∀ target, Steps p.tables e below ((T'.setTop { g with stack := rest }).pushFrame (.throwing T.heap.size)) target → Steps p.tables e below (T.setTop g) target := by
  obtain ⟨mk, methM, hnamed, hmethM, hstM, habM⟩ := Cond.instanceMethod_spec hinst
  obtain ⟨methM', cM, hmethM', hcodeM, -, hlocM, -, -, -, hsigM⟩ := Cond.code_spec hnamed hcode
  cases hmethM.symm.trans hmethM'
  obtain ⟨c2, r2, m2, q1, q2, q3, q4, kP, hkP, hkPi⟩ := Cond.selects_spec hsel
  cases hcls.symm.trans q1
  cases (State.methodFound?_of_named hnamed hy).symm.trans q2
  cases hnamed.symm.trans q3
  have hselP : selectMethod e.platform s.vm cellB.cls mk = .method mk := by rw [Launch.admits_selectMethod Z.admits]; exact q4
  obtain ⟨vm₁, X₁, hstep₁⟩ := Z.invokevirtual hx hown hlink hnamed hmethM hstM hkP hkPi hy (a := b) (cell := cellB) hcell
    (fun z h => by rw [h] at hobj; cases hobj) hselP hmethM habM hkP hkPi (g := g) hg (argsL := argsL) (rest := rest) (hlen _ hsigM) hstack hdg
  have hn1 := X₁.named hnamed
  have hW1 : s.WarmedH (T.setVm vm₁).vm := X₁.warmed
  have h : At (T.setVm vm₁) ({ g with stack := rest } : JFrame).method c below := by
    show At (T.setVm vm₁) g.method c below
    rw [hg]; exact X₁.here
  have hcodeU := hws _ hcw (Value.ref b :: argsL).toArray (T.setVm vm₁) hW1
  obtain ⟨methY, cY, hmY, hcY, -, hlY, -, -, -, -⟩ := Cond.code_spec hn1 hcodeU
  obtain ⟨kY, hkY, -⟩ := className_of_methodNamed hn1
  have hiniU : (Cond.initialized y.cls).before (Value.ref b :: argsL).toArray (T.setVm vm₁) = true := word_at hW1 (Or.inl rfl) hini
  have hinitY : kY.init = .initialized := Cond.initialized_spec (findClass_of_methodNamed hn1) hkY hiniU
  have h1 : (headSpec ws rm).pre.before (Value.ref b :: argsL).toArray (T.setVm vm₁) = true := atoms_intro fun w hw => hws w hw _ _ hW1
  have happ : (headSpec ws rm).appliesLoose y e.platform ((T.setVm vm₁).calling { g with stack := rest } mk (Value.ref b :: argsL).toArray) = true :=
    Spec.appliesLoose_calling (g := { g with stack := rest }) h hdg hn1 hkY hinitY
      (X₁.room_calling (g := { g with stack := rest }) (R' := rm) hsize hmY hcY hfr (by rw [hlY]; dsimp only; omega) hcl hsl) h1
  obtain ⟨mid, hmid⟩ := h.above
  have hfr2 : ((T.setVm vm₁).setTop { g with stack := rest }).frames = (.java { g with stack := rest } :: mid) ++ below := by rw [State.frames_setTop' { g with stack := rest } h.top, hmid]; rfl
  obtain ⟨o, s₂, hsteps, -, hend, hq⟩ := Steps.callFree hM p X₁.admits X₁.cas X₁.clock (acts := []) hfr2 happ (hblind _ _ { g with stack := rest } mk (hpre vm₁ X₁.warmed)) trivial
  rw [State.frames_setTop' { g with stack := rest } h.top] at hend
  obtain ⟨rfl, hW2, hsame, ce, hce1, hce2, hce3⟩ := hq
  obtain ⟨g₀, hgf⟩ := X₁.frames_eq
  have htail : (T.setVm vm₁).frames.tail = below := by rw [hgf]; rfl
  rw [htail] at hend
  obtain ⟨T', X2, hW3, hs3, ht⟩ := X₁.outOfThrown (g := { g with stack := rest }) hg (mk := mk) (a := (Value.ref b :: argsL).toArray) hend hW2 hsame
  have hheap : s₂.heap = T'.heap := by rw [ht]; exact throwing_heap T' { g with stack := rest } _
  refine ⟨T', by simpa using X2, ⟨vm₁, hs3⟩, ⟨ce, by rw [← hheap]; exact hce1, ?_, hce3⟩, fun target htg => hstep₁ _ fun acts => ?_⟩
  · have : (T.setVm vm₁).vm.findClass (jp_C (jp_nobj + ex)) = some ce.cls := hce2
    rw [← X₁.warmed.alike.findClass]
    exact this
  · rw [doInvoke_state]
    refine hsteps.trans ?_
    rw [ht]
    exact htg
end JM13
end
section
/-! THE PURE MACHINE, part 14: what the pure machine says of a method that throws -/
section JM14
variable {p : Program} {l : Launch} {e : Env} {R : Room} {s : State} {m : MethodId} {args : Array Value} {below : List Frame} {meth : Method} {c : Code} {H : Heap}
variable {D : va_G} {dA : Nat → ClassId} {base pc len : Nat} {sa : Nat → Nat} {X : jm_X} {M N : jm_M} {S S' : jm_S} {ls : Array Slot} {i : Instr} {lv : jm_L} {st : List Value}
/-- what a virtual call asks: the entry, the receiver, the stack -/
theorem jm_inv_v {as r : List Value} (hK : va_K D jCl (jm_tys dA) s) (h : jm_inv M i len st S = some (N, 0, as, r)) (hH : jm_H D jCl dA base sa S H) (hlim : S.1 ≤ jm_lim) :
    ∃ idx a, i = .invokevirtual idx ∧ len = 3 ∧ jp_M_P (jm_q M) idx (N, 0) ∧ as.map (jm_v base sa) = .ref (base + a) :: ((st.take (jm_n N)).reverse).map (jm_v base sa) ∧ st.map (jm_v base sa) = (((st.take (jm_n N)).reverse).map (jm_v base sa)).reverse ++ .ref (base + a) :: r.map (jm_v base sa) ∧
      (∃ cell : Cell, H[base + a]? = some cell ∧ cell.vm.isStatics = false ∧ s.vm.findClass N.1.cls = some cell.cls) ∧ ((st.take (jm_n N)).reverse.map (jm_v base sa)).length = jm_n N ∧ (r.map fun v => v.category).sum ≤ 8 ∧ (lg_sl as).length ≤ N.2.2.1 := by
  unfold jm_inv at h
  split at h
  · rename_i idx
    split at h
    · rename_i N' hN
      have hP := jp_M_ok _ _ _ hN
      split at h
      · rename_i a r' hdrop
        split at h
        · rename_i hcnd
          split at h
          · rename_i o ho
            split at h
            · rename_i ho1
              cases h
              have e2 : jm_v base sa (.ref a) = .ref (base + a) := congrArg Value.ref (jm_a_lo hcnd.1 hlim)
              refine ⟨idx, a, rfl, rfl, hP, by rw [List.map_cons, e2], ?_, ?_, ?_, hcnd.2.2.1, hcnd.2.2.2⟩
              · rw [← List.map_reverse, List.reverse_reverse]
                have e1 : st = st.take (jm_n N) ++ (.ref a :: r) := by rw [← hdrop]; exact (List.take_append_drop _ _).symm
                rw [← e2, ← List.map_cons, ← List.map_append, ← e1]
              · have hq := hP.1.2.2.2.2.2.2.2
                have hcls : jp_C o.1 = N.1.cls := by rw [ho1, ← jp_OC _ hcnd.2.1]; exact hq
                have hcl := (jp_cl o.1 (by rw [ho1]; exact Nat.lt_of_lt_of_le hcnd.2.1 (by decide))).1
                have hrec := va_recv hK (jm_one (hH.2 a hcnd.1)) (ci := o.1) (q0 := 0) hcl (by rw [ho]; rfl)
                rw [hcls] at hrec
                exact hrec
              · have : jm_n N ≤ st.length := by
                  rcases Nat.lt_or_ge (jm_n N) st.length with z | z
                  · omega
                  · rw [List.drop_eq_nil_of_le z] at hdrop; cases hdrop
                simp [Nat.min_eq_left this]
            · cases h
          · cases h
        · cases h
      · cases h
    · cases h
  · split at h
    · split at h
      · rename_i hcnd
        cases h
        rcases hcnd.1 with h1 | h1 <;> cases h1
      · cases h
    · cases h
  · split at h
    · split at h
      · split at h
        · rename_i hcnd
          cases h
          rcases hcnd.1 with h1 | h1 <;> cases h1
        · cases h
      · cases h
    · cases h
  · cases h
/-- a virtual call of a method that throws, at any point of a walk -/
theorem jm_thrown {d ex : Nat} {as r : List Value} {T : State} {locs : List Loc} {cells slots : Nat} (hfl : l.flags = pinnedFlags ++ [noTraceFlag]) (C : jm_ctx p s m args meth c D dA base sa X M) (hd : decode M.2.1 pc = .ok (i, len)) (h : jm_inv M i len st S = some (N, 0, as, r)) (hH : jm_H D jCl dA base sa S T.heap) (hS : va_S (fun q => base ≤ q) s.heap T.heap locs) (hl : lv_has ls M.2.2.1 (jm_lv base sa lv)) (hlim : S.1 ≤ jm_lim) (hfr : d + 1 ≤ R.frames) (hlo : (d + 1) * 64 ≤ R.locals) (hc : cells + 1 ≤ R.cells) (hsl : slots + 6 ≤ R.slots)
    (body : jm_goesT X N d 0 (lv_args 0 as) [] S ex) (Z : Stand p l e R s m args below meth c T locs cells slots) :
    ∃ T' : State, Stand p l e R s m args below meth c T' locs (cells + 1) (slots + 6) ∧ (∃ vm₁ : Vm, (T.setVm vm₁).sameButNew (T'.setVm vm₁) [] 1 6) ∧ (∃ ce : Cell, T'.heap[T.heap.size]? = some ce ∧ s.vm.findClass (jp_C (jp_nobj + ex)) = some ce.cls ∧ ce.vm = .none) ∧
      ∀ target, Steps p.tables e below ((T'.setTop (F0 m pc ls (r.map (jm_v base sa)))).pushFrame (.throwing T.heap.size)) target → Steps p.tables e below (T.setTop (F0 m pc ls (st.map (jm_v base sa)))) target := by
  obtain ⟨hx, hb, hml, hown, hts, hnn, hK, hst, hini, hlk⟩ := C
  obtain ⟨idx, a, rfl, rfl, ⟨hok, hl1, hl2, hl3⟩, eas, est, ⟨cell, r1, r2, r3⟩, hn, hcat, hlen⟩ := jm_inv_v (base := base) (sa := sa) hK h hH hlim
  have hok : jm_mok N := hok
  have hM := jm_metT l hfl X hok as hlen hlim body D dA base sa
  refine jm_callT Z hx (C := N.1.cls) (bytes := N.2.1) (maxL := N.2.2.1) (ret := N.2.2.2.1) hown (hts _ hl1) (hts _ hl2) (hts _ hl3) (hts _ hok.1) (hts _ hok.2.1) hok.2.2.2.1 hM (jm_pre_blind D dA base sa X S _) (pay_in hts (jm_good hok)) List.mem_cons_self hfr (by
      have h40 := hok.2.2.2.2.2.1
      show 8 + (N.2.2.1 + 11) + d * 64 ≤ R.locals
      omega) hc hsl r1 r2 r3 (g := F0 m pc ls (st.map (jm_v base sa))) rfl (by rw [hml]; exact hl.1) (argsL := (st.take (jm_n N)).reverse.map (jm_v base sa)) (rest := r.map (jm_v base sa)) ?_ est (by rw [jm_cats]; show 2 * 0 + _ ≤ 8; omega) (by rw [hb]; exact hd) ?_
  · intro sig hsig
    have h2 := hok.2.2.2.2.1
    rw [hsig] at h2
    rw [hn]
    exact (Option.some.inj h2).symm
  · intro vm₁ hW
    refine ⟨by rw [eas], hH, va_K.moved (u := s) (U := T.setVm vm₁) hW.alike hK, hnn.go (U := T.setVm vm₁) hW, hst.go (U := T.setVm vm₁) hW.alike (fun q h1 h2 => hS.2.1 q h1 h2)⟩
end JM14
theorem jm_thw_ok (X : jm_X) : ∀ (n d : Nat) (M : jm_M) (pc : Nat) (lv : jm_L) (st : List Value) (S : jm_S) (ex : Nat), jm_thw X n d M pc lv st S = some ex → jm_goesT X M d pc lv st S ex := by
  intro n
  induction n with
  | zero => intro d M pc lv st S ex h; cases h
  | succ n ih =>
    intro d M pc lv st S ex h
    intro p l e R s m args below meth c D dA base sa ls hfl C hno hH hl hlim hfr hlo hc hs
    unfold jm_thw at h
    split at h
    · cases h
    · rename_i i len hd
      split at h
      · rename_i q hq
        obtain ⟨pc1, lv1, st1⟩ := q
        exact jm_rst_ok C hd hq hH hl hlim (fun ls1 h1 => ih d M pc1 lv1 st1 S ex h p l e R s m args below meth c D dA base sa ls1 hfl C hno hH h1 hlim hfr hlo hc hs)
      · split at h
        · rename_i ex' hex
          split at h
          · rename_i hcnd
            cases h
            exact jm_thr_ok C hfl hno hd hex hl (by omega) (by omega) hcnd.2.1 hc hs
          · cases h
        · split at h
          · rename_i q hq
            obtain ⟨N, f, as, r⟩ := q
            split at h
            · rename_i hf
              dsimp only at hf
              subst hf
              match d, h, hfr, hlo with
              | 0, h, _, _ => cases h
              | d' + 1, h, hfr, hlo =>
                intro T hT Z
                have hout : ∀ x ∈ c.exceptionTable.toList, covers x pc = false := by
                  intro x hxx
                  have : c.exceptionTable = #[] := by simpa using hno
                  rw [this] at hxx
                  simp at hxx
                obtain ⟨T', X2, -, ⟨ce, c1, c2, c3⟩, hst⟩ := jm_thrown (T := T) hfl C hd hq (by rw [hT]; exact hH) (by rw [hT]; exact va_S.rf) hl hlim hfr hlo (by omega) (by omega) (ih d' N 0 _ [] S ex h) Z
                rw [hT] at c1 hst
                obtain ⟨l1, l2, l3, l4, l5⟩ := X2.leaveThrown s.heap.size (g := F0 m pc ls (r.map (jm_v base sa))) rfl rfl rfl hout C.2.2.2.2.2.2.2.2.2
                refine ⟨_, hst _ l1, l2, l3, l4, by simpa using l5, ce, c1, c2, c3⟩
            · cases h
          · cases h
end
section
/-! THE PURE MACHINE, part 15: the law's own catches (a catch's class is resolved when it is first asked for) -/
/-- the search as it goes where the class is still to be resolved: as from the tables that resolution leaves -/
theorem jm_go_cold {E : CtlPost} {e : Env} {d : Bool} {acts : List Action} {s : State} {f : JFrame} {a : Addr} {Q : Handler → Pre} {x : ExceptionTableEntry} {t : List ExceptionTableEntry} {c : ClassId} {vm' : Vm} (hx : covers x f.pc = true) (h0 : x.catchType ≠ 0)
    (hg : (Jvm.resolveClass f.method.cls x.catchType).Gives e.toSetting s.vm (.ok c) vm') (hr : vm'.classReady f.method.cls x.catchType c) (hsz : vm'.classes.size ≤ s.vm.classes.size) :
    wp (findHandler.go f a (x :: t)) Q E e d acts s ↔ wp (findHandler.go f a (x :: t)) Q E e d acts (s.setVm vm') := by
  obtain ⟨ha, ht⟩ := hg.op (op := VmOp.resolveClass f.method.cls x.catchType) rfl
  obtain ⟨k, hkd, hres⟩ := hr
  simp only [covers] at hx
  simp [findHandler.go, hx, h0, ha, ht, hsz, resolveClass_memo e hkd hres, VmOp.dirties, VmOp.acts]
  exact Iff.rfl
/-- where a table of handlers sends an exception of the number ex, thrown at pc -/
def jm_find : List (Nat × Nat × Nat × Nat) → Nat → Nat → Option Nat
  | [], _, _ => none
  | x :: r, pc, ex => if x.1 ≤ pc ∧ pc < x.2.1 then (match jp_Lx x.2.2.2 with
    | some ex' => if ex' = ex then some x.2.2.1 else jm_find r pc ex
    | none => none) else jm_find r pc ex
theorem jm_find_ok {e : Env} {s : State} {m : MethodId} {args : Array Value} (hpl : e.platform.magicAccessors = ({} : Platform).magicAccessors) (hown : s.vm.findClass "WhilePressLaw" = some m.cls) (hts : ∀ w ∈ jw, w.before args s = true) (hnn : jm_nst s) {f : JFrame} (hf : f.method = m) {a : Addr} {U : State} {ex hp : Nat} (hex : ex < 3) {ce : Cell} (hce : U.heap[a]? = some ce) (hcls : s.vm.findClass (jp_C (jp_nobj + ex)) = some ce.cls) (hvm : ce.vm = .none) :
    ∀ (L : List ExceptionTableEntry), jm_find (L.map fun h => (h.startPc, h.endPc, h.handlerPc, h.catchType)) f.pc ex = some hp → ∀ vm : Vm, s.WarmedH vm →
      ∃ vm' : Vm, s.WarmedH vm' ∧ ∀ (Q : Handler → Pre) (E : CtlPost) (d : Bool) (acts : List Action), wp (findHandler.go f a L) Q E e d acts (U.setVm vm) ↔ Q (.found hp) d acts (U.setVm vm') := by
  intro L
  induction L with
  | nil => intro h; cases h
  | cons x t ih =>
    intro h vm hW
    rw [List.map_cons] at h
    unfold jm_find at h
    dsimp only at h
    split at h
    · rename_i hcov
      have hcov' : covers x f.pc = true := by simp [covers, hcov.1, hcov.2]
      split at h
      · rename_i ex' hX
        obtain ⟨hex', hlink, h0⟩ := jp_Lx_ok _ _ hX
        obtain ⟨c, hfc, hcl⟩ := Cond.classLink_spec hown (hts _ hlink) e.platform hpl
        obtain ⟨hg₁, hwarm₁, hready₁⟩ := State.classEntry (e := e) hW hcl
        rw [← hf] at hg₁ hwarm₁ hready₁
        have hsz : (vm.noted f.method.cls x.catchType (.cls c)).classes.size ≤ (U.setVm vm).vm.classes.size := by
          show _ ≤ vm.classes.size
          exact Vm.Alike.size_le (hW.alike.symm.trans hwarm₁.alike)
        generalize vm.noted f.method.cls x.catchType (.cls c) = vm₁ at hg₁ hwarm₁ hready₁ hsz
        have hcell : (U.setVm vm₁).heap[a]? = some ce := hce
        have hobj : ∀ k, ce.vm ≠ .statics k := fun k hk => by rw [hvm] at hk; cases hk
        have hk1 : ∃ k, (U.setVm vm₁).vm.classes[ce.cls]? = some k := by
          show ∃ k, vm₁.classes[ce.cls]? = some k
          exact Vm.classAt_of_findClass (by rw [hwarm₁.alike.findClass]; exact hcls)
        have hk2 : ∃ k, (U.setVm vm₁).vm.classes[c]? = some k := by
          show ∃ k, vm₁.classes[c]? = some k
          exact Vm.classAt_of_findClass (by rw [hwarm₁.alike.findClass]; exact hfc)
        split at h
        · rename_i heq
          cases h
          have hcc : c = ce.cls := by
            rw [heq] at hfc
            exact Option.some.inj (hfc.symm.trans hcls)
          have hass : (U.setVm vm₁).vm.assignable ce.cls c = true := by
            show vm₁.assignable ce.cls c = true
            rw [hwarm₁.alike.assignable]
            have hcast : Cond.castable (jp_C (jp_nobj + ex)) (jp_C (jp_nobj + ex)) ∈ jn := by
              match ex, hex with
              | 0, _ => decide +kernel
              | 1, _ => decide +kernel
              | 2, _ => decide +kernel
              | k + 3, h => exact absurd h (by omega)
            obtain ⟨c1, t1, g1, g2, g3⟩ := Cond.castable_spec (va_Nw.use (A := args) rfl (hnn.1 _ hcast))
            cases Option.some.inj (g1.symm.trans hcls)
            cases Option.some.inj (g2.symm.trans hcls)
            rw [hcc]
            exact g3
          refine ⟨vm₁, hwarm₁, fun Q E d acts => ?_⟩
          rw [jm_go_cold (s := U.setVm vm) hcov' h0 hg₁ hready₁ hsz]
          show wp (findHandler.go f a (x :: t)) Q E e d acts (U.setVm vm₁) ↔ _
          rw [W.findHandler_go_class (s := U.setVm vm₁) hcov' h0 hready₁ hcell hobj hk1 hk2, if_pos hass]
        · rename_i hne
          obtain ⟨vm', w1, w2⟩ := ih h vm₁ hwarm₁
          refine ⟨vm', w1, fun Q E d acts => ?_⟩
          have hass : (U.setVm vm₁).vm.assignable ce.cls c = false := by
            show vm₁.assignable ce.cls c = false
            rw [hwarm₁.alike.assignable]
            have hmem : (jp_C (jp_nobj + ex), jp_C (jp_nobj + ex')) ∈ jnc := by
              match ex, hex, ex', hex', hne with
              | 0, _, 0, _, hne => exact absurd rfl hne
              | 0, _, 1, _, _ => decide +kernel
              | 0, _, 2, _, _ => decide +kernel
              | 1, _, 0, _, _ => decide +kernel
              | 1, _, 1, _, hne => exact absurd rfl hne
              | 1, _, 2, _, _ => decide +kernel
              | 2, _, 0, _, _ => decide +kernel
              | 2, _, 1, _, _ => decide +kernel
              | 2, _, 2, _, hne => exact absurd rfl hne
              | k + 3, h, _, _, _ => exact absurd h (by omega)
              | _, _, k + 3, h, _ => exact absurd h (by omega)
            obtain ⟨c1, t1, g1, g2, g3⟩ := hnn.2.2 _ hmem
            cases Option.some.inj (g1.symm.trans hcls)
            cases Option.some.inj (g2.symm.trans hfc)
            exact g3
          rw [jm_go_cold (s := U.setVm vm) hcov' h0 hg₁ hready₁ hsz]
          show wp (findHandler.go f a (x :: t)) Q E e d acts (U.setVm vm₁) ↔ _
          rw [W.findHandler_go_class (s := U.setVm vm₁) hcov' h0 hready₁ hcell hobj hk1 hk2, if_neg (by rw [hass]; decide)]
          exact w2 Q E d acts
      · cases h
    · rename_i hcov
      obtain ⟨vm', w1, w2⟩ := ih h vm hW
      refine ⟨vm', w1, fun Q E d acts => ?_⟩
      rw [W.findHandler_go_skip (by
        have : ¬ (x.startPc ≤ f.pc ∧ f.pc < x.endPc) := hcov
        simp only [covers, Bool.and_eq_false_iff, decide_eq_false_iff_not]
        omega)]
      exact w2 Q E d acts
end
section
/-! THE PURE MACHINE, part 16: the law's wrappers (methods with handlers) -/
theorem jm_stepV {e : Env} {s : State} {a : Addr} {f : JFrame} {r : List Frame} {pc : Nat} {vm' : Vm} (hfind : ∀ (Q : Handler → Pre) (E : CtlPost) (d : Bool) (acts : List Action), wp (findHandler f a) Q E e d acts s ↔ Q (.found pc) d acts (s.setVm vm')) :
    (stepThrowing e s a (.java f :: r)).Is ((s.setVm vm').setFrames (.java { f with pc := pc, stack := [.ref a] } :: r)) [] := by
  simp only [stepThrowing, searchFrame, vmDo]
  generalize hr : Sem.go _ e false [] s = res
  obtain ⟨as, rfl, ha⟩ := Sem.eq_ok_of hr (a := Handler.found pc) (s' := s.setVm vm') (acts' := []) (by simp [hfind _ _ _ _])
  exact ⟨rfl, ha⟩
theorem jm_caughtV {tb : Tables} {e : Env} {s target : State} {g : JFrame} {c : Code} {below : List Frame} {a : Addr} {pc : Nat} {vm' : Vm} (h : At s g.method c below)
    (hfind : ∀ (Q : Handler → Pre) (E : CtlPost) (d : Bool) (acts : List Action), wp (findHandler g a) Q E e d acts ((s.setTop g).pushFrame (.throwing a)) ↔ Q (.found pc) d acts (((s.setTop g).pushFrame (.throwing a)).setVm vm'))
    (hrest : Steps tb e below ((s.setVm vm').setTop { g with pc := pc, stack := [.ref a] }) target) : Steps tb e below ((s.setTop g).pushFrame (.throwing a)) target := by
  obtain ⟨hgo, hw⟩ := h.throwing a
  refine Steps.head hgo hw ?_
  rw [stepThread_throwing (frames_entered h.top _), (jm_stepV (s := (s.setTop g).pushFrame (.throwing a)) hfind).1]
  obtain ⟨g₀, hg⟩ := Option.isSome_iff_exists.mp h.top
  obtain ⟨r, hr⟩ := State.topJava?_eq_some.mp hg
  have hr' : (s.setVm vm').frames = .java g₀ :: r := hr
  rw [State.setTop_of_frames _ hr'] at hrest
  rw [State.pushFrame, State.setTop_of_frames _ hr]
  have e1 : ((((s.setFrames (.java g :: r)).setFrames (.throwing a :: (s.setFrames (.java g :: r)).frames)).setVm vm').setFrames (.java { g with pc := pc, stack := [.ref a] } :: s.frames.tail)) = (s.setVm vm').setFrames (.java { g with pc := pc, stack := [.ref a] } :: r) := by
    show ((((s.setFrames (.java g :: r)).setFrames (.throwing a :: (s.setFrames (.java g :: r)).frames)).setFrames (.java { g with pc := pc, stack := [.ref a] } :: s.frames.tail)).setVm vm') = (s.setFrames (.java { g with pc := pc, stack := [.ref a] } :: r)).setVm vm'
    rw [State.setFrames_setFrames, State.setFrames_setFrames, hr]
    rfl
  rw [e1]
  exact hrest
def jm_hh (c : Code) (hh : List (Nat × Nat × Nat × Nat)) : Prop := c.exceptionTable.toList.map (fun h => (h.startPc, h.endPc, h.handlerPc, h.catchType)) = hh
/-- a walk of a method with handlers returns -/
def jm_goesW (X : jm_X) (M : jm_M) (hh : List (Nat × Nat × Nat × Nat)) (d pc : Nat) (lv : jm_L) (st : List Value) (S : jm_S) (v : Option Value) (S' : jm_S) (k n : Nat) : Prop :=
  ∀ (p : Program) (l : Launch) (e : Env) (R : Room) (s : State) (m : MethodId) (args : Array Value) (below : List Frame) (meth : Method) (c : Code) (D : va_G) (dA : Nat → ClassId) (base : Nat) (sa : Nat → Nat) (H : Heap) (locs : List Loc) (cells slots : Nat) (ls : Array Slot) (Q : State → Prop),
    l.flags = pinnedFlags ++ [noTraceFlag] → jm_hh c hh → jm_ctx p s m args meth c D dA base sa X M → jm_H D jCl dA base sa S H → va_S (fun q => base ≤ q) s.heap H locs → lv_has ls M.2.2.1 (jm_lv base sa lv) → S.1 ≤ jm_lim → d ≤ R.frames → d * 64 ≤ R.locals → cells + k ≤ R.cells → slots + n ≤ R.slots →
    jm_hret p l e R s m args below meth c D dA base sa M v S' (cells + k) (slots + n) Q → W p l e R s m args below meth c H locs cells slots Q (F0 m pc ls (st.map (jm_v base sa)))
theorem jm_goes.w {X : jm_X} {M : jm_M} {d pc : Nat} {lv : jm_L} {st : List Value} {S : jm_S} {v : Option Value} {S' : jm_S} {k n : Nat} (h : jm_goes X M d pc lv st S v S' k n) (hh : List (Nat × Nat × Nat × Nat)) : jm_goesW X M hh d pc lv st S v S' k n :=
  fun p l e R s m args below meth c D dA base sa H locs cells slots ls Q _ _ => h p l e R s m args below meth c D dA base sa H locs cells slots ls Q
/-- the call in a wrapper throws, a handler takes it -/
def jm_catch (X : jm_X) (hh : List (Nat × Nat × Nat × Nat)) : Nat → Nat → jm_M → Nat → jm_L → List Value → jm_S → Option jm_O
  | 0, _, _, _, _, _, _ => none
  | n + 1, d, M, pc, lv, st, S => match decode M.2.1 pc with
    | .error _ => none
    | .ok (i, len) => match jm_rst X M i len pc lv st S with
      | some q => jm_catch X hh n d M q.1 q.2.1 q.2.2 S
      | none => match jm_inv M i len st S with
        | some q => if q.2.1 = 0 ∧ S.1 < jm_lim ∧ jm_q M = 13 then (match d with
          | 0 => none
          | d' + 1 => match jm_thw X n d' q.1 0 (lv_args 0 q.2.2.1) [] S with
            | some ex => if ex < 3 then (match jm_find hh pc ex with
              | some hp => jm_more 1 6 (jm_run X n (d' + 1) M hp lv [.ref S.1] (jm_add S (.inr (jp_nobj + ex, []))))
              | none => none) else none
            | none => none) else none
        | none => none
/-- the call in a wrapper throws, a handler takes it, and its walk returns -/
theorem jgW_catch {X : jm_X} {hh : List (Nat × Nat × Nat × Nat)} {d' pc hp len ex k j : Nat} {M N : jm_M} {lv : jm_L} {st as r : List Value} {S S' : jm_S} {v : Option Value} {i : Instr} (hd : decode M.2.1 pc = .ok (i, len)) (hq : jm_inv M i len st S = some (N, 0, as, r)) (hlt : S.1 < jm_lim) (hq13 : jm_q M = 13) (hex3 : ex < 3) (hfind : jm_find hh pc ex = some hp)
    (hbody : jm_goesT X N d' 0 (lv_args 0 as) [] S ex) (hrun : jm_goes X M (d' + 1) hp lv [.ref S.1] (jm_add S (.inr (jp_nobj + ex, []))) v S' k j) : jm_goesW X M hh (d' + 1) pc lv st S v S' (1 + k) (6 + j) := by
  intro p l e R s m args below meth c D dA base sa H locs cells slots ls Q hfl hhh C hH hS hl hlim hfr hlo hc hs hret
  intro T hT Z
  obtain ⟨T', X2, ⟨vm₁, hsame⟩, ⟨ce, c1, c2, c3⟩, hst⟩ := jm_thrown (T := T) hfl C hd hq (by rw [hT]; exact hH) (by rw [hT]; exact hS) hl hlim hfr hlo (by omega) (by omega) hbody Z
  have hTs : T.heap.size = base + S.1 := by rw [hT]; exact hH.1
  have hown13 : s.vm.findClass "WhilePressLaw" = some m.cls := by
    have := C.2.2.2.1
    rw [hq13] at this
    exact this
  have hpl : e.platform.magicAccessors = ({} : Platform).magicAccessors := by rw [Z.admits.platform]
  have hU : ((T'.setTop (F0 m pc ls (r.map (jm_v base sa)))).pushFrame (.throwing T.heap.size)).heap[T.heap.size]? = some ce := by
    rw [Stand.throwing_heap]
    exact c1
  obtain ⟨vm', w1, w2⟩ := jm_find_ok (U := (T'.setTop (F0 m pc ls (r.map (jm_v base sa)))).pushFrame (.throwing T.heap.size)) hpl hown13 C.2.2.2.2.1 C.2.2.2.2.2.1 (f := F0 m pc ls (r.map (jm_v base sa))) rfl hex3 hU c2 c3 c.exceptionTable.toList (by rw [hhh]; exact hfind) T'.vm X2.warmed
  have hfd : ∀ (Q : Handler → Pre) (E : CtlPost) (d : Bool) (acts : List Action), wp (findHandler (F0 m pc ls (r.map (jm_v base sa))) T.heap.size) Q E e d acts ((T'.setTop (F0 m pc ls (r.map (jm_v base sa)))).pushFrame (.throwing T.heap.size)) ↔ Q (.found hp) d acts (((T'.setTop (F0 m pc ls (r.map (jm_v base sa)))).pushFrame (.throwing T.heap.size)).setVm vm') := by
    intro Q E d acts
    rw [W.findHandler_eq (meth := meth) (code := c) (by rw [Stand.throwing_vm]; exact X2.method') X2.code]
    have := w2 Q E d acts
    have e9 : ((T'.setTop (F0 m pc ls (r.map (jm_v base sa)))).pushFrame (.throwing T.heap.size)).setVm T'.vm = (T'.setTop (F0 m pc ls (r.map (jm_v base sa)))).pushFrame (.throwing T.heap.size) := by
      have e8 := Stand.throwing_vm T' (F0 m pc ls (r.map (jm_v base sa))) T.heap.size
      rw [← e8]
      rfl
    rw [e9] at this
    exact this
  have X3 := X2.noted w1
  obtain ⟨-, z1, z2, -, -, z6⟩ := hsame
  have hsz1 : T'.heap.size = base + S.1 + 1 := by
    have q1 : T.heap.size < T'.heap.size := (Array.getElem?_eq_some_iff.mp c1).1
    have q2 : T'.heap.size ≤ T.heap.size + 1 := z2
    omega
  have hold : ∀ q, q < base + S.1 → T'.heap[q]? = T.heap[q]? := by
    intro q hq
    have hq' : q < T.heap.size := by omega
    obtain ⟨cc, hcc⟩ : ∃ cc, T.heap[q]? = some cc := ⟨_, Array.getElem?_eq_getElem hq'⟩
    obtain ⟨c', y1, y2, y3, y4⟩ := z6 q cc hcc
    have hsl : c'.slots = cc.slots := Array.ext_getElem? fun i => y4 i (by simp)
    rw [hsl] at y2
    rw [hcc]
    rw [y2] at y1
    exact y1
  have hcl16 := (jp_cl (jp_nobj + ex) (by show 13 + ex < 16; omega)).1
  have hcC := (C.2.2.2.2.2.2.1.1 _ _ hcl16).2.1
  have hN0 : jp_N (jp_nobj + ex) = 0 := by
    match ex, hex3 with
    | 0, _ => rfl
    | 1, _ => rfl
    | 2, _ => rfl
    | k + 3, h => exact absurd h (by omega)
  have hH2 : jm_H D jCl dA base sa (jm_add S (.inr (jp_nobj + ex, []))) T'.heap := by
    refine hH.add hsz1 (fun q hq => by rw [hold q hq, hT]) ?_
    refine ⟨_, hcl16, ce, by rw [← hTs]; exact c1, ?_, c3, ?_⟩
    · exact Option.some.inj (c2.symm.trans hcC)
    · intro k hk
      rw [hN0] at hk
      exact absurd hk (Nat.not_lt_zero k)
  have hS2 : va_S (fun q => base ≤ q) s.heap T'.heap locs := by
    refine ⟨Nat.le_trans hS.1 (by rw [hsz1, ← hH.1]; omega), fun q h1 h2 => ?_, hS.2.2⟩
    rw [hold q (by have : ¬ base ≤ q := h2; omega), hT]
    exact hS.2.1 q h1 h2
  have w := hrun p l e R s m args below meth c D dA base sa T'.heap locs (cells + 1) (slots + 6) ls Q C hH2 hS2 hl hlt hfr hlo (by omega) (by omega) (by rw [Nat.add_assoc, Nat.add_assoc]; exact hret)
  obtain ⟨t, a1, b1⟩ := w (T'.setVm vm') rfl X3
  refine ⟨t, hst t (jm_caughtV (c := c) X2.here hfd ?_), b1⟩
  have e7 : jm_a base sa S.1 = T.heap.size := by rw [hTs]; exact if_pos hlt
  have a1' : Steps p.tables e below ((T'.setVm vm').setTop (F0 m hp ls [.ref (jm_a base sa S.1)])) t := a1
  rw [e7] at a1'
  exact a1'
theorem jm_catch_ok (X : jm_X) (hh : List (Nat × Nat × Nat × Nat)) : ∀ (n d : Nat) (M : jm_M) (pc : Nat) (lv : jm_L) (st : List Value) (S : jm_S) (v : Option Value) (S' : jm_S) (k j : Nat), jm_catch X hh n d M pc lv st S = some (0, v, S', k, j) → jm_goesW X M hh d pc lv st S v S' k j := by
  intro n
  induction n with
  | zero => intro d M pc lv st S v S' k j h; cases h
  | succ n ih =>
    intro d M pc lv st S v S' k j h
    intro p l e R s m args below meth c D dA base sa H locs cells slots ls Q hfl hhh C hH hS hl hlim hfr hlo hc hs hret
    unfold jm_catch at h
    split at h
    · cases h
    · rename_i i len hd
      split at h
      · rename_i q hq
        obtain ⟨pc1, lv1, st1⟩ := q
        exact jm_rst_ok C hd hq hH hl hlim (fun ls1 h1 => ih d M pc1 lv1 st1 S v S' k j h p l e R s m args below meth c D dA base sa H locs cells slots ls1 Q hfl hhh C hH hS h1 hlim hfr hlo hc hs hret)
      · split at h
        · rename_i q hq
          obtain ⟨N, f, as, r⟩ := q
          split at h
          · rename_i hcnd
            obtain ⟨hf, hlt, hq13⟩ := hcnd
            dsimp only at hf
            subst hf
            match d, h, hfr, hlo with
            | 0, h, _, _ => cases h
            | d' + 1, h, hfr, hlo =>
              dsimp only at h
              split at h
              · rename_i ex hex
                split at h
                · rename_i hex3
                  split at h
                  · rename_i hp hfind
                    obtain ⟨a', b', h1, rfl, rfl⟩ := jm_more_some h
                    exact jgW_catch hd hq hlt hq13 hex3 hfind (jm_thw_ok X n d' N 0 _ [] S ex hex) (jm_run_ok X n (d' + 1) M hp lv [.ref S.1] (jm_add S (.inr (jp_nobj + ex, []))) v S' a' b' h1) p l e R s m args below meth c D dA base sa H locs cells slots ls Q hfl hhh C hH hS hl hlim hfr hlo hc hs hret
                  · cases h
                · cases h
              · cases h
          · cases h
        · cases h
end
section
/-! THE PURE MACHINE, part 17: calls of wrappers; the law's own run -/
def jm_wsW (r : jm_M × jm_Hh) : List Cond := Cond.codeWith r.1.1 r.1.2.1 r.1.2.2.1 r.1.2.2.2.1 r.2 :: jw
theorem jm_goodW {r : jm_M × jm_Hh} (h : jm_mokW r) : GoodIn jw (jm_wsW r) := by
  intro w hw
  have hm : w ∈ jw := by
    rcases List.mem_cons.mp hw with rfl | hw
    · exact h.1
    · exact hw
  exact ⟨hm, jw_good w hm⟩
theorem jm_metW (l : Launch) (hfl : l.flags = pinnedFlags ++ [noTraceFlag]) (X : jm_X) {N : jm_M × jm_Hh} (hok : jm_mokW N) (as : List Value) (hlen : (lg_sl as).length ≤ N.1.2.2.1) {d k n : Nat} {v : Option Value} {S S' : jm_S} (hlim : S.1 ≤ jm_lim) (body : jm_goesW X N.1 N.2 d 0 (lv_args 0 as) [] S v S' k n) (D : va_G) (dA : Nat → ClassId) (base : Nat) (sa : Nat → Nat) :
    Met l N.1.1 (jm_wsW N) (jm_room d k n) (va_Pc (as.map (jm_v base sa)) (jm_pre D dA base sa X S)) (jm_post D dA base sa v S') k n (fun q => base ≤ q) := by
  refine va_MetW (cc := N.1.2.1) (maxL := N.1.2.2.1) (ret := N.1.2.2.2.1) (hh := N.2) hok.2.2.1 rfl ?_
  intro p e s m args below meth c s₁ B hml hv
  obtain ⟨rfl, hH, hK, hn, hst⟩ := hv
  have hts := atoms_spec (ws := jm_wsW N) B.pre
  have hown : s.vm.findClass N.1.1.cls = some m.cls := findClass_of_methodNamed B.named
  have hlk := B.notSynchronized
  have hhh : jm_hh c N.2 := by
    obtain ⟨m9, meth9, c9, hn9, h1, h2, h3, h4, h5, -⟩ := Cond.codeWith_spec (hts _ List.mem_cons_self)
    cases B.named.symm.trans hn9
    cases B.method.symm.trans h1
    cases (Stand.of_body B).code.symm.trans h2
    exact h5
  have hl := lv_entry (as.map (jm_v base sa)) (n := N.1.2.2.1) (by rw [jm_sl_len]; exact hlen)
  rw [jm_args_eq] at hl
  rw [lg_entry_eq]
  refine body p l e _ s m _ below meth c D dA base sa s.heap [] 0 0 _ _ hfl hhh ⟨B.exec, B.bytes, hml, by rw [hok.2.2.2.2.2.2.2]; exact hown, fun w hw => hts w (List.mem_cons_of_mem _ hw), hn, hK, hst, fun h1 => ?_, hlk⟩ hH va_S.rf hl hlim (Nat.le_refl _) (Nat.le_refl _) (Nat.le_of_eq (Nat.zero_add _)) (Nat.le_of_eq (Nat.zero_add _)) ?_
  · rw [(name_of_methodNamed B.named B.method).1]
    exact hok.2.2.2.2.2.2.1 h1
  · intro H1 locs1 ls1 pc1 i1 len1 h1 h2 h3 hd hr
    rw [Nat.zero_add, Nat.zero_add]
    have hq : ∀ w : Option Value, w = v.map (jm_v base sa) → ∀ t : State, t.heap = H1 → s.WarmedH t.vm → jm_post D dA base sa v S' (as.map (jm_v base sa)).toArray s (.returned w) t := by
      intro w hw t ht hW
      exact ⟨by rw [hw], h3, by rw [ht]; exact h1, h2.F ht⟩
    have hret := B.returns
    unfold jm_ret at hr
    split at hr
    · rename_i e1 e2 e3 hvl
      cases hr
      exact W.iret B.exec B.bytes (by rw [hret, e3]) (hq _ rfl) h2.2.2 hd
    · rename_i e1 e2 e3 hvl
      split at hr
      · rename_i hx
        cases hr
        refine W.zret B.exec B.bytes (ty := .boolean) (by rw [hret, e3]) ?_ (hq _ rfl) h2.2.2 hd
        rcases hx with rfl | rfl <;> rfl
      · cases hr
    · rename_i e1 e2 e3 hvl
      cases hr
      exact W.lret B.exec B.bytes (by rw [hret, e3]) (hq _ rfl) h2.2.2 hd
    · rename_i e1 e2 e3 hvl
      cases hr
      exact W.vret B.exec B.bytes (by rw [hret, e3]) (hq _ rfl) h2.2.2 hd
    · cases hr
section JM17
variable {p : Program} {l : Launch} {e : Env} {R : Room} {s : State} {m : MethodId} {args : Array Value} {below : List Frame} {meth : Method} {c : Code} {H : Heap} {locs : List Loc} {cells slots : Nat} {Q : State → Prop}
/-- 'invokestatic' of a method with handlers -/
theorem jm_runSW {y : MethodName} {bytes cc : ByteArray} {maxL nL mc ms n index : Nat} {ret : Option FieldType} {hh : List (Nat × Nat × Nat × Nat)} {ws : List Cond} {rm : Room} {Pc : Array Value → State → Prop} {Qc : Array Value → State → Outcome → State → Prop} {free : Addr → Prop} {Ts : List Cond} {own : String} {As rest : List Value} {g : JFrame}
    (F : CallFix p m c cc nL s args Ts own) (hM : Met l y ws rm Pc Qc mc ms free) (hrc : rm.cells = mc) (hrs : rm.slots = ms) (hfr : rm.frames + 1 ≤ R.frames) (hlo : 8 + (maxL + 11) + rm.locals ≤ R.locals) (hws : ∀ w ∈ ws, ∀ (a' : Array Value) (U : State), s.WarmedH U.vm → w.before a' U = true) (hcw : Cond.codeWith y bytes maxL ret hh ∈ ws) (hcode : (Cond.codeWith y bytes maxL ret hh).before args s = true) (hini : (Cond.initialized y.cls).before args s = true) (hy : y.cls ≠ "java/lang/invoke/MethodHandle" ∧ y.cls ≠ "java/lang/invoke/VarHandle") (hlen : ∀ sig, parseMethodDescriptor y.desc = some sig → n = sig.parameters.length) (hl : (Cond.methodLink own index y).before args s = true) (hstt : (Cond.static y).before args s = true) (hp : PreS s H Pc As)
    (hg : g.method = m) (hn : As.length = n) (hsize : g.locals.size = nL) (hstack : g.stack = As.reverse ++ rest) (hW : 2 * g.monitorRoom + (rest.map fun v => v.category).sum ≤ 8) (hdg : decode cc g.pc = .ok (.invokestatic index, 3)) (hf : cells + mc ≤ R.cells ∧ slots + ms ≤ R.slots) :
    va_Run p l e R s m args below meth c H locs cells slots mc ms g rest (Qc As.toArray) (free) := by
  have hK : Back l R p e below s args y 3 8 (PreOf R mc ms Pc) (PostOf Qc mc ms free) := va_backW (bytes := bytes) (maxL := maxL) (ret := ret) (hh := hh) hM hp.1 hrc hrs hfr hlo hws hcw (fun a' U hW => word_at hW (Or.inl (by first | rfl | simp [Cond.onTables, Cond.keeps, Cond.steady])) hini)
  obtain ⟨hx, hb, hml, ho, -⟩ := F
  intro T hT Z
  obtain ⟨mk, methM, cM, hnamed, hmethM, hcM, -, -, -, -, -, hsigM⟩ := Cond.codeWith_spec hcode
  have hstatic : methM.isStatic = true := Cond.static_spec hnamed hmethM hstt
  obtain ⟨kP, hkP, -⟩ := className_of_methodNamed hnamed
  have hinitP : kP.init = .initialized := Cond.initialized_spec (findClass_of_methodNamed hnamed) hkP hini
  obtain ⟨vm₁, X₁, hstep₁⟩ := Z.invokestatic hx ho hl hnamed hmethM hstatic hkP hinitP hy (g := g) hg (argsL := As) (rest := rest) (hn.trans (hlen _ hsigM)) hstack (by rw [hb]; exact hdg)
  obtain ⟨v, ⟨U', l2, c2, s2⟩, X', ⟨g', mk', t, L, e1, e2, hq, h1, hL, h2, h3⟩, hsteps⟩ := hK m meth c ⟨T.setVm vm₁, locs, cells, slots⟩ { g with stack := rest } (.invokestatic index) mk As.toArray X₁ hg (hsize.trans hml.symm) (by rw [hb]; exact hdg) hW (X₁.named hnamed) ⟨hf.1, hf.2, hp.2 (T.setVm vm₁) hT X₁.warmed⟩
  dsimp only [Pt.U, Pt.locs, Pt.cells, Pt.slots] at X' e1 e2 h1 h2 h3 hsteps
  subst h1; subst h2; subst h3
  exact ⟨v, (T.setVm vm₁).calling g' mk' As.toArray, t, U', L, hT, X', hL, e1, e2, hq, fun target h => hstep₁ _ fun acts => by rw [doInvoke_state]; exact hsteps.trans h⟩
end JM17
end
section
/-! THE PURE MACHINE, part 18: the law's own run -/
/-- a wrapper: it returns, or its call throws and a handler takes that -/
def jm_wrp (X : jm_X) (n d : Nat) (N : jm_M × jm_Hh) (as : List Value) (S : jm_S) : Option jm_O := match jm_run X n d N.1 0 (lv_args 0 as) [] S with
  | some (0, v, S', k, j) => some (0, v, S', k, j)
  | _ => jm_catch X N.2 n d N.1 0 (lv_args 0 as) [] S
theorem jm_wrp_ok {X : jm_X} {n d : Nat} {N : jm_M × jm_Hh} {as : List Value} {S : jm_S} {v : Option Value} {S' : jm_S} {k j : Nat} (h : jm_wrp X n d N as S = some (0, v, S', k, j)) : jm_goesW X N.1 N.2 d 0 (lv_args 0 as) [] S v S' k j := by
  unfold jm_wrp at h
  split at h
  · rename_i hr
    cases h
    exact (jm_run_ok X n d N.1 0 _ [] S v S' k j hr).w N.2
  · exact jm_catch_ok X N.2 n d N.1 0 _ [] S v S' k j h
/-- a call of a wrapper -/
def jm_winv (M : jm_M) (i : Instr) (len : Nat) (st : List Value) : Option ((jm_M × jm_Hh) × List Value × List Value) := match i, len with
  | .invokestatic idx, 3 => if jm_q M = 13 then (match jp_V idx with
    | some N => if jm_n N.1 ≤ st.length ∧ ((st.drop (jm_n N.1)).map fun v => v.category).sum ≤ 8 ∧ (lg_sl (st.take (jm_n N.1)).reverse).length ≤ N.1.2.2.1 then some (N, (st.take (jm_n N.1)).reverse, st.drop (jm_n N.1)) else none
    | none => none) else none
  | _, _ => none
def jm_law (X : jm_X) : Nat → Nat → jm_M → Nat → jm_L → List Value → jm_S → Option jm_O
  | 0, _, _, _, _, _, _ => none
  | n + 1, d, M, pc, lv, st, S => match decode M.2.1 pc with
    | .error _ => none
    | .ok (i, len) => match jm_step X M i len pc lv st S with
      | some q => jm_more q.2.2.2.2.1 q.2.2.2.2.2 (jm_law X n d M q.1 q.2.1 q.2.2.1 q.2.2.2.1)
      | none => match jm_ret i len M.2.2.2.1 st with
        | some v => some (0, v, S, 0, 0)
        | none => match jm_winv M i len st with
          | some q => (match d with
            | 0 => none
            | d' + 1 => match jm_wrp X n d' q.1 q.2.1 S with
              | some r => (match r.1 with
                | 0 => jm_more r.2.2.2.1 r.2.2.2.2 (jm_law X n (d' + 1) M (pc + 3) lv (r.2.1.toList ++ q.2.2) r.2.2.1)
                | _ => none)
              | none => none)
          | none => match jm_inv M i len st S with
            | some q => (match d with
              | 0 => none
              | d' + 1 => match jm_run X n d' q.1 0 (lv_args 0 q.2.2.1) [] S with
                | some r => (match r.1 with
                  | 0 => jm_more r.2.2.2.1 r.2.2.2.2 (jm_law X n (d' + 1) M (pc + 3) lv (r.2.1.toList ++ q.2.2.2) r.2.2.1)
                  | _ => none)
                | none => none)
            | none => none
section JM18
variable {p : Program} {l : Launch} {e : Env} {R : Room} {s : State} {m : MethodId} {args : Array Value} {below : List Frame} {meth : Method} {c : Code} {H : Heap} {locs : List Loc} {cells slots : Nat} {Q : State → Prop}
variable {D : va_G} {dA : Nat → ClassId} {base pc len : Nat} {sa : Nat → Nat} {X : jm_X} {M : jm_M} {N : jm_M × jm_Hh} {S S' : jm_S} {ls : Array Slot} {i : Instr} {lv : jm_L} {st : List Value}
theorem jm_winv_ok {d k n : Nat} {as r : List Value} {v : Option Value} (hfl : l.flags = pinnedFlags ++ [noTraceFlag]) (C : jm_ctx p s m args meth c D dA base sa X M) (hd : decode M.2.1 pc = .ok (i, len)) (h : jm_winv M i len st = some (N, as, r)) (hH : jm_H D jCl dA base sa S H) (hS : va_S (fun q => base ≤ q) s.heap H locs) (hl : lv_has ls M.2.2.1 (jm_lv base sa lv)) (hlim : S.1 ≤ jm_lim) (hfr : d + 1 ≤ R.frames) (hlo : (d + 1) * 64 ≤ R.locals) (hc : cells + k ≤ R.cells) (hsl : slots + n ≤ R.slots)
    (body : jm_goesW X N.1 N.2 d 0 (lv_args 0 as) [] S v S' k n)
    (kk : ∀ (H1 : Heap) (locs1 : List Loc), S'.1 ≤ jm_lim → jm_H D jCl dA base sa S' H1 → va_S (fun q => base ≤ q) s.heap H1 locs1 → W p l e R s m args below meth c H1 locs1 (cells + k) (slots + n) Q (F0 m (pc + 3) ls ((v.toList ++ r).map (jm_v base sa)))) : W p l e R s m args below meth c H locs cells slots Q (F0 m pc ls (st.map (jm_v base sa))) := by
  obtain ⟨hx, hb, hml, hown, hts, hnn, hK, hst, hini, hlk⟩ := C
  have kk2 : ∀ (H1 : Heap) (locs1 : List Loc), S'.1 ≤ jm_lim → jm_H D jCl dA base sa S' H1 → va_S (fun q => base ≤ q) s.heap H1 locs1 → W p l e R s m args below meth c H1 locs1 (cells + k) (slots + n) Q (F0 m (pc + 3) ls ((v.map (jm_v base sa)).toList ++ r.map (jm_v base sa))) := by
    intro H1 locs1 h1 h2 h3
    have := kk H1 locs1 h1 h2 h3
    rw [List.map_append] at this
    have e1 : (v.map (jm_v base sa)).toList = v.toList.map (jm_v base sa) := by cases v <;> rfl
    rw [e1]
    exact this
  have hblind := jm_pre_blind D dA base sa X S (as.map (jm_v base sa))
  have hpre : ∀ U : State, U.heap = H → s.WarmedH U.vm → va_Pc (as.map (jm_v base sa)) (jm_pre D dA base sa X S) (as.map (jm_v base sa)).toArray U := by
    intro U hU hW
    exact ⟨rfl, by rw [hU]; exact hH, va_K.moved hW.alike hK, hnn.go hW, hst.go hW.alike (fun a h1 h2 => by rw [hU]; exact hS.2.1 a h1 h2)⟩
  unfold jm_winv at h
  split at h
  · rename_i idx
    split at h
    · rename_i hq13
      rw [hq13] at hown
      have hown : s.vm.findClass "WhilePressLaw" = some m.cls := hown
      have CF : CallFix p m c M.2.1 M.2.2.1 s args jw "WhilePressLaw" := ⟨hx, hb, hml, hown, hts⟩
      split at h
      · rename_i N' hN
        obtain ⟨hok, hl1, hl2⟩ := jp_V_ok _ _ hN
        split at h
        · rename_i hcnd
          cases h
          have hM := jm_metW l hfl X hok _ hcnd.2.2 hlim body D dA base sa
          have hst' : st.map (jm_v base sa) = (((st.take (jm_n N.1)).reverse).map (jm_v base sa)).reverse ++ (st.drop (jm_n N.1)).map (jm_v base sa) := by
            rw [← List.map_reverse, List.reverse_reverse, ← List.map_append, List.take_append_drop]
          have hnn2 : ((st.take (jm_n N.1)).reverse.map (jm_v base sa)).length = jm_n N.1 := by
            simp [Nat.min_eq_left hcnd.1]
          have h40 := hok.2.2.2.2.2.1
          have hrun := jm_runSW (As := (st.take (jm_n N.1)).reverse.map (jm_v base sa)) (rest := (st.drop (jm_n N.1)).map (jm_v base sa)) (g := F0 m pc ls (st.map (jm_v base sa))) (H := H) (locs := locs) (cells := cells) (slots := slots) (l := l) (e := e) (below := below) (meth := meth) (R := R) (bytes := N.1.2.1) (maxL := N.1.2.2.1) (ret := N.1.2.2.2.1) (hh := N.2) CF hM rfl rfl hfr (by
              show 8 + (N.1.2.2.1 + 11) + d * 64 ≤ R.locals
              omega) (pay_in hts (jm_goodW hok)) List.mem_cons_self (hts _ hok.1) (hts _ hok.2.1) hok.2.2.2.1 (fun sig hsig => by
              have h2 := hok.2.2.2.2.1
              rw [hsig] at h2
              exact (Option.some.inj h2).symm) (hts _ hl1) (hts _ hl2) ⟨hblind, hpre⟩ rfl hnn2 hl.1 hst' (by rw [jm_cats]; show 2 * 0 + _ ≤ 8; have := hcnd.2.1; omega) hd ⟨hc, hsl⟩
          exact jm_back hrun hS kk2
        · cases h
      · cases h
    · cases h
  · cases h
end JM18
/-- the law's walk returns -/
def jm_goesL (X : jm_X) (M : jm_M) (d pc : Nat) (lv : jm_L) (st : List Value) (S : jm_S) (v : Option Value) (S' : jm_S) (k n : Nat) : Prop :=
  ∀ (p : Program) (l : Launch) (e : Env) (R : Room) (s : State) (m : MethodId) (args : Array Value) (below : List Frame) (meth : Method) (c : Code) (D : va_G) (dA : Nat → ClassId) (base : Nat) (sa : Nat → Nat) (H : Heap) (locs : List Loc) (cells slots : Nat) (ls : Array Slot) (Q : State → Prop),
    l.flags = pinnedFlags ++ [noTraceFlag] → jm_ctx p s m args meth c D dA base sa X M → jm_H D jCl dA base sa S H → va_S (fun q => base ≤ q) s.heap H locs → lv_has ls M.2.2.1 (jm_lv base sa lv) → S.1 ≤ jm_lim → d ≤ R.frames → d * 64 ≤ R.locals → cells + k ≤ R.cells → slots + n ≤ R.slots →
    jm_hret p l e R s m args below meth c D dA base sa M v S' (cells + k) (slots + n) Q → W p l e R s m args below meth c H locs cells slots Q (F0 m pc ls (st.map (jm_v base sa)))
theorem jm_law_ok (X : jm_X) : ∀ (n d : Nat) (M : jm_M) (pc : Nat) (lv : jm_L) (st : List Value) (S : jm_S) (v : Option Value) (S' : jm_S) (k j : Nat), jm_law X n d M pc lv st S = some (0, v, S', k, j) → jm_goesL X M d pc lv st S v S' k j := by
  intro n
  induction n with
  | zero => intro d M pc lv st S v S' k j h; cases h
  | succ n ih =>
    intro d M pc lv st S v S' k j h
    intro p l e R s m args below meth c D dA base sa H locs cells slots ls Q hfl C hH hS hl hlim hfr hlo hc hs hret
    unfold jm_law at h
    split at h
    · cases h
    · rename_i i len hd
      split at h
      · rename_i q hq
        obtain ⟨pc1, lv1, st1, S1, c1, k1⟩ := q
        obtain ⟨a', b', h1, rfl, rfl⟩ := jm_more_some h
        refine jm_step_ok C hd hq hH hS hl hlim (by dsimp only at hc; omega) (by dsimp only at hs; omega) (fun H1 locs1 ls1 w1 w2 w3 w4 => ?_)
        refine ih d M pc1 lv1 st1 S1 v S' a' b' h1 p l e R s m args below meth c D dA base sa H1 locs1 _ _ ls1 Q hfl C w1 w2 w3 w4 hfr hlo (by dsimp only at hc; omega) (by dsimp only at hs; omega) ?_
        rw [Nat.add_assoc, Nat.add_assoc]
        exact hret
      · split at h
        · rename_i v1 hv
          cases h
          have e1 := jm_ret_st hv
          subst e1
          exact hret H locs ls pc i len hH hS hlim hd hv
        · split at h
          · rename_i q hq
            obtain ⟨N, as, r⟩ := q
            match d, h, hfr, hlo with
            | 0, h, _, _ => cases h
            | d' + 1, h, hfr, hlo =>
              dsimp only at h
              split at h
              · rename_i o ho
                obtain ⟨t1, v1, S1, k1, j1⟩ := o
                split at h
                · rename_i ht
                  dsimp only at ht
                  subst ht
                  obtain ⟨a', b', h1, rfl, rfl⟩ := jm_more_some h
                  dsimp only at hc hs
                  refine jm_winv_ok hfl C hd hq hH hS hl hlim hfr hlo (k := k1) (n := j1) (by omega) (by omega) (jm_wrp_ok ho) (fun H1 locs1 w1 w2 w3 => ?_)
                  refine ih (d' + 1) M (pc + 3) lv _ S1 v S' a' b' h1 p l e R s m args below meth c D dA base sa H1 locs1 _ _ ls Q hfl C w2 w3 hl w1 hfr hlo (by omega) (by omega) ?_
                  rw [Nat.add_assoc, Nat.add_assoc]
                  exact hret
                · cases h
              · cases h
          · split at h
            · rename_i q hq
              obtain ⟨N, f, as, r⟩ := q
              match d, h, hfr, hlo with
              | 0, h, _, _ => cases h
              | d' + 1, h, hfr, hlo =>
                dsimp only at h
                split at h
                · rename_i o ho
                  obtain ⟨t1, v1, S1, k1, j1⟩ := o
                  split at h
                  · rename_i ht
                    dsimp only at ht
                    subst ht
                    obtain ⟨a', b', h1, rfl, rfl⟩ := jm_more_some h
                    dsimp only at hc hs
                    refine jm_inv_ok C hd hq hH hS hl hlim hfr hlo (k := k1) (n := j1) (by omega) (by omega) (jm_run_ok X n d' N 0 _ [] S v1 S1 k1 j1 ho) (fun H1 locs1 w1 w2 w3 => ?_)
                    refine ih (d' + 1) M (pc + 3) lv _ S1 v S' a' b' h1 p l e R s m args below meth c D dA base sa H1 locs1 _ _ ls Q hfl C w2 w3 hl w1 hfr hlo (by omega) (by omega) ?_
                    rw [Nat.add_assoc, Nat.add_assoc]
                    exact hret
                  · cases h
                · cases h
            · cases h
end
section
/-! THE CLAIM OUT OF ONE WALK OF THE LAW'S BODY. Your part is whole_start (and what it stands on); all else here is the same for every law, but numbers. -/
def R_law : String := "WhilePressLaw"
def lw_P (b : Addr) (xs : List Int32) (args : Array Value) (s : State) : Prop := args = #[.ref b] ∧ s.IntsAt b xs ∧ xs.length ≤ 2048 ∧ (Jvm.Cond.and given_1 narrow_1).before args s = true
def lw_Q (_ : Array Value) (s : State) (o : Outcome) (t : State) : Prop := o = .returned (some (.int 1)) ∧ Framed s o t [] 601024 7293034
def lw_Z (below : List Frame) (a : Array Value) (s : State) : State → Prop := fun t => ∃ o, t.status = .running ∧ Ended t below o ∧ lw_Q a s o t
/-- the law's own end, with 1 on the stack, nothing written that was there before, its room as the claim has it -/
theorem lw_ret {p : Program} {l : Launch} {e : Env} {s : State} {m : MethodId} {below : List Frame} {meth : Method} {c : Code} {b : Nat} (hx : p.tables.exec = Jvm.exec) (hb : c.code = code) (hr : meth.sig.returnType = ret) (hlocks : meth.locks = false) {pc : Nat} {H : Heap} {ls : Array Slot} (hdg : decode code pc = .ok (.ireturn, 1)) : W p l e room_1 s m #[Value.ref b] below meth c H [] 601024 7293034 (lw_Z below #[Value.ref b] s) (F0 m pc ls [.int 1]) := by
  intro T hT X
  obtain ⟨fs, hret, hrun, hended, hW, hframe⟩ := X.leave (v := some (.int 1)) (hlocks := hlocks) (fun h => by rw [hr] at h; cases h)
  have hmeth' : T.vm.method? m = some meth := X.method'
  refine ⟨T.setFrames fs, ?_, .returned (some (.int 1)), hrun, hended, rfl, ⟨_, rfl⟩, hW, hframe⟩
  jvm_step X.here [X.here.top, hx, hb, hdg, hmeth', hr, ret, narrow_b1]
  (try refine ⟨rfl, ?_⟩); (try refine ⟨rfl, ?_⟩)
  first | (intro acts; rw [hret _ acts rfl rfl rfl]) | rw [hret _ _ rfl rfl rfl]
  exact Steps.refl _
/-- what holds at the law's entry: the machine, the code, the tables' words (any of lw_tbl by 'hts w (by decide +kernel)'), the script of L ints xs at the cell b, what the Statement gives of the start (any of its parts by flat_of_before) -/
def lw_At (p : Program) (s : State) (m : MethodId) (meth : Method) (c : Code) (b L : Nat) (xs : Nat → Int32) : Prop :=
  p.tables.exec = Jvm.exec ∧ c.code = code ∧ meth.sig.returnType = ret ∧ c.maxLocals = 7 ∧ s.vm.findClass R_law = some m.cls ∧ (∀ w ∈ lw_tbl, w.before #[Value.ref b] s = true) ∧ va_X b L xs s s.heap ∧ b < s.heap.size ∧ meth.locks = false ∧ (Jvm.Cond.and given_1 narrow_1).before #[Value.ref b] s = true
/-! THE LAW: from its entry to the pure machine -/
theorem jp_inst : ∀ ci, ci < 16 → ∃ n, Cond.instantiable (jp_C ci) n ∈ jw := by
  intro ci h
  match ci, h with
  | 0, _ => exact ⟨_, jC0_new.1⟩
  | 1, _ => exact ⟨_, jC1_new.1⟩
  | 2, _ => exact ⟨_, jC2_new.1⟩
  | 3, _ => exact ⟨_, jC3_new.1⟩
  | 4, _ => exact ⟨_, jC4_new.1⟩
  | 5, _ => exact ⟨_, jC5_new.1⟩
  | 6, _ => exact ⟨_, jC6_new.1⟩
  | 7, _ => exact ⟨_, jC7_new.1⟩
  | 8, _ => exact ⟨_, jC8_new.1⟩
  | 9, _ => exact ⟨_, jC9_new.1⟩
  | 10, _ => exact ⟨_, jC10_new.1⟩
  | 11, _ => exact ⟨_, jC11_new.1⟩
  | 12, _ => exact ⟨_, jC12_new.1⟩
  | 13, _ => exact ⟨_, jz_0.1⟩
  | 14, _ => exact ⟨_, jz_1.1⟩
  | 15, _ => exact ⟨_, jz_2.1⟩
  | k + 16, h => exact absurd h (by omega)
theorem jm_K0 {args : Array Value} {s : State} (hts : ∀ w ∈ jw, w.before args s = true) : ∃ (D : va_G) (dA : Nat → ClassId), va_K D jCl (jm_tys dA) s := by
  have h : ∀ ci : Nat, ∃ q : ClassId × (Nat → Nat), ci < 16 → u_Kn s (jp_C ci) (jp_T ci) (jp_N ci) q.1 q.2 := by
    intro ci
    by_cases hci : ci < 16
    · obtain ⟨n, hn⟩ := jp_inst ci hci
      obtain ⟨c, i, hk⟩ := u_known (C := jp_C ci) (T := jp_T ci) (N := jp_N ci) (n := n) hts (jp_cl ci hci).2.1 (hts _ hn)
      exact ⟨(c, i), fun _ => hk⟩
    · exact ⟨(0, fun _ => 0), fun h => absurd h hci⟩
  obtain ⟨f, hf⟩ := Classical.axiomOfChoice h
  obtain ⟨c0, k0, m0, a1, a2, a3⟩ := Cond.arrayClass_spec (hts _ jp_arr.1)
  obtain ⟨c1, k1, m1, b1, b2, b3⟩ := Cond.arrayClass_spec (hts _ jp_arr.2.1)
  obtain ⟨c2, k2, m2, d1, d2, d3⟩ := Cond.arrayClass_spec (hts _ jp_arr.2.2.1)
  obtain ⟨c3, k3, m3, e1, e2, e3⟩ := Cond.arrayClass_spec (hts _ jp_arr.2.2.2)
  refine ⟨(fun c => (f c).1, fun c => (f c).2), fun t => match t with
    | 0 => c0
    | 1 => c1
    | 2 => c2
    | _ => c3, ?_, ?_⟩
  · intro c q hq
    have hc : c < 16 := (List.getElem?_eq_some_iff.mp hq).1
    have e := (jp_cl c hc).1
    cases Option.some.inj (e.symm.trans hq)
    exact hf c hc
  · intro k q hq
    match k, hq with
    | 0, hq => cases hq; exact ⟨fun n z => ⟨fun k h => (by cases h), k0, a2, m0, a3⟩, a1⟩
    | 1, hq => cases hq; exact ⟨fun n z => ⟨fun k h => (by cases h), k1, b2, m1, b3⟩, b1⟩
    | 2, hq => cases hq; exact ⟨fun n z => ⟨fun k h => (by cases h), k2, d2, m2, d3⟩, d1⟩
    | 3, hq => cases hq; exact ⟨fun n z => ⟨fun k h => (by cases h), k3, e2, m3, e3⟩, e1⟩
    | k + 4, hq => simp [jm_tys] at hq
theorem jm_sf0 {C n d : String} {A : Nat → Prop} {args : Array Value} {s : State} (hl : (Cond.laysStatic C n d).before args s = true) (hr : (Cond.isRef (.static C n d)).before args s = true) (hA : ∀ a : Nat, a < s.heap.size → ¬ A a) : jm_sf C n d A s s.heap := by
  obtain ⟨c, k, i, f, a, cell, h1, h2, h3, h4, h5, h6, h7, h8, h9⟩ := Cond.laysStatic_spec hl
  obtain ⟨v, hv⟩ : ∃ v, cell.slots[f.slot]? = some v := ⟨_, Array.getElem?_eq_getElem h8⟩
  have e1 : (Term.static C n d).eval args s none [] s = some v := by
    simp [Term.eval, State.fieldNamed?, h2, h3, h4, h5, h6, hv]
  simp only [Cond.before, Cond.holds, Cond.value, e1] at hr
  refine ⟨c, k, i, f, a, cell, v, h1, h2, h3, h4, h5, h6, h7, h8, h9, hv, ?_, hA a (Array.getElem?_eq_some_iff.mp h5).1⟩
  cases v with
  | null => exact Or.inl rfl
  | ref t => exact Or.inr ⟨t, rfl⟩
  | _ => simp at hr
theorem jm_KEYS0 : ∀ j, j < 12 → Cond.eq (.elem (.static "WhilePress" "KEYS" "[J") (.int (Int32.ofNat j))) (.long (jp_KEYS.getD j 0)) ∈ flatC (Jvm.Cond.and given_1 narrow_1) := by decide +kernel
theorem jm_STR0 : ∀ j, j < 27 → Cond.eq (.elem (.static "WhilePress" "STRENGTH" "[I") (.int (Int32.ofNat j))) (.int (jp_STR.getD j 0)) ∈ flatC (Jvm.Cond.and given_1 narrow_1) := by decide +kernel
theorem jm_nar0 : Cond.arrayOf (.static "WhilePress" "KEYS" "[J") .long ∈ flatC (Jvm.Cond.and given_1 narrow_1) ∧ Cond.eq (.length (.static "WhilePress" "KEYS" "[J")) (.int 12) ∈ flatC (Jvm.Cond.and given_1 narrow_1) ∧ Cond.arrayOf (.static "WhilePress" "STRENGTH" "[I") .int ∈ flatC (Jvm.Cond.and given_1 narrow_1) ∧ Cond.eq (.length (.static "WhilePress" "STRENGTH" "[I")) (.int 27) ∈ flatC (Jvm.Cond.and given_1 narrow_1) ∧ Cond.isRef (.static Bundle.tN "UNASSIGNED_STACK" Bundle.steD) ∈ flatC (Jvm.Cond.and given_1 narrow_1) ∧ Cond.isRef (.static Bundle.tN "SUPPRESSED_SENTINEL" Bundle.listD) ∈ flatC (Jvm.Cond.and given_1 narrow_1) := by decide +kernel
theorem jm_nc0 : ∀ x ∈ jnc, Cond.not (.castable x.1 x.2) ∈ flatC (Jvm.Cond.and given_1 narrow_1) := by decide +kernel
theorem jm_ls0 : Cond.laysStatic "WhilePress" "KEYS" "[J" ∈ lw_tbl ∧ Cond.laysStatic "WhilePress" "STRENGTH" "[I" ∈ lw_tbl ∧ Cond.laysStatic Bundle.tN "UNASSIGNED_STACK" Bundle.steD ∈ lw_tbl ∧ Cond.laysStatic Bundle.tN "SUPPRESSED_SENTINEL" Bundle.listD ∈ lw_tbl ∧ Cond.initialized "WhilePress" ∈ lw_tbl := by decide +kernel
theorem jm_str0 : ∀ x ∈ jstr, Cond.stringRef "WhilePress" x.1 x.2 ∈ lw_tbl := by decide +kernel
set_option maxHeartbeats 4000000 in
/-- the law, from its entry, by the pure machine, to its own end -/
theorem jm_start_of {p : Program} {e : Env} {s : State} {m : MethodId} {below : List Frame} {meth : Method} {c : Code} (l : Launch) (hfl : l.flags = pinnedFlags ++ [noTraceFlag]) {b L : Nat} {xs : Nat → Int32} (C0 : lw_At p s m meth c b L xs)
    {z : Int32} {Z : List Frame → Array Value → State → State → Prop} {d k j : Nat} {S' : jm_S} (S0 : Nat → jm_c) (hrun : jm_goesL (L, xs) mL_law d 0 [(0, .ref 1000000)] [] (0, S0) (some (.int z)) S' k j) (hd : d ≤ 1300) (hk : k ≤ 601024) (hj : j ≤ 7293034)
    (hend : ∀ (H : Heap) (ls : Array Slot) (pc : Nat), decode code pc = .ok (.ireturn, 1) → W p l e room_1 s m #[Value.ref b] below meth c H [] 601024 7293034 (Z below #[Value.ref b] s) (F0 m pc ls [.int z])) :
    W p l e room_1 s m #[Value.ref b] below meth c s.heap [] 0 0 (Z below #[Value.ref b] s) (entryFrame m ([Value.ref b] : List Value).toArray 7) := by
  obtain ⟨hx, hb, hr, hml, hown, hts, hX, hbl, hlocks, hgv⟩ := C0
  have hjw : ∀ w ∈ jw, w.before #[Value.ref b] s = true := fun w hw => hts w (jw_tbl w hw)
  have hs := flat_of_before _ hgv
  have hA : ∀ a : Nat, a < s.heap.size → ¬ (fun q : Nat => s.heap.size ≤ q) a := fun a h => Nat.not_le.mpr h
  obtain ⟨D, dA, hK⟩ := jm_K0 hjw
  obtain ⟨tk, htk, hTk⟩ := va_Tof (tm := .static "WhilePress" "KEYS" "[J") (ty := .long) (N := jp_KEYS.length) (f := fun j => .long (jp_KEYS.getD j 0)) (A := fun q : Nat => s.heap.size ≤ q) (by decide) (hs _ jm_nar0.1) (va_eqt (hs _ jm_nar0.2.1)) (fun j hj => va_eqtl (hs _ (jm_KEYS0 j hj))) hA
  obtain ⟨tt, htt, hTt⟩ := va_Tof (tm := .static "WhilePress" "STRENGTH" "[I") (ty := .int) (N := jp_STR.length) (f := fun j => .int (jp_STR.getD j 0)) (A := fun q : Nat => s.heap.size ≤ q) (by decide) (hs _ jm_nar0.2.2.1) (va_eqt (hs _ jm_nar0.2.2.2.1)) (fun j hj => va_eqt (hs _ (jm_STR0 j hj))) hA
  have hZk := va_Zof (hts _ jm_ls0.1) (hts _ jm_ls0.2.2.2.2) htk hA
  have hZt := va_Zof (hts _ jm_ls0.2.1) (hts _ jm_ls0.2.2.2.2) htt hA
  have hs1 := jm_sf0 (hts _ jm_ls0.2.2.1) (hs _ jm_nar0.2.2.2.2.1) hA
  have hs2 := jm_sf0 (hts _ jm_ls0.2.2.2.1) (hs _ jm_nar0.2.2.2.2.2) hA
  have hTs : va_T .int b L (fun j => .int (xs j)) (fun q : Nat => s.heap.size ≤ q) s s.heap := by
    obtain ⟨scr, x1, x2, x3, x4, x5⟩ := hX
    exact ⟨scr, x1, x2, x3, Nat.le_of_eq x4.symm, by rw [x4], x5, hA b hbl⟩
  have hnst : jm_nst s := by
    refine ⟨fun w hw => va_Nw.of (jn_on w hw) (hts w (jn_tbl w hw)), fun x hx => ?_, fun x hx => va_Nc.of (hs _ (jm_nc0 x hx))⟩
    have hcur : s.vm.findClass "WhilePress" = some (D.1 0) := (hK.1 0 _ rfl).2.1
    obtain ⟨_, _, _, a, -, -, -, -, -, hev⟩ := Cond.stringRef_spec hcur (hts _ (jm_str0 x hx))
    exact ⟨a, vk_R.of (hts _ (jm_str0 x hx)) hev⟩
  have hl := lv_entry ([Value.ref b] : List Value) (n := 7) (Nat.le_of_ble_eq_true rfl)
  rw [lg_entry_eq]
  have hl2 : lv_has ((lg_sl [Value.ref b] ++ List.replicate (7 - (lg_sl [Value.ref b]).length) Slot.unset).toArray) 7 (jm_lv s.heap.size (fun q => if q = 1000000 then b else if q = 1000001 then tk else tt) [(0, .ref 1000000)]) := hl
  refine hrun p l e room_1 s m #[Value.ref b] below meth c D dA s.heap.size (fun q => if q = 1000000 then b else if q = 1000001 then tk else tt) s.heap [] 0 0 _ (Z below #[Value.ref b] s) hfl ⟨hx, hb, hml, hown, hjw, hnst, hK, ⟨hZk, hZt, hTs, hTk, hTt, hs1, hs2⟩, (fun h => by cases h), hlocks⟩ ⟨rfl, fun k hk => absurd hk (Nat.not_lt_zero k)⟩ va_S.rf hl2 (Nat.zero_le _) (by show d ≤ 2048; omega) (by show d * 64 ≤ 84000; omega) (by show 0 + k ≤ 601024; omega) (by show 0 + j ≤ 7293034; omega) ?_
  intro H1 locs1 ls1 pc1 i1 len1 w1 w2 w3 wd wr
  have hi : i1 = .ireturn ∧ len1 = 1 := by
    unfold jm_ret at wr
    split at wr
    · rename_i e3 _; cases e3
    · exact ⟨rfl, rfl⟩
    · rename_i e3 _; cases e3
    · rename_i e3 _; cases e3
    · cases wr
  obtain ⟨rfl, rfl⟩ := hi
  refine va_forget (fun q hq => w2.2.2 q hq) ?_
  refine W.widen (k := 601024) (n := 7293034) (by omega) (by omega) ?_
  exact hend _ _ _ wd
/-- the law, from its entry, by the pure machine -/
theorem jm_start {p : Program} {e : Env} {s : State} {m : MethodId} {below : List Frame} {meth : Method} {c : Code} (l : Launch) (hfl : l.flags = pinnedFlags ++ [noTraceFlag]) {b L : Nat} {xs : Nat → Int32} (C0 : lw_At p s m meth c b L xs)
    {d k j : Nat} {S' : jm_S} (S0 : Nat → jm_c) (hrun : jm_goesL (L, xs) mL_law d 0 [(0, .ref 1000000)] [] (0, S0) (some (.int 1)) S' k j) (hd : d ≤ 1300) (hk : k ≤ 601024) (hj : j ≤ 7293034) :
    W p l e room_1 s m #[Value.ref b] below meth c s.heap [] 0 0 (lw_Z below #[Value.ref b] s) (entryFrame m ([Value.ref b] : List Value).toArray 7) :=
  jm_start_of (Z := lw_Z) l hfl C0 S0 hrun hd hk hj fun _ _ _ wd => lw_ret C0.1 C0.2.1 C0.2.2.1 C0.2.2.2.2.2.2.2.2.1 wd
end
section
/-! SEGMENTS: what a walk does, out of what what follows does -/
section JG
variable {X : jm_X} {M N : jm_M} {d pc len pc1 c1 k1 j1 k j : Nat} {lv lv1 : jm_L} {st st1 as r : List Value} {S S1 S' : jm_S} {v v1 : Option Value} {i : Instr}
theorem jg_step (hd : decode M.2.1 pc = .ok (i, len)) (hq : jm_step X M i len pc lv st S = some (pc1, lv1, st1, S1, c1, k1)) (h : jm_goes X M d pc1 lv1 st1 S1 v S' k j) : jm_goes X M d pc lv st S v S' (c1 + k) (k1 + j) := by
  intro p l e R s m args below meth c D dA base sa H locs cells slots ls Q C hH hS hl hlim hfr hlo hc hs hret
  refine jm_step_ok C hd hq hH hS hl hlim (by omega) (by omega) (fun H1 locs1 ls1 w1 w2 w3 w4 => ?_)
  refine h p l e R s m args below meth c D dA base sa H1 locs1 _ _ ls1 Q C w1 w2 w3 w4 hfr hlo (by omega) (by omega) ?_
  rw [Nat.add_assoc, Nat.add_assoc]
  exact hret
theorem jg_ret (hd : decode M.2.1 pc = .ok (i, len)) (hv : jm_ret i len M.2.2.2.1 st = some v) : jm_goes X M d pc lv st S v S 0 0 := by
  intro p l e R s m args below meth c D dA base sa H locs cells slots ls Q C hH hS hl hlim hfr hlo hc hs hret
  have e1 := jm_ret_st hv
  subst e1
  exact hret H locs ls pc i len hH hS hlim hd hv
theorem jg_obj (hd : decode M.2.1 pc = .ok (i, len)) (hr : jm_obj M i len d st = some r) (h : jm_goes X M d (pc + 3) lv r S v S' k j) : jm_goes X M d pc lv st S v S' k j := by
  intro p l e R s m args below meth c D dA base sa H locs cells slots ls Q C hH hS hl hlim hfr hlo hc hs hret
  exact jm_obj_ok C hd hr hl hfr hlo (by omega) (by omega) (h p l e R s m args below meth c D dA base sa H locs cells slots ls Q C hH hS hl hlim hfr hlo hc hs hret)
theorem jg_inv {f : Nat} (hd : decode M.2.1 pc = .ok (i, len)) (hq : jm_inv M i len st S = some (N, f, as, r)) (hb : jm_goes X N d 0 (lv_args 0 as) [] S v1 S1 k1 j1) (h : jm_goes X M (d + 1) (pc + 3) lv (v1.toList ++ r) S1 v S' k j) : jm_goes X M (d + 1) pc lv st S v S' (k1 + k) (j1 + j) := by
  intro p l e R s m args below meth c D dA base sa H locs cells slots ls Q C hH hS hl hlim hfr hlo hc hs hret
  refine jm_inv_ok C hd hq hH hS hl hlim hfr hlo (k := k1) (n := j1) (by omega) (by omega) hb (fun H1 locs1 w1 w2 w3 => ?_)
  refine h p l e R s m args below meth c D dA base sa H1 locs1 _ _ ls Q C w2 w3 hl w1 hfr hlo (by omega) (by omega) ?_
  rw [Nat.add_assoc, Nat.add_assoc]
  exact hret
theorem jgL_step (hd : decode M.2.1 pc = .ok (i, len)) (hq : jm_step X M i len pc lv st S = some (pc1, lv1, st1, S1, c1, k1)) (h : jm_goesL X M d pc1 lv1 st1 S1 v S' k j) : jm_goesL X M d pc lv st S v S' (c1 + k) (k1 + j) := by
  intro p l e R s m args below meth c D dA base sa H locs cells slots ls Q hfl C hH hS hl hlim hfr hlo hc hs hret
  refine jm_step_ok C hd hq hH hS hl hlim (by omega) (by omega) (fun H1 locs1 ls1 w1 w2 w3 w4 => ?_)
  refine h p l e R s m args below meth c D dA base sa H1 locs1 _ _ ls1 Q hfl C w1 w2 w3 w4 hfr hlo (by omega) (by omega) ?_
  rw [Nat.add_assoc, Nat.add_assoc]
  exact hret
theorem jgL_ret (hd : decode M.2.1 pc = .ok (i, len)) (hv : jm_ret i len M.2.2.2.1 st = some v) : jm_goesL X M d pc lv st S v S 0 0 := by
  intro p l e R s m args below meth c D dA base sa H locs cells slots ls Q hfl C hH hS hl hlim hfr hlo hc hs hret
  have e1 := jm_ret_st hv
  subst e1
  exact hret H locs ls pc i len hH hS hlim hd hv
theorem jgL_inv {f : Nat} (hd : decode M.2.1 pc = .ok (i, len)) (hq : jm_inv M i len st S = some (N, f, as, r)) (hb : jm_goes X N d 0 (lv_args 0 as) [] S v1 S1 k1 j1) (h : jm_goesL X M (d + 1) (pc + 3) lv (v1.toList ++ r) S1 v S' k j) : jm_goesL X M (d + 1) pc lv st S v S' (k1 + k) (j1 + j) := by
  intro p l e R s m args below meth c D dA base sa H locs cells slots ls Q hfl C hH hS hl hlim hfr hlo hc hs hret
  refine jm_inv_ok C hd hq hH hS hl hlim hfr hlo (k := k1) (n := j1) (by omega) (by omega) hb (fun H1 locs1 w1 w2 w3 => ?_)
  refine h p l e R s m args below meth c D dA base sa H1 locs1 _ _ ls Q hfl C w2 w3 hl w1 hfr hlo (by omega) (by omega) ?_
  rw [Nat.add_assoc, Nat.add_assoc]
  exact hret
theorem jgL_winv {P : jm_M × jm_Hh} (hd : decode M.2.1 pc = .ok (i, len)) (hq : jm_winv M i len st = some (P, as, r)) (hb : jm_goesW X P.1 P.2 d 0 (lv_args 0 as) [] S v1 S1 k1 j1) (h : jm_goesL X M (d + 1) (pc + 3) lv (v1.toList ++ r) S1 v S' k j) : jm_goesL X M (d + 1) pc lv st S v S' (k1 + k) (j1 + j) := by
  intro p l e R s m args below meth c D dA base sa H locs cells slots ls Q hfl C hH hS hl hlim hfr hlo hc hs hret
  refine jm_winv_ok hfl C hd hq hH hS hl hlim hfr hlo (k := k1) (n := j1) (by omega) (by omega) hb (fun H1 locs1 w1 w2 w3 => ?_)
  refine h p l e R s m args below meth c D dA base sa H1 locs1 _ _ ls Q hfl C w2 w3 hl w1 hfr hlo (by omega) (by omega) ?_
  rw [Nat.add_assoc, Nat.add_assoc]
  exact hret
theorem jgW_step {hh : List (Nat × Nat × Nat × Nat)} (hd : decode M.2.1 pc = .ok (i, len)) (hq : jm_rst X M i len pc lv st S = some (pc1, lv1, st1)) (h : jm_goesW X M hh d pc1 lv1 st1 S v S' k j) : jm_goesW X M hh d pc lv st S v S' k j := by
  intro p l e R s m args below meth c D dA base sa H locs cells slots ls Q hfl hhh C hH hS hl hlim hfr hlo hc hs hret
  exact jm_rst_ok C hd hq hH hl hlim (fun ls1 h1 => h p l e R s m args below meth c D dA base sa H locs cells slots ls1 Q hfl hhh C hH hS h1 hlim hfr hlo hc hs hret)
theorem jgT_step {ex : Nat} (hd : decode M.2.1 pc = .ok (i, len)) (hq : jm_rst X M i len pc lv st S = some (pc1, lv1, st1)) (h : jm_goesT X M d pc1 lv1 st1 S ex) : jm_goesT X M d pc lv st S ex := by
  intro p l e R s m args below meth c D dA base sa ls hfl C hno hH hl hlim hfr hlo hc hs
  exact jm_rst_ok C hd hq hH hl hlim (fun ls1 h1 => h p l e R s m args below meth c D dA base sa ls1 hfl C hno hH h1 hlim hfr hlo hc hs)
theorem jgT_thr {ex : Nat} (hd : decode M.2.1 pc = .ok (i, len)) (hex : jm_thr M i len pc = some ex) (h6 : 6 ≤ d) (hst : (st.map fun v => v.category).sum ≤ 4) : jm_goesT X M d pc lv st S ex := by
  intro p l e R s m args below meth c D dA base sa ls hfl C hno hH hl hlim hfr hlo hc hs
  exact jm_thr_ok C hfl hno hd hex hl (by omega) (by omega) hst hc hs
theorem jgT_inv {ex : Nat} (hd : decode M.2.1 pc = .ok (i, len)) (hq : jm_inv M i len st S = some (N, 0, as, r)) (hb : jm_goesT X N d 0 (lv_args 0 as) [] S ex) : jm_goesT X M (d + 1) pc lv st S ex := by
  intro p l e R s m args below meth c D dA base sa ls hfl C hno hH hl hlim hfr hlo hc hs
  intro T hT Z
  have hout : ∀ x ∈ c.exceptionTable.toList, covers x pc = false := by
    intro x hxx
    have : c.exceptionTable = #[] := by simpa using hno
    rw [this] at hxx
    simp at hxx
  obtain ⟨T', X2, -, ⟨ce, c1, c2, c3⟩, hst⟩ := jm_thrown (T := T) hfl C hd hq (by rw [hT]; exact hH) (by rw [hT]; exact va_S.rf) hl hlim hfr hlo (by omega) (by omega) hb Z
  rw [hT] at c1 hst
  obtain ⟨l1, l2, l3, l4, l5⟩ := X2.leaveThrown s.heap.size (g := F0 m pc ls (r.map (jm_v base sa))) rfl rfl rfl hout C.2.2.2.2.2.2.2.2.2
  refine ⟨_, hst _ l1, l2, l3, l4, by simpa using l5, ce, c1, c2, c3⟩
end JG
end
section
/-! A THROW WHOSE TEXT IS FAR BACK IN THE POOL (ldc_w) -/
def jm_thrW (M : jm_M) (i : Instr) (len pc : Nat) : Option Nat := match i, len with
  | .new idx, 3 => (match jp_X (jm_q M) idx with
    | some ex => (match decode M.2.1 (pc + 3), decode M.2.1 (pc + 4), decode M.2.1 (pc + 7), decode M.2.1 (pc + 10) with
      | .ok (.dup, 1), .ok (.ldc_w k, 3), .ok (.invokespecial j, 3), .ok (.athrow, 1) => if jp_XS (jm_q M) k = true ∧ jp_XI (jm_q M) j = some ex then some ex else none
      | _, _, _, _ => none)
    | none => none)
  | _, _ => none
section JM12W
variable {p : Program} {l : Launch} {e : Env} {R : Room} {s : State} {m : MethodId} {args : Array Value} {below : List Frame} {meth : Method} {c : Code} {H : Heap} {locs : List Loc} {cells slots : Nat} {Q : State → Prop}
variable {D : va_G} {dA : Nat → ClassId} {base pc len pc' : Nat} {sa : Nat → Nat} {X : jm_X} {M N : jm_M} {i : Instr} {lv lv' : jm_L} {st st' : List Value} {S S' : jm_S} {ls : Array Slot} {cc : ByteArray} {rest : List Value}
theorem jm_ldcW (hexec : p.tables.exec = Jvm.exec) (hb : c.code = cc) {own tx : String} {index q : Nat} (hown : s.vm.findClass own = some m.cls) (hZ : vk_R own index tx q s) (hdg : decode cc pc = .ok (.ldc_w index, 3))
    (k : W p l e R s m args below meth c H locs cells slots Q (F0 m (pc + 3) ls (.ref q :: rest))) : W p l e R s m args below meth c H locs cells slots Q (F0 m pc ls rest) := by
  intro T hT X
  obtain ⟨t, a1, b1⟩ := k T hT X
  exact ⟨t, X.ldcStringW hexec hown (text := tx) (a := q) hZ.1 hZ.2 (g := F0 m pc ls rest) rfl (by rw [hb]; exact hdg) t a1, b1⟩
theorem jm_thrW_ok {ex : Nat} (C : jm_ctx p s m args meth c D dA base sa X M) (hfl : l.flags = pinnedFlags ++ [noTraceFlag]) (hno : c.exceptionTable.isEmpty = true) (hd : decode M.2.1 pc = .ok (i, len)) (h : jm_thrW M i len pc = some ex) (hl : lv_has ls M.2.2.1 (jm_lv base sa lv)) (hfr : 6 ≤ R.frames) (hlo : 384 ≤ R.locals) (hcat : (st.map fun v => v.category).sum ≤ 4) (hc : 1 ≤ R.cells) (hs : 6 ≤ R.slots) :
    W p l e R s m args below meth c s.heap [] 0 0 (jm_QT below s ex) (F0 m pc ls (st.map (jm_v base sa))) := by
  have hown3 := jm_own C
  obtain ⟨hx, hb, hml, hown, hts, hnn, hK, hst, hini, hlk⟩ := C
  unfold jm_thrW at h
  split at h
  · rename_i idx
    split at h
    · rename_i ex' hX
      obtain ⟨hq, hex, hcl⟩ := jp_X_ok _ _ _ hX
      split at h
      · rename_i k j d3 d4 d6 d9
        split at h
        · rename_i hcnd
          cases h
          obtain ⟨tx, htx⟩ := Option.isSome_iff_exists.mp hcnd.1
          obtain ⟨-, hmem⟩ := jp_XT_ok _ _ _ htx
          obtain ⟨qs, hqs⟩ := hnn.2.1 _ hmem
          have hic : j = jp_ic ex := by
            rcases (jp_XI_ok _ _ _ hcnd.2).2 with ⟨h1, h2⟩ | ⟨h1, h2⟩ | ⟨h1, h2⟩ <;> rw [h1, h2] <;> rfl
          rw [hq] at hown
          have hown : s.vm.findClass "WhilePress" = some m.cls := hown
          have hz : Cond.instantiable (jp_C (jp_nobj + ex)) 6 ∈ jw ∧ Cond.initialized (jp_C (jp_nobj + ex)) ∈ jw := by
            match ex, hex with
            | 0, _ => exact jz_0
            | 1, _ => exact jz_1
            | 2, _ => exact jz_2
            | k + 3, h => exact absurd h (by omega)
          have hcl16 := (jp_cl (jp_nobj + ex) (by show 13 + ex < 16; omega)).1
          have hfc := (hK.1 _ _ hcl16).2.1
          refine W.newcK hx hb hown (hts _ hcl) (hts _ hz.1) (hts _ hz.2) rfl hd (by omega) (by omega) hfc rfl fun H1 kC hkC e1 z1 o1 => ?_
          refine lv_dup hx hb d3 rfl ?_
          refine W.eq (g2 := F0 m (pc + 4) ls (.ref s.heap.size :: .ref s.heap.size :: st.map (jm_v base sa))) rfl ?_
          refine jm_ldcW hx hb hown hqs d4 ?_
          refine W.eq (g2 := F0 m (pc + 7) ls (.ref qs :: .ref s.heap.size :: .ref s.heap.size :: st.map (jm_v base sa))) rfl ?_
          intro T hT Z
          have htr : e.platform.stackTraces = false := Launch.traces_off hfl Z.admits
          have hfit : Bundle.fit (jp_C (jp_nobj + ex)) = true ∧ ∀ n ∈ ["java/lang/RuntimeException", "java/lang/Exception"], Bundle.fit n = true := by
            match ex, hex with
            | 0, _ => decide +kernel
            | 1, _ => decide +kernel
            | 2, _ => decide +kernel
            | k + 3, h => exact absurd h (by omega)
          have hout : ∀ x ∈ c.exceptionTable.toList, covers x (pc + 7 + 3) = false := by
            intro x hxx
            have : c.exceptionTable = #[] := by simpa using hno
            rw [this] at hxx
            simp at hxx
          obtain ⟨U, u1, u2, u3, u4, u5, ce, u6, u7⟩ := Z.ctorThrowS hx htr (own := "WhilePress") (cls := jp_C (jp_nobj + ex)) (names := ["java/lang/RuntimeException", "java/lang/Exception"]) (ic := jp_ic ex) hown hfit.1 hfit.2 (hown3 ex hex) (fun x hx => by cases hx)
            (a := s.heap.size) hfc hkC (by rw [hT]; exact e1) (Nat.le_refl _) (msg := .ref qs) rfl (g := F0 m (pc + 7) ls (.ref qs :: .ref s.heap.size :: .ref s.heap.size :: st.map (jm_v base sa))) rfl (by rw [hml]; exact hl.1) rfl rfl (rest := st.map (jm_v base sa)) rfl
            (by rw [hb, ← hic]; exact d6) (by rw [hb]; exact d9) hout (by show 2 + 3 < R.frames; omega) (by
              show 2 * 0 + (1 + ((st.map (jm_v base sa)).map fun v => v.category).sum) + (13 * (2 + 1) + 42) ≤ R.locals
              rw [jm_cats]
              omega) hlk
          exact ⟨U, u1, u2, u3, u4, u5, ce, u6, u7.cls, u7.vm⟩
        · cases h
      · cases h
    · cases h
  · cases h
theorem jgT_thrW {d ex : Nat} (hd : decode M.2.1 pc = .ok (i, len)) (hex : jm_thrW M i len pc = some ex) (h6 : 6 ≤ d) (hst : (st.map fun v => v.category).sum ≤ 4) : jm_goesT X M d pc lv st S ex := by
  intro p l e R s m args below meth c D dA base sa ls hfl C hno hH hl hlim hfr hlo hc hs
  exact jm_thrW_ok C hfl hno hd hex hl (by omega) (by omega) hst hc hs
end JM12W
end
section
/-! THE SYMBOLIC MACHINE, part 1: values (themselves, or a symbol: below 100 an int, else a long), locals, stores -/
abbrev js_R : Type := (Nat → Int32) × (Nat → Int64)
abbrev js_V : Type := Value ⊕ Nat
abbrev js_L : Type := List (Nat × js_V)
/-- a cell: an array (number of its type, length, what was written, the newest first) or an object (number of its class, fields) -/
abbrev js_C : Type := (Nat × Nat × List (Nat × js_V)) ⊕ (Nat × List js_V)
abbrev js_S : Type := List js_C
def js_v (ρ : js_R) (v : js_V) : Value := match v with
  | .inl x => x
  | .inr k => bif Nat.blt k 100 then .int (ρ.1 k) else .long (ρ.2 k)
def js_0 : js_R := (fun _ => 0, fun _ => 0)
def js_cat (v : js_V) : Nat := (js_v js_0 v).category
theorem js_cat_eq (ρ : js_R) (v : js_V) : (js_v ρ v).category = js_cat v := by
  cases v with
  | inl x => rfl
  | inr k =>
    unfold js_cat js_v
    dsimp only
    cases Nat.blt k 100 <;> rfl
def js_isk (q : Nat) (v : js_V) : Bool := jm_isk q (js_v js_0 v)
theorem js_isk_eq (ρ : js_R) (q : Nat) (v : js_V) : jm_isk q (js_v ρ v) = js_isk q v := by
  cases v with
  | inl x => rfl
  | inr k =>
    unfold js_isk js_v
    dsimp only
    cases Nat.blt k 100
    · cases q with
      | zero => rfl
      | succ q => cases q with
        | zero => rfl
        | succ q => cases q <;> rfl
    · cases q with
      | zero => rfl
      | succ q => cases q with
        | zero => rfl
        | succ q => cases q <;> rfl
theorem js_sum_eq (ρ : js_R) (st : List js_V) : ((st.map (js_v ρ)).map fun v => v.category).sum = (st.map js_cat).sum := by
  rw [List.map_map]
  congr 1
  apply List.map_congr_left
  intro v _
  exact js_cat_eq ρ v
def js_lv (ρ : js_R) (lv : js_L) : jm_L := lv.map fun q => (q.1, js_v ρ q.2)
def js_get (lv : js_L) (i : Nat) : Option js_V := match lv.find? (fun q => q.1 == i) with
  | some q => some q.2
  | none => none
theorem js_get_eq (ρ : js_R) {lv : js_L} {i : Nat} {v : js_V} (h : js_get lv i = some v) : jm_get (js_lv ρ lv) i = some (js_v ρ v) := by
  unfold js_get at h
  unfold jm_get js_lv
  rw [List.find?_map]
  cases hf : lv.find? (fun q => q.1 == i) with
  | none => rw [hf] at h; cases h
  | some q =>
    rw [hf] at h
    cases h
    have h2 : List.find? ((fun q : Nat × Value => q.1 == i) ∘ fun q : Nat × js_V => (q.1, js_v ρ q.2)) lv = some q := hf
    rw [h2]
    rfl
def js_set1 (lv : js_L) (i : Nat) (v : js_V) : js_L := (i, v) :: lv.filter (fun q => !(q.1 == i) && !(q.1 + 1 == i && js_cat q.2 == 2))
def js_set2 (lv : js_L) (i : Nat) (v : js_V) : js_L := (i, v) :: lv.filter (fun q => !(q.1 == i) && (!(q.1 == i + 1) && !(q.1 + 1 == i && js_cat q.2 == 2)))
theorem js_set1_eq (ρ : js_R) (lv : js_L) (i : Nat) (v : js_V) : jm_set1 (js_lv ρ lv) i (js_v ρ v) = js_lv ρ (js_set1 lv i v) := by
  unfold jm_set1 js_set1 js_lv
  rw [List.map_cons, List.filter_map]
  congr 2
  apply List.filter_congr
  intro q _
  simp [js_cat_eq]
theorem js_set2_eq (ρ : js_R) (lv : js_L) (i : Nat) (v : js_V) : jm_set2 (js_lv ρ lv) i (js_v ρ v) = js_lv ρ (js_set2 lv i v) := by
  unfold jm_set2 js_set2 js_lv
  rw [List.map_cons, List.filter_map]
  congr 2
  apply List.filter_congr
  intro q _
  simp [js_cat_eq]
def js_args : Nat → List js_V → js_L
  | _, [] => []
  | i, v :: vs => (i, v) :: js_args (if js_cat v = 2 then i + 2 else i + 1) vs
theorem js_args_eq (ρ : js_R) : ∀ (vs : List js_V) (i : Nat), lv_args i (vs.map (js_v ρ)) = js_lv ρ (js_args i vs) := by
  intro vs
  induction vs with
  | nil => intro i; rfl
  | cons v vs ih =>
    intro i
    show (i, js_v ρ v) :: lv_args (if (js_v ρ v).category = 2 then i + 2 else i + 1) (vs.map (js_v ρ)) = (i, js_v ρ v) :: js_lv ρ (js_args (if js_cat v = 2 then i + 2 else i + 1) vs)
    rw [js_cat_eq, ih]
theorem js_sl_len (ρ : js_R) (vs : List js_V) : (lg_sl (vs.map (js_v ρ))).length = (lg_sl (vs.map (js_v js_0))).length := by
  unfold lg_sl
  induction vs with
  | nil => rfl
  | cons v vs ih =>
    simp only [List.map_cons, List.flatMap_cons, List.length_append, js_cat_eq]
    rw [ih]
    congr 1
    split <;> rfl
/-! cells -/
def js_int (v : Value) : Int32 := match v with
  | .int x => x
  | _ => 0
def js_lng (v : Value) : Int64 := match v with
  | .long x => x
  | _ => 0
theorem js_int_eq {v : Value} (h : jm_isk 0 v = true) : .int (js_int v) = v := by
  cases v <;> first | rfl | cases h
theorem js_lng_eq {v : Value} (h : jm_isk 1 v = true) : .long (js_lng v) = v := by
  cases v <;> first | rfl | cases h
def js_fi (ρ : js_R) : List (Nat × js_V) → Nat → Int32
  | [] => fun _ => 0
  | q :: us => upd (js_fi ρ us) q.1 (js_int (js_v ρ q.2))
def js_fl (ρ : js_R) : List (Nat × js_V) → Nat → Int64
  | [] => fun _ => 0
  | q :: us => vp_updL (js_fl ρ us) q.1 (js_lng (js_v ρ q.2))
/-- what stands at a place -/
def js_lk : List (Nat × js_V) → Value → Nat → js_V
  | [], z, _ => .inl z
  | q :: us, z, j => bif Nat.beq j q.1 then q.2 else js_lk us z j
theorem js_fi_lk (ρ : js_R) : ∀ (us : List (Nat × js_V)) (j : Nat), js_fi ρ us j = js_int (js_v ρ (js_lk us (.int 0) j)) := by
  intro us
  induction us with
  | nil => intro j; rfl
  | cons q us ih =>
    intro j
    show (if j = q.1 then js_int (js_v ρ q.2) else js_fi ρ us j) = js_int (js_v ρ (bif Nat.beq j q.1 then q.2 else js_lk us (.int 0) j))
    by_cases h : j = q.1
    · rw [if_pos h, h, Nat.beq_refl]; rfl
    · rw [if_neg h, jm_bne h, ih]; rfl
theorem js_fl_lk (ρ : js_R) : ∀ (us : List (Nat × js_V)) (j : Nat), js_fl ρ us j = js_lng (js_v ρ (js_lk us (.long 0) j)) := by
  intro us
  induction us with
  | nil => intro j; rfl
  | cons q us ih =>
    intro j
    show (if j = q.1 then js_lng (js_v ρ q.2) else js_fl ρ us j) = js_lng (js_v ρ (bif Nat.beq j q.1 then q.2 else js_lk us (.long 0) j))
    by_cases h : j = q.1
    · rw [if_pos h, h, Nat.beq_refl]; rfl
    · rw [if_neg h, jm_bne h, ih]; rfl
def js_c (ρ : js_R) (x : js_C) : jm_c := match x with
  | .inl (t, n, us) => if t = 1 then .inl (1, n, .inr (.inl (js_fl ρ us))) else .inl (t, n, .inl (js_fi ρ us))
  | .inr (ci, fs) => .inr (ci, fs.map (js_v ρ))
def js_abs (ρ : js_R) (D : js_S) : jm_S := (D.length, fun k => match D[k]? with
  | some x => js_c ρ x
  | none => .inr (0, []))
theorem js_abs_set (ρ : js_R) {D : js_S} {a : Nat} (x : js_C) (h : a < D.length) : js_abs ρ (D.set a x) = jm_up (js_abs ρ D) a (js_c ρ x) := by
  unfold js_abs jm_up
  refine Prod.ext (by simp) ?_
  funext k
  show (match (D.set a x)[k]? with | some x => js_c ρ x | none => .inr (0, [])) = if k = a then js_c ρ x else (match D[k]? with | some x => js_c ρ x | none => .inr (0, []))
  by_cases hk : k = a
  · subst hk
    rw [if_pos rfl, List.getElem?_set_self h]
  · rw [if_neg hk, List.getElem?_set_ne (fun e => hk e.symm)]
theorem js_abs_add (ρ : js_R) (D : js_S) (x : js_C) : js_abs ρ (D ++ [x]) = jm_add (js_abs ρ D) (js_c ρ x) := by
  unfold js_abs jm_add
  refine Prod.ext (by simp) ?_
  funext k
  show (match (D ++ [x])[k]? with | some x => js_c ρ x | none => .inr (0, [])) = if k = D.length then js_c ρ x else (match D[k]? with | some x => js_c ρ x | none => .inr (0, []))
  by_cases hk : k = D.length
  · subst hk
    rw [if_pos rfl, List.getElem?_concat_length]
  · rw [if_neg hk]
    by_cases h2 : k < D.length
    · rw [List.getElem?_append_left h2]
    · have h3 : D.length < k := by omega
      rw [List.getElem?_eq_none (by simp; omega), List.getElem?_eq_none (by omega)]
theorem js_at (ρ : js_R) {D : js_S} {a : Nat} {x : js_C} (h : D[a]? = some x) : a < (js_abs ρ D).1 ∧ (js_abs ρ D).2 a = js_c ρ x := by
  refine ⟨(List.getElem?_eq_some_iff.mp h).1, ?_⟩
  show (match D[a]? with | some x => js_c ρ x | none => .inr (0, [])) = js_c ρ x
  rw [h]
end
section
/-! THE SYMBOLIC MACHINE, part 2: a step. What is known of symbols stands in two lists: comparisons of a symbol with a constant, and operations on symbols -/
abbrev js_A : Type := List (Nat × Nat × Int × Bool) × List (Nat × Nat × Int × js_V)
def js_qn (q : ClassFile.Cond) : Nat := match q with
  | .eq => 0
  | .ne => 1
  | .lt => 2
  | .ge => 3
  | .gt => 4
  | .le => 5
def js_oc (i : Instr) : Nat := match i with
  | .i2l => 1
  | .l2i => 2
  | .i2b => 3
  | .iand => 4
  | .land => 5
  | .lshl => 6
  | .lshr => 7
  | .lushr => 8
  | .lor => 9
  | _ => 0
def js_op (o : Nat) : Instr := match o with
  | 1 => .i2l
  | 2 => .l2i
  | 3 => .i2b
  | 4 => .iand
  | 5 => .land
  | 6 => .lshl
  | 7 => .lshr
  | 8 => .lushr
  | _ => .lor
theorem js_oc_op {i : Instr} (h : js_oc i ≠ 0) : js_op (js_oc i) = i := by
  cases i <;> first | rfl | exact absurd rfl h
/-- two values to one -/
def js_bin (i : Instr) (x y : Value) : Option Value := match x, y with
  | .int x, .int y => (match jm_ib i x y with
    | some z => some (.int z)
    | none => none)
  | .long x, .long y => (match i with
    | .lcmp => some (.int (lg_cmp x y))
    | _ => match jm_lb i x y with
      | some z => some (.long z)
      | none => none)
  | .long x, .int y => (match jm_ls i x y with
    | some z => some (.long z)
    | none => none)
  | _, _ => none
theorem js_bin_al {i : Instr} {x y z : Value} (h : js_bin i x y = some z) (r : List Value) : jm_al i (y :: x :: r) = some (z :: r) := by
  unfold js_bin at h
  split at h
  · rename_i x y
    split at h
    · rename_i z' hz
      cases h
      show (match jm_ib i x y with | some z => some (Value.int z :: r) | none => _) = _
      rw [hz]
    · cases h
  · rename_i x y
    split at h
    · cases h; rfl
    · rename_i hne
      split at h
      · rename_i z' hz
        cases h
        have : jm_al i (.long y :: .long x :: r) = (match jm_lb i x y with | some z => some (.long z :: r) | none => match jm_un i (.long y) with | some z => some (z :: .long x :: r) | none => none) := by
          cases i <;> first | rfl | exact absurd rfl hne
        rw [this, hz]
      · cases h
  · rename_i x y
    split at h
    · rename_i z' hz
      cases h
      show (match jm_ls i x y with | some z => some (Value.long z :: r) | none => _) = _
      rw [hz]
    · cases h
  · cases h
def js_isu (i : Instr) : Bool := match i with
  | .i2l => true
  | .l2i => true
  | .i2b => true
  | .ineg => true
  | .lneg => true
  | .i2s => true
  | .i2c => true
  | _ => false
theorem js_un_al {i : Instr} {y z : Value} (hu : js_isu i = true) (h : jm_un i y = some z) (r : List Value) : jm_al i (y :: r) = some (z :: r) := by
  have hb : ∀ a b : Int32, jm_ib i a b = none := by intro a b; cases i <;> first | rfl | cases hu
  have hl : ∀ a b : Int64, jm_lb i a b = none := by intro a b; cases i <;> first | rfl | cases hu
  have hs : ∀ (a : Int64) (b : Int32), jm_ls i a b = none := by intro a b; cases i <;> first | rfl | cases hu
  have hc : i ≠ .lcmp := by intro e; subst e; cases hu
  unfold jm_al
  split
  · rename_i e; cases e; rw [hb]; dsimp only; rw [h]
  · rename_i e; cases e
    split
    · exact absurd rfl hc
    · rw [hl]; dsimp only; rw [h]
  · rename_i e; cases e; rw [hs]; dsimp only; rw [h]
  · rename_i e; cases e; rw [h]
  · rename_i e; cases e
def js_iss (i : Instr) : Bool := match i with
  | .dup => true
  | .pop => true
  | .dup_x1 => true
  | .dup_x2 => true
  | .dup2 => true
  | .pop2 => true
  | _ => false
theorem js_iss_al {i : Instr} (hu : js_iss i = true) (st : List Value) : jm_al i st = none := by
  have hb : ∀ a b : Int32, jm_ib i a b = none := by intro a b; cases i <;> first | rfl | cases hu
  have hl : ∀ a b : Int64, jm_lb i a b = none := by intro a b; cases i <;> first | rfl | cases hu
  have hs : ∀ (a : Int64) (b : Int32), jm_ls i a b = none := by intro a b; cases i <;> first | rfl | cases hu
  have hn : ∀ a : Value, jm_un i a = none := by intro a; cases i <;> first | rfl | cases hu
  have hc : i ≠ .lcmp := by intro e; subst e; cases hu
  unfold jm_al
  split
  · rw [hb]; dsimp only; rw [hn]
  · split
    · exact absurd rfl hc
    · rw [hl]; dsimp only; rw [hn]
  · rw [hs]; dsimp only; rw [hn]
  · rw [hn]
  · rfl
/-- the constant of a rule -/
def js_yv (ρ : js_R) (o : Nat) (c : Int) : Value := if o = 5 then .long (Int64.ofInt c) else if o = 9 then js_v ρ (.inr c.toNat) else .int (Int32.ofInt c)
def js_fact (ρ : js_R) (r : Nat × Nat × Int × js_V) : Prop :=
  if r.1 ≤ 3 then jm_un (js_op r.1) (js_v ρ (.inr r.2.1)) = some (js_v ρ r.2.2.2) else js_bin (js_op r.1) (js_v ρ (.inr r.2.1)) (js_yv ρ r.1 r.2.2.1) = some (js_v ρ r.2.2.2)
def js_true (ρ : js_R) (A : js_A) : Prop :=
  (∀ r ∈ A.1, ∀ q, js_qn q = r.1 → jm_cc q (ρ.1 r.2.1) (Int32.ofInt r.2.2.1) = r.2.2.2) ∧ ∀ r ∈ A.2, js_fact ρ r
def js_cmp (A : js_A) (q : ClassFile.Cond) (k : Nat) (c : Int32) : Option Bool := match A.1.find? (fun r => Nat.beq r.1 (js_qn q) && (Nat.beq r.2.1 k && decide (Int32.ofInt r.2.2.1 = c))) with
  | some r => some r.2.2.2
  | none => none
def js_r1 (A : js_A) (o k : Nat) : Option js_V := match A.2.find? (fun r => Nat.beq r.1 o && Nat.beq r.2.1 k) with
  | some r => some r.2.2.2
  | none => none
def js_r2 (A : js_A) (o k : Nat) (y : Value) : Option js_V := match A.2.find? (fun r => Nat.beq r.1 o && (Nat.beq r.2.1 k && decide (js_yv js_0 o r.2.2.1 = y))) with
  | some r => some r.2.2.2
  | none => none
def js_r3 (A : js_A) (k1 k2 : Nat) : Option js_V := match A.2.find? (fun r => Nat.beq r.1 9 && (Nat.beq r.2.1 k1 && decide (r.2.2.1 = (k2 : Int)))) with
  | some r => some r.2.2.2
  | none => none
theorem js_cmp_ok {ρ : js_R} {A : js_A} (hA : js_true ρ A) {q : ClassFile.Cond} {k : Nat} {c : Int32} {b : Bool} (h : js_cmp A q k c = some b) : jm_cc q (ρ.1 k) c = b := by
  unfold js_cmp at h
  split at h
  · rename_i r hr
    cases h
    have h1 := List.find?_some hr
    have h2 := hA.1 r (List.mem_of_find?_eq_some hr)
    simp only [Bool.and_eq_true, decide_eq_true_eq] at h1
    have e1 := Nat.eq_of_beq_eq_true h1.1
    have e2 := Nat.eq_of_beq_eq_true h1.2.1
    have e3 := h1.2.2
    have h3 := h2 q e1.symm
    rw [e2, e3] at h3
    exact h3
  · cases h
theorem js_cz_cc (q : ClassFile.Cond) (x : Int32) : jm_cz q x = jm_cc q x 0 := by cases q <;> rfl
theorem js_r1_ok {ρ : js_R} {A : js_A} (hA : js_true ρ A) {o k : Nat} {z : js_V} (ho : o ≤ 3) (h : js_r1 A o k = some z) : jm_un (js_op o) (js_v ρ (.inr k)) = some (js_v ρ z) := by
  unfold js_r1 at h
  split at h
  · rename_i r hr
    cases h
    have h1 := List.find?_some hr
    have h2 := hA.2 r (List.mem_of_find?_eq_some hr)
    simp only [Bool.and_eq_true] at h1
    have e1 := Nat.eq_of_beq_eq_true h1.1
    have e2 := Nat.eq_of_beq_eq_true h1.2
    unfold js_fact at h2
    rw [e1, e2, if_pos ho] at h2
    exact h2
  · cases h
theorem js_r2_ok {ρ : js_R} {A : js_A} (hA : js_true ρ A) {o k : Nat} {y : Value} {z : js_V} (ho : ¬ o ≤ 3) (h9 : o ≠ 9) (h : js_r2 A o k y = some z) : js_bin (js_op o) (js_v ρ (.inr k)) y = some (js_v ρ z) := by
  unfold js_r2 at h
  split at h
  · rename_i r hr
    cases h
    have h1 := List.find?_some hr
    have h2 := hA.2 r (List.mem_of_find?_eq_some hr)
    simp only [Bool.and_eq_true, decide_eq_true_eq] at h1
    have e1 := Nat.eq_of_beq_eq_true h1.1
    have e2 := Nat.eq_of_beq_eq_true h1.2.1
    have e3 := h1.2.2
    unfold js_fact at h2
    rw [e1, e2, if_neg ho] at h2
    have e4 : js_yv ρ o r.2.2.1 = js_yv js_0 o r.2.2.1 := by
      unfold js_yv
      rw [if_neg h9, if_neg h9]
    rw [e4, e3] at h2
    exact h2
  · cases h
theorem js_r3_ok {ρ : js_R} {A : js_A} (hA : js_true ρ A) {k1 k2 : Nat} {z : js_V} (h : js_r3 A k1 k2 = some z) : js_bin .lor (js_v ρ (.inr k1)) (js_v ρ (.inr k2)) = some (js_v ρ z) := by
  unfold js_r3 at h
  split at h
  · rename_i r hr
    cases h
    have h1 := List.find?_some hr
    have h2 := hA.2 r (List.mem_of_find?_eq_some hr)
    simp only [Bool.and_eq_true, decide_eq_true_eq] at h1
    have e1 := Nat.eq_of_beq_eq_true h1.1
    have e2 := Nat.eq_of_beq_eq_true h1.2.1
    have e3 := h1.2.2
    unfold js_fact at h2
    rw [e1, e2, e3, if_neg (by decide)] at h2
    exact h2
  · cases h
def js_al (A : js_A) (i : Instr) (st : List js_V) : Option (List js_V) :=
  if js_isu i = true then (match st with
    | .inl y :: r => (match jm_un i y with
      | some z => some (.inl z :: r)
      | none => none)
    | .inr k :: r => if js_oc i ≠ 0 ∧ js_oc i ≤ 3 then (match js_r1 A (js_oc i) k with
      | some z => some (z :: r)
      | none => none) else none
    | [] => none)
  else (match st with
    | .inl y :: .inl x :: r => (match js_bin i x y with
      | some z => some (.inl z :: r)
      | none => none)
    | .inl y :: .inr k :: r => if ¬ js_oc i ≤ 3 ∧ js_oc i ≠ 9 then (match js_r2 A (js_oc i) k y with
      | some z => some (z :: r)
      | none => none) else none
    | .inr y :: .inr x :: r => if js_oc i = 9 then (match js_r3 A x y with
      | some z => some (z :: r)
      | none => none) else none
    | _ => none)
theorem js_al_eq {ρ : js_R} {A : js_A} (hA : js_true ρ A) {i : Instr} {st st' : List js_V} (h : js_al A i st = some st') : jm_al i (st.map (js_v ρ)) = some (st'.map (js_v ρ)) := by
  unfold js_al at h
  split at h
  · rename_i hu
    split at h
    · rename_i y r
      split at h
      · rename_i z hz
        cases h
        exact js_un_al hu hz _
      · cases h
    · rename_i k r
      split at h
      · rename_i ho
        split at h
        · rename_i z hz
          cases h
          have h1 := js_r1_ok hA ho.2 hz
          rw [js_oc_op ho.1] at h1
          exact js_un_al hu h1 _
        · cases h
      · cases h
    · cases h
  · split at h
    · rename_i y x r
      split at h
      · rename_i z hz
        cases h
        exact js_bin_al hz _
      · cases h
    · rename_i y k r
      split at h
      · rename_i ho
        split at h
        · rename_i z hz
          cases h
          have h1 := js_r2_ok hA ho.1 ho.2 hz
          rw [js_oc_op (fun e => ho.1 (by rw [e]; decide))] at h1
          exact js_bin_al h1 _
        · cases h
      · cases h
    · rename_i y x r
      split at h
      · rename_i ho
        split at h
        · rename_i z hz
          cases h
          have h1 := js_r3_ok hA hz
          have h2 : i = .lor := by
            rw [← js_oc_op (i := i) (by rw [ho]; decide), ho]
            rfl
          rw [h2]
          exact js_bin_al h1 _
        · cases h
      · cases h
    · cases h
def js_sk (i : Instr) (st : List js_V) : Option (List js_V) := match i, st with
  | .dup, a :: r => if js_cat a = 1 then some (a :: a :: r) else none
  | .pop, a :: r => if js_cat a = 1 then some r else none
  | .dup_x1, a :: b :: r => if js_cat a = 1 ∧ js_cat b = 1 then some (a :: b :: a :: r) else none
  | .dup_x2, a :: b :: d :: r => if js_cat a = 1 ∧ js_cat b = 1 ∧ js_cat d = 1 then some (a :: b :: d :: a :: r) else none
  | .dup2, a :: b :: r => if js_cat a = 1 ∧ js_cat b = 1 then some (a :: b :: a :: b :: r) else none
  | .pop2, a :: r => if js_cat a = 2 then some r else none
  | _, _ => none
theorem js_sk_eq (ρ : js_R) {i : Instr} {st st' : List js_V} (h : js_sk i st = some st') : js_iss i = true ∧ jm_sk i (st.map (js_v ρ)) = some (st'.map (js_v ρ)) := by
  unfold js_sk at h
  split at h
  · rename_i a r
    split at h
    · rename_i hc
      cases h
      refine ⟨rfl, ?_⟩
      show (if (js_v ρ a).category = 1 then _ else _) = _
      rw [js_cat_eq, if_pos hc]
      rfl
    · cases h
  · rename_i a r
    split at h
    · rename_i hc
      cases h
      refine ⟨rfl, ?_⟩
      show (if (js_v ρ a).category = 1 then _ else _) = _
      rw [js_cat_eq, if_pos hc]
    · cases h
  · rename_i a b r
    split at h
    · rename_i hc
      cases h
      refine ⟨rfl, ?_⟩
      show (if (js_v ρ a).category = 1 ∧ (js_v ρ b).category = 1 then _ else _) = _
      rw [js_cat_eq, js_cat_eq, if_pos hc]
      rfl
    · cases h
  · rename_i a b d r
    split at h
    · rename_i hc
      cases h
      refine ⟨rfl, ?_⟩
      show (if (js_v ρ a).category = 1 ∧ (js_v ρ b).category = 1 ∧ (js_v ρ d).category = 1 then _ else _) = _
      rw [js_cat_eq, js_cat_eq, js_cat_eq, if_pos hc]
      rfl
    · cases h
  · rename_i a b r
    split at h
    · rename_i hc
      cases h
      refine ⟨rfl, ?_⟩
      show (if (js_v ρ a).category = 2 then _ else (if (js_v ρ a).category = 1 ∧ (js_v ρ b).category = 1 then _ else _)) = _
      rw [js_cat_eq, js_cat_eq, if_neg (by omega), if_pos hc]
      rfl
    · cases h
  · rename_i a r
    split at h
    · rename_i hc
      cases h
      refine ⟨rfl, ?_⟩
      show (if (js_v ρ a).category = 2 then _ else _) = _
      rw [js_cat_eq, if_pos hc]
    · cases h
  · cases h
def js_mis (A : js_A) (M : jm_M) (i : Instr) (len pc : Nat) (lv : js_L) (st : List js_V) : Option (Nat × js_L × List js_V) := match i, len with
  | .iinc n z, 3 => (match js_get lv n with
    | some (.inl (.int x)) => if n < M.2.2.1 then some (pc + 3, js_set1 lv n (.inl (.int (x + Int32.ofInt z))), st) else none
    | _ => none)
  | .ldc idx, 2 => (match jp_K (jm_q M) idx with
    | some (.int x) => some (pc + 2, lv, .inl (.int x) :: st)
    | _ => none)
  | .ldc_w idx, 3 => (match jp_K (jm_q M) idx with
    | some (.int x) => some (pc + 3, lv, .inl (.int x) :: st)
    | _ => none)
  | .ldc2_w idx, 3 => (match jp_K (jm_q M) idx with
    | some (.long x) => some (pc + 3, lv, .inl (.long x) :: st)
    | _ => none)
  | i, 1 => if js_iss i = true then (match js_sk i st with
    | some st' => some (pc + 1, lv, st')
    | none => none) else (match js_al A i st with
    | some st' => some (pc + 1, lv, st')
    | none => none)
  | _, _ => none
theorem js_mis1 (M : jm_M) (i : Instr) (pc : Nat) (lv : jm_L) (st : List Value) : jm_mis M i 1 pc lv st = (match jm_al i st with
    | some st' => some (pc + 1, lv, st')
    | none => match jm_sk i st with
      | some st' => some (pc + 1, lv, st')
      | none => none) := by cases i <;> rfl
theorem js_mis_eq {ρ : js_R} {A : js_A} (hA : js_true ρ A) {M : jm_M} {i : Instr} {len pc pc' : Nat} {lv lv' : js_L} {st st' : List js_V} (h : js_mis A M i len pc lv st = some (pc', lv', st')) : jm_mis M i len pc (js_lv ρ lv) (st.map (js_v ρ)) = some (pc', js_lv ρ lv', st'.map (js_v ρ)) := by
  unfold js_mis at h
  split at h
  · rename_i n z
    split at h
    · rename_i x hx
      split at h
      · rename_i hn
        cases h
        show (match jm_get (js_lv ρ lv) n with | some (.int x) => if n < M.2.2.1 then some (pc + 3, jm_set1 (js_lv ρ lv) n (.int (x + Int32.ofInt z)), st.map (js_v ρ)) else none | _ => none) = _
        rw [js_get_eq ρ hx]
        show (if n < M.2.2.1 then some (pc + 3, jm_set1 (js_lv ρ lv) n (.int (x + Int32.ofInt z)), st.map (js_v ρ)) else none) = _
        rw [if_pos hn, ← js_set1_eq]
        rfl
      · cases h
    · cases h
  · rename_i idx
    split at h
    · rename_i x hx
      cases h
      show (match jp_K (jm_q M) idx with | some (.int x) => some (pc + 2, js_lv ρ lv, Value.int x :: st.map (js_v ρ)) | _ => none) = _
      rw [hx]
      rfl
    · cases h
  · rename_i idx
    split at h
    · rename_i x hx
      cases h
      show (match jp_K (jm_q M) idx with | some (.int x) => some (pc + 3, js_lv ρ lv, Value.int x :: st.map (js_v ρ)) | _ => none) = _
      rw [hx]
      rfl
    · cases h
  · rename_i idx
    split at h
    · rename_i x hx
      cases h
      show (match jp_K (jm_q M) idx with | some (.long x) => some (pc + 3, js_lv ρ lv, Value.long x :: st.map (js_v ρ)) | _ => none) = _
      rw [hx]
      rfl
    · cases h
  · split at h
    · rename_i hi
      split at h
      · rename_i st1 hs
        cases h
        obtain ⟨-, h2⟩ := js_sk_eq ρ hs
        have h1 := js_iss_al hi (st.map (js_v ρ))
        rw [js_mis1, h1]
        dsimp only
        rw [h2]
      · cases h
    · split at h
      · rename_i st1 hs
        cases h
        have h2 := js_al_eq hA hs
        rw [js_mis1, h2]
      · cases h
  · cases h
end
section
/-! THE SYMBOLIC MACHINE, part 3: jumps, cells, a step -/
theorem js_vi {ρ : js_R} {k : Nat} (h : Nat.blt k 100 = true) : js_v ρ (.inr k) = .int (ρ.1 k) := by
  unfold js_v
  dsimp only
  rw [h]
  rfl
/-- a comparison, its sides changed -/
def js_sw (q : ClassFile.Cond) : ClassFile.Cond := match q with
  | .eq => .eq
  | .ne => .ne
  | .lt => .gt
  | .ge => .le
  | .gt => .lt
  | .le => .ge
theorem js_sw_eq (q : ClassFile.Cond) (x y : Int32) : jm_cc q x y = jm_cc (js_sw q) y x := by
  cases q
  · exact decide_eq_decide.mpr eq_comm
  · exact decide_eq_decide.mpr (not_congr eq_comm)
  · rfl
  · rfl
  · rfl
  · rfl
def js_br (A : js_A) (i : Instr) (len pc : Nat) (st : List js_V) : Option (Nat × List js_V) := match i, len, st with
  | .goto off, 3, r => if jm_ok pc off = true then some (jm_at pc off, r) else none
  | .ifCond q off, 3, .inl (.int x) :: r => if jm_ok pc off = true then some (if jm_cz q x = true then jm_at pc off else pc + 3, r) else none
  | .ifCond q off, 3, .inr k :: r => if jm_ok pc off = true ∧ Nat.blt k 100 = true then (match js_cmp A q k 0 with
    | some b => some (if b = true then jm_at pc off else pc + 3, r)
    | none => none) else none
  | .if_icmp q off, 3, .inl (.int y) :: .inl (.int x) :: r => if jm_ok pc off = true then some (if jm_cc q x y = true then jm_at pc off else pc + 3, r) else none
  | .if_icmp q off, 3, .inl (.int y) :: .inr k :: r => if jm_ok pc off = true ∧ Nat.blt k 100 = true then (match js_cmp A q k y with
    | some b => some (if b = true then jm_at pc off else pc + 3, r)
    | none => none) else none
  | .if_icmp q off, 3, .inr k :: .inl (.int x) :: r => if jm_ok pc off = true ∧ Nat.blt k 100 = true then (match js_cmp A (js_sw q) k x with
    | some b => some (if b = true then jm_at pc off else pc + 3, r)
    | none => none) else none
  | .ifnull _, 3, .inl (.ref _) :: r => some (pc + 3, r)
  | .ifnonnull off, 3, .inl (.ref _) :: r => if jm_ok pc off = true then some (jm_at pc off, r) else none
  | .tableswitch dflt lo hi offs, _, .inl (.int x) :: r =>
    if x.toInt < lo ∨ hi < x.toInt then (if jm_ok pc dflt = true then some (jm_at pc dflt, r) else none)
    else (match offs[(x.toInt - lo).toNat]? with
      | some off => if jm_ok pc off = true then some (jm_at pc off, r) else none
      | none => none)
  | .tableswitch dflt lo hi _, _, .inr k :: r => if (Nat.blt k 100 = true ∧ jm_ok pc dflt = true) ∧ ((js_cmp A .lt k (Int32.ofInt lo) = some true ∧ (Int32.ofInt lo).toInt = lo) ∨ (js_cmp A .gt k (Int32.ofInt hi) = some true ∧ (Int32.ofInt hi).toInt = hi)) then some (jm_at pc dflt, r) else none
  | .lookupswitch dflt ps, _, .inl (.int x) :: r =>
    if (ps.toList.zip (ps.toList.drop 1)).all (fun (a, next) => a.1 < next.1) = true ∧ jm_ok pc (Op.lookupswitch.offset ps.toList dflt x.toInt) = true then some (jm_at pc (Op.lookupswitch.offset ps.toList dflt x.toInt), r) else none
  | _, _, _ => none
theorem js_br_eq {ρ : js_R} {A : js_A} (hA : js_true ρ A) {i : Instr} {len pc pc' : Nat} {st st' : List js_V} (h : js_br A i len pc st = some (pc', st')) : jm_br i len pc (st.map (js_v ρ)) = some (pc', st'.map (js_v ρ)) := by
  unfold js_br at h
  split at h
  · split at h
    · rename_i hk; cases h; exact if_pos hk
    · cases h
  · split at h
    · rename_i hk; cases h; exact if_pos hk
    · cases h
  · rename_i q off k r
    split at h
    · rename_i hk
      split at h
      · rename_i b hb
        cases h
        have h1 := js_cmp_ok hA hb
        rw [List.map_cons, js_vi hk.2]
        show (if jm_ok pc off = true then some (if jm_cz q (ρ.1 k) = true then jm_at pc off else pc + 3, st'.map (js_v ρ)) else none) = _
        rw [if_pos hk.1, js_cz_cc, h1]
      · cases h
    · cases h
  · split at h
    · rename_i hk; cases h; exact if_pos hk
    · cases h
  · rename_i q off y k r
    split at h
    · rename_i hk
      split at h
      · rename_i b hb
        cases h
        have h1 := js_cmp_ok hA hb
        rw [List.map_cons, List.map_cons, js_vi hk.2]
        show (if jm_ok pc off = true then some (if jm_cc q (ρ.1 k) y = true then jm_at pc off else pc + 3, st'.map (js_v ρ)) else none) = _
        rw [if_pos hk.1, h1]
      · cases h
    · cases h
  · rename_i q off k x r
    split at h
    · rename_i hk
      split at h
      · rename_i b hb
        cases h
        have h1 := js_cmp_ok hA hb
        rw [← js_sw_eq] at h1
        rw [List.map_cons, List.map_cons, js_vi hk.2]
        show (if jm_ok pc off = true then some (if jm_cc q x (ρ.1 k) = true then jm_at pc off else pc + 3, st'.map (js_v ρ)) else none) = _
        rw [if_pos hk.1, h1]
      · cases h
    · cases h
  · cases h; rfl
  · split at h
    · rename_i hk; cases h; exact if_pos hk
    · cases h
  · rename_i dflt lo hi offs x r
    show (if x.toInt < lo ∨ hi < x.toInt then (if jm_ok pc dflt = true then some (jm_at pc dflt, r.map (js_v ρ)) else none) else (match offs[(x.toInt - lo).toNat]? with
      | some off => if jm_ok pc off = true then some (jm_at pc off, r.map (js_v ρ)) else none
      | none => none)) = _
    split at h
    · rename_i hx
      rw [if_pos hx]
      split at h
      · rename_i hk; cases h; exact if_pos hk
      · cases h
    · rename_i hx
      rw [if_neg hx]
      split at h
      · rename_i off ho
        split at h
        · rename_i hk; cases h; exact if_pos hk
        · cases h
      · cases h
  · rename_i dflt lo hi offs k r
    split at h
    · rename_i hk
      cases h
      rw [List.map_cons, js_vi hk.1.1]
      show (if (ρ.1 k).toInt < lo ∨ hi < (ρ.1 k).toInt then (if jm_ok pc dflt = true then some (jm_at pc dflt, st'.map (js_v ρ)) else none) else _) = _
      have hx : (ρ.1 k).toInt < lo ∨ hi < (ρ.1 k).toInt := by
        rcases hk.2 with ⟨h1, h2⟩ | ⟨h1, h2⟩
        · left
          have h3 := js_cmp_ok hA h1
          have h4 : ρ.1 k < Int32.ofInt lo := of_decide_eq_true h3
          rw [← h2]
          exact Int32.lt_iff_toInt_lt.mp h4
        · right
          have h3 := js_cmp_ok hA h1
          have h4 : Int32.ofInt hi < ρ.1 k := of_decide_eq_true h3
          rw [← h2]
          exact Int32.lt_iff_toInt_lt.mp h4
      rw [if_pos hx, if_pos hk.1.2]
    · cases h
  · rename_i dflt ps x r
    split at h
    · rename_i hk
      cases h
      exact if_pos hk
    · cases h
  · cases h
def js_isb (i : Instr) : Bool := match i with
  | .goto _ => true
  | .ifCond _ _ => true
  | .if_icmp _ _ => true
  | .ifnull _ => true
  | .ifnonnull _ => true
  | .tableswitch _ _ _ _ => true
  | .lookupswitch _ _ => true
  | _ => false
theorem js_isb_no {i : Instr} (h : js_isb i = false) (len pc : Nat) (st : List Value) : jm_br i len pc st = none := by
  unfold jm_br
  split <;> first | rfl | cases h
def js_isc (i : Instr) : Bool := match i with
  | .getfield _ => true
  | .putfield _ => true
  | .getstatic _ => true
  | .arraylength => true
  | .new _ => true
  | .newarray _ => true
  | .iaload => true
  | .baload => true
  | .laload => true
  | .iastore => true
  | .bastore => true
  | .lastore => true
  | _ => false
theorem js_isc_rd {i : Instr} (h : js_isc i = false) (j : Int32) (x : jm_c) : jm_rd i j x = none := by
  unfold jm_rd
  split <;> first | rfl | cases h
theorem js_isc_rs {i : Instr} (h : js_isc i = false) (j : Int32) (x : Nat × Nat × (Nat → Value)) : jm_rs i j x = none := by
  unfold jm_rs
  split <;> first | rfl | cases h
theorem js_isc_wr {i : Instr} (h : js_isc i = false) (v : Value) (j : Int32) (x : jm_c) : jm_wr i v j x = none := by
  unfold jm_wr
  split <;> first | rfl | cases h
theorem js_isc_no {i : Instr} (h : js_isc i = false) (X : jm_X) (M : jm_M) (len : Nat) (st : List Value) (S : jm_S) : jm_cell X M i len st S = none := by
  unfold jm_cell
  split
  · cases h
  · cases h
  · cases h
  · cases h
  · cases h
  · cases h
  · rw [js_isc_rd h]
    dsimp only
    split
    · rfl
    · split
      · rw [js_isc_rs h]
      · rfl
  · rw [js_isc_wr h]
    dsimp only
    split <;> rfl
  · rfl
def js_fit (ty : FieldType) (v : js_V) : Bool := match v, ty with
  | .inl x, ty => jm_fit ty x
  | .inr k, .int => Nat.blt k 100
  | .inr k, .long => !(Nat.blt k 100)
  | _, _ => false
theorem js_fit_eq (ρ : js_R) {ty : FieldType} {v : js_V} (h : js_fit ty v = true) : jm_fit ty (js_v ρ v) = true := by
  unfold js_fit at h
  split at h
  · exact h
  · rename_i k
    rw [js_vi h]
    rfl
  · rename_i k
    have h1 : Nat.blt k 100 = false := by simpa using h
    unfold js_v
    dsimp only
    rw [h1]
    rfl
  · cases h
def js_rd (i : Instr) (j : Int32) (x : Nat × Nat × List (Nat × js_V)) : Option js_V := match i, x with
  | .iaload, (0, n, us) => if jm_in j n = true ∧ js_isk 0 (js_lk us (.int 0) j.toNatClampNeg) = true then some (js_lk us (.int 0) j.toNatClampNeg) else none
  | .baload, (2, n, us) => if jm_in j n = true ∧ js_isk 0 (js_lk us (.int 0) j.toNatClampNeg) = true then some (js_lk us (.int 0) j.toNatClampNeg) else none
  | .baload, (3, n, us) => if jm_in j n = true ∧ js_isk 0 (js_lk us (.int 0) j.toNatClampNeg) = true then some (js_lk us (.int 0) j.toNatClampNeg) else none
  | .laload, (1, n, us) => if jm_in j n = true ∧ js_isk 1 (js_lk us (.long 0) j.toNatClampNeg) = true then some (js_lk us (.long 0) j.toNatClampNeg) else none
  | _, _ => none
theorem js_rd_eq (ρ : js_R) {i : Instr} {j : Int32} {x : Nat × Nat × List (Nat × js_V)} {v : js_V} (h : js_rd i j x = some v) : jm_rd i j (js_c ρ (.inl x)) = some (js_v ρ v) := by
  unfold js_rd at h
  split at h
  · rename_i n us
    split at h
    · rename_i hk
      cases h
      show (if jm_in j n = true then some (Value.int (js_fi ρ us j.toNatClampNeg)) else none) = _
      rw [if_pos hk.1, js_fi_lk, js_int_eq (by rw [js_isk_eq]; exact hk.2)]
    · cases h
  · rename_i n us
    split at h
    · rename_i hk
      cases h
      show (if jm_in j n = true then some (Value.int (js_fi ρ us j.toNatClampNeg)) else none) = _
      rw [if_pos hk.1, js_fi_lk, js_int_eq (by rw [js_isk_eq]; exact hk.2)]
    · cases h
  · rename_i n us
    split at h
    · rename_i hk
      cases h
      show (if jm_in j n = true then some (Value.int (js_fi ρ us j.toNatClampNeg)) else none) = _
      rw [if_pos hk.1, js_fi_lk, js_int_eq (by rw [js_isk_eq]; exact hk.2)]
    · cases h
  · rename_i n us
    split at h
    · rename_i hk
      cases h
      show (if jm_in j n = true then some (Value.long (js_fl ρ us j.toNatClampNeg)) else none) = _
      rw [if_pos hk.1, js_fl_lk, js_lng_eq (by rw [js_isk_eq]; exact hk.2)]
    · cases h
  · cases h
def js_wr (A : js_A) (i : Instr) (v : js_V) (j : Int32) (x : Nat × Nat × List (Nat × js_V)) : Option (Nat × Nat × List (Nat × js_V)) := match i, v, x with
  | .iastore, v, (0, n, us) => if jm_in j n = true ∧ js_isk 0 v = true then some (0, n, (j.toNatClampNeg, v) :: us) else none
  | .bastore, .inl (.int z), (2, n, us) => if jm_in j n = true then some (2, n, (j.toNatClampNeg, .inl (.int (z &&& 1))) :: us) else none
  | .bastore, .inl (.int z), (3, n, us) => if jm_in j n = true then some (3, n, (j.toNatClampNeg, .inl (.int z.toInt8.toInt32)) :: us) else none
  | .bastore, .inr k, (3, n, us) => if jm_in j n = true ∧ Nat.blt k 100 = true then (match js_r1 A 3 k with
    | some w => some (3, n, (j.toNatClampNeg, w) :: us)
    | none => none) else none
  | .lastore, v, (1, n, us) => if jm_in j n = true ∧ js_isk 1 v = true then some (1, n, (j.toNatClampNeg, v) :: us) else none
  | _, _, _ => none
theorem js_wr_eq {ρ : js_R} {A : js_A} (hA : js_true ρ A) {i : Instr} {v : js_V} {j : Int32} {x x' : Nat × Nat × List (Nat × js_V)} (h : js_wr A i v j x = some x') : jm_wr i (js_v ρ v) j (js_c ρ (.inl x)) = some (js_c ρ (.inl x')) := by
  unfold js_wr at h
  split at h
  · rename_i n us
    split at h
    · rename_i hk
      cases h
      have e := js_int_eq (v := js_v ρ v) (by rw [js_isk_eq]; exact hk.2)
      show jm_wr .iastore (js_v ρ v) j (.inl (0, n, .inl (js_fi ρ us))) = some (.inl (0, n, .inl (upd (js_fi ρ us) j.toNatClampNeg (js_int (js_v ρ v)))))
      generalize js_v ρ v = w at e
      rw [← e]
      exact if_pos hk.1
    · cases h
  · rename_i z n us
    split at h
    · rename_i hk
      cases h
      show (if jm_in j n = true then some _ else none) = _
      rw [if_pos hk]
      rfl
    · cases h
  · rename_i z n us
    split at h
    · rename_i hk
      cases h
      show (if jm_in j n = true then some _ else none) = _
      rw [if_pos hk]
      rfl
    · cases h
  · rename_i k n us
    split at h
    · rename_i hk
      split at h
      · rename_i w hw
        cases h
        have h1 := js_r1_ok hA (by decide) hw
        rw [js_vi hk.2] at h1
        have h2 : js_v ρ w = .int (ρ.1 k).toInt8.toInt32 := (Option.some.inj h1).symm
        rw [js_vi hk.2]
        show (if jm_in j n = true then some ((Sum.inl (3, n, Sum.inl (upd (js_fi ρ us) j.toNatClampNeg (ρ.1 k).toInt8.toInt32))) : jm_c) else none) = some ((Sum.inl (3, n, Sum.inl (upd (js_fi ρ us) j.toNatClampNeg (js_int (js_v ρ w))))) : jm_c)
        rw [if_pos hk.1, h2]
        rfl
      · cases h
    · cases h
  · rename_i n us
    split at h
    · rename_i hk
      cases h
      have e := js_lng_eq (v := js_v ρ v) (by rw [js_isk_eq]; exact hk.2)
      show jm_wr .lastore (js_v ρ v) j (.inl (1, n, .inr (.inl (js_fl ρ us)))) = some (.inl (1, n, .inr (.inl (vp_updL (js_fl ρ us) j.toNatClampNeg (js_lng (js_v ρ v))))))
      generalize js_v ρ v = w at e
      rw [← e]
      exact if_pos hk.1
    · cases h
  · cases h
def js_ise (i : Instr) : Nat := match i with
  | .iaload => 1
  | .baload => 1
  | .laload => 1
  | .iastore => 2
  | .bastore => 2
  | .lastore => 2
  | _ => 0
def js_isia (i : Instr) : Bool := match i with
  | .iaload => true
  | _ => false
/-- the script, where it is known: an int, or a symbol, for each place -/
abbrev js_sc : Type := Option (List js_V)
/-- elements: read, written -/
def js_elem (L : js_sc) (A : js_A) (i : Instr) (st : List js_V) (D : js_S) : Option (List js_V × js_S) := match js_ise i, st with
  | 1, .inl (.int j) :: .inl (.ref a) :: r => (match D[a]? with
    | some (.inl x) => (match js_rd i j x with
      | some v => some (v :: r, D)
      | none => none)
    | some (.inr _) => none
    | none => bif Nat.beq a 1000000 then (match L with
      | some l => if js_isia i = true ∧ jm_in j l.length = true then (match l[j.toNatClampNeg]? with
        | some v => some (v :: r, D)
        | none => none) else none
      | none => none) else (match jm_sa (0, fun _ => 0) a with
      | some x => (match jm_rs i j x with
        | some v => some (.inl v :: r, D)
        | none => none)
      | none => none))
  | 2, v :: .inl (.int j) :: .inl (.ref a) :: r => (match D[a]? with
    | some (.inl x) => (match js_wr A i v j x with
      | some x' => some (r, D.set a (.inl x'))
      | none => none)
    | _ => none)
  | _, _ => none
def js_cell (L : js_sc) (A : js_A) (M : jm_M) (i : Instr) (len : Nat) (st : List js_V) (D : js_S) : Option (List js_V × js_S × Nat × Nat) := match i, len, st with
  | .getfield idx, 3, .inl (.ref a) :: r => (match jp_F (jm_q M) idx with
    | some f => (match D[a]? with
      | some (.inr o) => if o.1 = f.1 then (match o.2[f.2.1]? with
        | some v => some (v :: r, D, 0, 0)
        | none => none) else none
      | _ => none)
    | none => none)
  | .putfield idx, 3, v :: .inl (.ref a) :: r => (match jp_F (jm_q M) idx with
    | some f => if (f.2.2 = 0 ∨ (M.2.2.2.2.2.2 = 1 ∧ jm_q M = f.1)) ∧ js_fit (jp_ty f.1 f.2.1) v = true then (match D[a]? with
      | some (.inr o) => if o.1 = f.1 ∧ f.2.1 < o.2.length then some (r, D.set a (.inr (o.1, o.2.set f.2.1 v)), 0, 0) else none
      | _ => none) else none
    | none => none)
  | .getstatic idx, 3, r => (match jp_S (jm_q M) idx with
    | some a => some (.inl (.ref a) :: r, D, 0, 0)
    | none => none)
  | .arraylength, 1, .inl (.ref a) :: r => (match D[a]? with
    | some (.inl x) => if x.1 < 4 then some (.inl (.int (Int32.ofNat x.2.1)) :: r, D, 0, 0) else none
    | some (.inr _) => none
    | none => bif Nat.beq a 1000000 then (match L with
      | some l => some (.inl (.int (Int32.ofNat l.length)) :: r, D, 0, 0)
      | none => none) else (match jm_sa (0, fun _ => 0) a with
      | some x => some (.inl (.int (Int32.ofNat x.2.1)) :: r, D, 0, 0)
      | none => none))
  | .new idx, 3, r => (match jp_W (jm_q M) idx with
    | some ci => if D.length < jm_lim then some (.inl (.ref D.length) :: r, D ++ [.inr (ci, (jm_new (jp_N ci) (jp_ty ci)).map .inl)], 1, jp_N ci) else none
    | none => none)
  | .newarray a, 2, .inl (.int n) :: r => (match jm_nt a with
    | some t => if D.length < jm_lim ∧ ¬ n < 0 ∧ n.toNatClampNeg ≤ 1000000 then some (.inl (.ref D.length) :: r, D ++ [.inl (t, n.toNatClampNeg, [])], 1, n.toNatClampNeg) else none
    | none => none)
  | i, 1, st => (match js_elem L A i st D with
    | some q => some (q.1, q.2, 0, 0)
    | none => none)
  | _, _, _ => none
theorem js_ise1 {i : Instr} (h : js_ise i = 1) (X : jm_X) (M : jm_M) (j : Int32) (a : Nat) (r : List Value) (S : jm_S) : jm_cell X M i 1 (.int j :: .ref a :: r) S = (if a < S.1 then (match jm_rd i j (S.2 a) with
    | some v => some (v :: r, S, 0, 0)
    | none => none) else (match jm_sa X a with
    | some x => (match jm_rs i j x with
      | some v => some (v :: r, S, 0, 0)
      | none => none)
    | none => none)) := by
  cases i <;> first | rfl | cases h
theorem js_ise2 {i : Instr} (h : js_ise i = 2) (X : jm_X) (M : jm_M) (v : Value) (j : Int32) (a : Nat) (r : List Value) (S : jm_S) : jm_cell X M i 1 (v :: .int j :: .ref a :: r) S = (if a < S.1 then (match jm_wr i v j (S.2 a) with
    | some x => some (r, jm_up S a x, 0, 0)
    | none => none) else none) := by
  cases i <;> first | (cases v <;> rfl) | cases h
/-- the script, by symbols -/
def js_scr (ρ : js_R) (X : jm_X) (L : js_sc) : Prop := ∀ l, L = some l → X.1 = l.length ∧ ∀ j v, l[j]? = some v → js_v ρ v = .int (X.2 j)
theorem js_sa_no (X : jm_X) {a : Nat} (hb : Nat.beq a 1000000 = false) : jm_sa X a = jm_sa (0, fun _ => 0) a := by
  unfold jm_sa
  rw [hb]
  rfl
theorem js_elem_eq {ρ : js_R} {X : jm_X} {L : js_sc} {A : js_A} (hA : js_true ρ A) (hX : js_scr ρ X L) (M : jm_M) {i : Instr} {st st' : List js_V} {D D' : js_S} (h : js_elem L A i st D = some (st', D')) : jm_cell X M i 1 (st.map (js_v ρ)) (js_abs ρ D) = some (st'.map (js_v ρ), js_abs ρ D', 0, 0) := by
  unfold js_elem at h
  split at h
  · rename_i j a r he
    show jm_cell X M i 1 (.int j :: .ref a :: r.map (js_v ρ)) (js_abs ρ D) = _
    rw [js_ise1 he]
    split at h
    · rename_i x hx
      obtain ⟨h1, h2⟩ := js_at ρ hx
      rw [if_pos h1, h2]
      split at h
      · rename_i v hv
        cases h
        rw [js_rd_eq ρ hv]
        rfl
      · cases h
    · cases h
    · rename_i hn
      have hnl : ¬ a < (js_abs ρ D).1 := fun hlt => absurd (show a < D.length from hlt) (Nat.not_lt.mpr (List.getElem?_eq_none_iff.mp hn))
      rw [if_neg hnl]
      cases hb : Nat.beq a 1000000 with
      | true =>
       rw [hb] at h
       dsimp only [cond] at h
       have ha := Nat.eq_of_beq_eq_true hb
       subst ha
       split at h
       · rename_i l
         split at h
         · rename_i hk
           split at h
           · rename_i v hv
             cases h
             obtain ⟨h1, h2⟩ := hk
             have hi : i = .iaload := by cases i <;> first | rfl | cases h1
             subst hi
             obtain ⟨x1, x2⟩ := hX l rfl
             show (match (if jm_in j X.1 = true then some (Value.int (X.2 j.toNatClampNeg)) else none) with | some v => some (v :: r.map (js_v ρ), js_abs ρ D, 0, 0) | none => none) = _
             rw [x1, if_pos h2, List.map_cons, x2 _ _ hv]
           · cases h
         · cases h
       · cases h
      | false =>
       rw [hb] at h
       dsimp only [cond] at h
       rw [js_sa_no X hb]
       split at h
       · rename_i x hx
         split at h
         · rename_i v hv
           cases h
           first | rfl | (rw [hv]; rfl)
         · cases h
       · cases h
  · rename_i v j a r he
    show jm_cell X M i 1 (js_v ρ v :: .int j :: .ref a :: r.map (js_v ρ)) (js_abs ρ D) = _
    rw [js_ise2 he]
    split at h
    · rename_i x hx
      obtain ⟨h1, h2⟩ := js_at ρ hx
      rw [if_pos h1, h2]
      split at h
      · rename_i x' hw
        cases h
        rw [js_wr_eq hA hw, js_abs_set ρ _ h1]
      · cases h
    · cases h
  · cases h
theorem js_new_eq (ρ : js_R) (N : Nat) (ty : Nat → FieldType) : ((jm_new N ty).map (Sum.inl : Value → js_V)).map (js_v ρ) = jm_new N ty := by
  rw [List.map_map]
  exact List.map_id _
theorem js_cell_eq {ρ : js_R} {X : jm_X} {L : js_sc} {A : js_A} (hA : js_true ρ A) (hX : js_scr ρ X L) {M : jm_M} {i : Instr} {len : Nat} {st st' : List js_V} {D D' : js_S} {k n : Nat} (h : js_cell L A M i len st D = some (st', D', k, n)) : jm_cell X M i len (st.map (js_v ρ)) (js_abs ρ D) = some (st'.map (js_v ρ), js_abs ρ D', k, n) := by
  unfold js_cell at h
  split at h
  · rename_i idx a r
    split at h
    · rename_i f hf
      split at h
      · rename_i o ho
        obtain ⟨h1, h2⟩ := js_at ρ ho
        split at h
        · rename_i hc
          split at h
          · rename_i v hv
            cases h
            show (match jp_F (jm_q M) idx with
              | some f => if a < (js_abs ρ D).1 then (match (js_abs ρ D).2 a with
                | .inr o => if o.1 = f.1 then (match o.2[f.2.1]? with
                  | some v => some (v :: r.map (js_v ρ), js_abs ρ D, 0, 0)
                  | none => none) else none
                | .inl _ => none) else none
              | none => none) = _
            rw [hf]
            dsimp only
            rw [if_pos h1, h2]
            show (if o.1 = f.1 then (match (o.2.map (js_v ρ))[f.2.1]? with
                  | some v => some (v :: r.map (js_v ρ), js_abs ρ D, 0, 0)
                  | none => none) else none) = _
            rw [if_pos hc, List.getElem?_map, hv]
            rfl
          · cases h
        · cases h
      · cases h
    · cases h
  · rename_i idx v a r
    split at h
    · rename_i f hf
      split at h
      · rename_i hcnd
        split at h
        · rename_i o ho
          obtain ⟨h1, h2⟩ := js_at ρ ho
          split at h
          · rename_i hc
            cases h
            have e0 : jm_cell X M (.putfield idx) 3 (js_v ρ v :: .ref a :: st'.map (js_v ρ)) (js_abs ρ D) = (match jp_F (jm_q M) idx with
              | some f => if a < (js_abs ρ D).1 ∧ (f.2.2 = 0 ∨ (M.2.2.2.2.2.2 = 1 ∧ jm_q M = f.1)) ∧ jm_fit (jp_ty f.1 f.2.1) (js_v ρ v) = true then (match (js_abs ρ D).2 a with
                | .inr o => if o.1 = f.1 ∧ f.2.1 < o.2.length then some (st'.map (js_v ρ), jm_up (js_abs ρ D) a (.inr (o.1, o.2.set f.2.1 (js_v ρ v))), 0, 0) else none
                | .inl _ => none) else none
              | none => none) := rfl
            show jm_cell X M (.putfield idx) 3 (js_v ρ v :: .ref a :: st'.map (js_v ρ)) (js_abs ρ D) = _
            rw [e0, hf]
            dsimp only
            rw [if_pos ⟨h1, hcnd.1, js_fit_eq ρ hcnd.2⟩, h2]
            show (if o.1 = f.1 ∧ f.2.1 < (o.2.map (js_v ρ)).length then some (st'.map (js_v ρ), jm_up (js_abs ρ D) a (.inr (o.1, (o.2.map (js_v ρ)).set f.2.1 (js_v ρ v))), 0, 0) else none) = _
            rw [if_pos (by rw [List.length_map]; exact hc), js_abs_set ρ _ h1]
            show _ = some (st'.map (js_v ρ), jm_up (js_abs ρ D) a (.inr (o.1, (o.2.set f.2.1 v).map (js_v ρ))), 0, 0)
            rw [List.map_set]
          · cases h
        · cases h
      · cases h
    · cases h
  · rename_i idx
    have e0 : jm_cell X M (.getstatic idx) 3 (st.map (js_v ρ)) (js_abs ρ D) = (match jp_S (jm_q M) idx with
      | some a => some (.ref a :: st.map (js_v ρ), js_abs ρ D, 0, 0)
      | none => none) := rfl
    rw [e0]
    split at h
    · rename_i a ha
      cases h
      first | rfl | (rw [ha]; rfl)
    · cases h
  · rename_i a r
    have e0 : jm_cell X M .arraylength 1 (.ref a :: r.map (js_v ρ)) (js_abs ρ D) = (if a < (js_abs ρ D).1 then (match jm_ln ((js_abs ρ D).2 a) with
      | some z => some (.int z :: r.map (js_v ρ), js_abs ρ D, 0, 0)
      | none => none) else (match jm_sa X a with
      | some x => some (.int (Int32.ofNat x.2.1) :: r.map (js_v ρ), js_abs ρ D, 0, 0)
      | none => none)) := rfl
    show jm_cell X M .arraylength 1 (.ref a :: r.map (js_v ρ)) (js_abs ρ D) = _
    rw [e0]
    split at h
    · rename_i x hx
      obtain ⟨h1, h2⟩ := js_at ρ hx
      split at h
      · rename_i hc
        cases h
        rw [if_pos h1, h2]
        obtain ⟨t, m, us⟩ := x
        dsimp only at hc
        have e1 : jm_ln (js_c ρ (.inl (t, m, us))) = some (Int32.ofNat m) := by
          unfold js_c
          dsimp only
          split
          · rfl
          · exact if_pos hc
        rw [e1]
        rfl
      · cases h
    · cases h
    · rename_i hn
      have hnl : ¬ a < (js_abs ρ D).1 := fun hlt => absurd (show a < D.length from hlt) (Nat.not_lt.mpr (List.getElem?_eq_none_iff.mp hn))
      rw [if_neg hnl]
      cases hb : Nat.beq a 1000000 with
      | true =>
       rw [hb] at h
       dsimp only [cond] at h
       have ha := Nat.eq_of_beq_eq_true hb
       subst ha
       split at h
       · rename_i l
         cases h
         rw [← (hX l rfl).1]
         rfl
       · cases h
      | false =>
       rw [hb] at h
       dsimp only [cond] at h
       rw [js_sa_no X hb]
       split at h
       · rename_i x hx
         cases h
         first | rfl | (rw [hx]; rfl)
       · cases h
  · rename_i idx
    have e0 : jm_cell X M (.new idx) 3 (st.map (js_v ρ)) (js_abs ρ D) = (match jp_W (jm_q M) idx with
      | some ci => if (js_abs ρ D).1 < jm_lim then some (.ref (js_abs ρ D).1 :: st.map (js_v ρ), jm_add (js_abs ρ D) (.inr (ci, jm_new (jp_N ci) (jp_ty ci))), 1, jp_N ci) else none
      | none => none) := rfl
    rw [e0]
    split at h
    · rename_i ci hci
      split at h
      · rename_i hlt
        cases h
        rw [if_pos (show (js_abs ρ D).1 < jm_lim from hlt), js_abs_add]
        show _ = some (.ref D.length :: st.map (js_v ρ), jm_add (js_abs ρ D) (.inr (ci, ((jm_new (jp_N ci) (jp_ty ci)).map Sum.inl).map (js_v ρ))), 1, jp_N ci)
        rw [js_new_eq]
        rfl
      · cases h
    · cases h
  · rename_i a m r
    have e0 : jm_cell X M (.newarray a) 2 (.int m :: r.map (js_v ρ)) (js_abs ρ D) = (match jm_nt a with
      | some t => if (js_abs ρ D).1 < jm_lim ∧ ¬ m < 0 ∧ m.toNatClampNeg ≤ 1000000 then some (.ref (js_abs ρ D).1 :: r.map (js_v ρ), jm_add (js_abs ρ D) (jm_blank t m.toNatClampNeg), 1, m.toNatClampNeg) else none
      | none => none) := rfl
    show jm_cell X M (.newarray a) 2 (.int m :: r.map (js_v ρ)) (js_abs ρ D) = _
    rw [e0]
    split at h
    · rename_i t ht
      split at h
      · rename_i hlt
        cases h
        rw [if_pos (show (js_abs ρ D).1 < jm_lim ∧ ¬ m < 0 ∧ m.toNatClampNeg ≤ 1000000 from hlt), js_abs_add]
        have e1 : js_c ρ (.inl (t, m.toNatClampNeg, [])) = jm_blank t m.toNatClampNeg := rfl
        rw [e1]
        rfl
      · cases h
    · cases h
  · split at h
    · rename_i q hq
      cases h
      exact js_elem_eq hA hX M hq
    · cases h
  · cases h
def js_step (L : js_sc) (A : js_A) (M : jm_M) (i : Instr) (len pc : Nat) (lv : js_L) (st : List js_V) (D : js_S) : Option (Nat × js_L × List js_V × js_S × Nat × Nat) :=
  match jm_k i len with
  | some v => some (pc + len, lv, .inl v :: st, D, 0, 0)
  | none => match jm_ld i len with
  | some q => (match js_get lv q.1 with
    | some v => if js_isk q.2 v = true then some (pc + len, lv, v :: st, D, 0, 0) else none
    | none => none)
  | none => match jm_sr i len with
  | some q => (match st with
    | v :: r => if js_isk q.2 v = true ∧ q.1 + js_cat v ≤ M.2.2.1 then some (pc + len, if q.2 = 1 then js_set2 lv q.1 v else js_set1 lv q.1 v, r, D, 0, 0) else none
    | [] => none)
  | none => match js_isb i with
  | true => (match js_br A i len pc st with
    | some q => some (q.1, lv, q.2, D, 0, 0)
    | none => none)
  | false => match js_isc i with
  | true => (match js_cell L A M i len st D with
    | some q => some (pc + len, lv, q.1, q.2.1, q.2.2.1, q.2.2.2)
    | none => none)
  | false => match js_mis A M i len pc lv st with
  | some q => some (q.1, q.2.1, q.2.2, D, 0, 0)
  | none => none
theorem js_step_eq {ρ : js_R} {X : jm_X} {L : js_sc} {A : js_A} (hA : js_true ρ A) (hX : js_scr ρ X L) {M : jm_M} {i : Instr} {len pc pc' : Nat} {lv lv' : js_L} {st st' : List js_V} {D D' : js_S} {k n : Nat} (h : js_step L A M i len pc lv st D = some (pc', lv', st', D', k, n)) : jm_step X M i len pc (js_lv ρ lv) (st.map (js_v ρ)) (js_abs ρ D) = some (pc', js_lv ρ lv', st'.map (js_v ρ), js_abs ρ D', k, n) := by
  unfold js_step at h
  unfold jm_step
  split at h
  · rename_i v hv
    cases h
    rw [hv]
    rfl
  · rename_i hk
    rw [hk]
    dsimp only
    split at h
    · rename_i q hq
      rw [hq]
      dsimp only
      split at h
      · rename_i v hv
        rw [js_get_eq ρ hv]
        dsimp only
        split at h
        · rename_i hi
          cases h
          rw [js_isk_eq, if_pos hi]
          rfl
        · cases h
      · cases h
    · rename_i hld
      rw [hld]
      dsimp only
      split at h
      · rename_i q hq
        rw [hq]
        dsimp only
        split at h
        · rename_i v r
          split at h
          · rename_i hi
            cases h
            rw [List.map_cons]
            dsimp only
            rw [js_isk_eq, js_cat_eq, if_pos hi]
            by_cases hq1 : q.2 = 1
            · rw [if_pos hq1, if_pos hq1, js_set2_eq]
            · rw [if_neg hq1, if_neg hq1, js_set1_eq]
          · cases h
        · cases h
      · rename_i hsr
        rw [hsr]
        dsimp only
        split at h
        · split at h
          · rename_i q hq
            cases h
            rw [js_br_eq hA hq]
          · cases h
        · rename_i hb
          rw [js_isb_no hb]
          dsimp only
          split at h
          · split at h
            · rename_i q hq
              cases h
              rw [js_cell_eq hA hX hq]
            · cases h
          · rename_i hc
            rw [js_isc_no hc]
            dsimp only
            split at h
            · rename_i q hq
              cases h
              rw [js_mis_eq hA hq]
            · cases h
end
section
/-! THE SYMBOLIC MACHINE, part 4: runs -/
def js_cellr (M : jm_M) (i : Instr) (len : Nat) (st : List js_V) (D : js_S) : Option (List js_V) := match i, len, st with
  | .getfield idx, 3, .inl (.ref a) :: r => (match jp_F (jm_q M) idx with
    | some f => (match D[a]? with
      | some (.inr o) => if o.1 = f.1 then (match o.2[f.2.1]? with
        | some v => some (v :: r)
        | none => none) else none
      | _ => none)
    | none => none)
  | i, 1, .inl (.int j) :: .inl (.ref a) :: r => if js_ise i = 1 then (match D[a]? with
    | some (.inl x) => (match js_rd i j x with
      | some v => some (v :: r)
      | none => none)
    | _ => none) else none
  | _, _, _ => none
theorem js_isr1 {i : Instr} (h : js_ise i = 1) (X : jm_X) (M : jm_M) (j : Int32) (a : Nat) (r : List Value) (S : jm_S) : jm_cellr X M i 1 (.int j :: .ref a :: r) S = (if a < S.1 then (match jm_rd i j (S.2 a) with
    | some v => some (v :: r)
    | none => none) else none) := by
  cases i <;> first | rfl | cases h
theorem js_isr_no {i : Instr} (h : js_isc i = false) (X : jm_X) (M : jm_M) (len : Nat) (st : List Value) (S : jm_S) : jm_cellr X M i len st S = none := by
  unfold jm_cellr
  split
  · cases h
  · rw [js_isc_rd h]
    dsimp only
    split <;> rfl
  · rfl
theorem js_cellr_eq (ρ : js_R) (X : jm_X) {M : jm_M} {i : Instr} {len : Nat} {st st' : List js_V} {D : js_S} (h : js_cellr M i len st D = some st') : jm_cellr X M i len (st.map (js_v ρ)) (js_abs ρ D) = some (st'.map (js_v ρ)) := by
  unfold js_cellr at h
  split at h
  · rename_i idx a r
    split at h
    · rename_i f hf
      split at h
      · rename_i o ho
        obtain ⟨h1, h2⟩ := js_at ρ ho
        split at h
        · rename_i hc
          split at h
          · rename_i v hv
            cases h
            show (match jp_F (jm_q M) idx with
              | some f => if a < (js_abs ρ D).1 then (match (js_abs ρ D).2 a with
                | .inr o => if o.1 = f.1 then (match o.2[f.2.1]? with
                  | some v => some (v :: r.map (js_v ρ))
                  | none => none) else none
                | .inl _ => none) else none
              | none => none) = _
            rw [hf]
            dsimp only
            rw [if_pos h1, h2]
            show (if o.1 = f.1 then (match (o.2.map (js_v ρ))[f.2.1]? with
                  | some v => some (v :: r.map (js_v ρ))
                  | none => none) else none) = _
            rw [if_pos hc, List.getElem?_map, hv]
            rfl
          · cases h
        · cases h
      · cases h
    · cases h
  · rename_i j a r
    split at h
    · rename_i he
      split at h
      · rename_i x hx
        obtain ⟨h1, h2⟩ := js_at ρ hx
        split at h
        · rename_i v hv
          cases h
          show jm_cellr X M i 1 (.int j :: .ref a :: r.map (js_v ρ)) (js_abs ρ D) = _
          rw [js_isr1 he, if_pos h1, h2, js_rd_eq ρ hv]
          rfl
        · cases h
      · cases h
    · cases h
  · cases h
def js_rst (A : js_A) (M : jm_M) (i : Instr) (len pc : Nat) (lv : js_L) (st : List js_V) (D : js_S) : Option (Nat × js_L × List js_V) :=
  match jm_k i len with
  | some v => some (pc + len, lv, .inl v :: st)
  | none => match jm_ld i len with
  | some q => (match js_get lv q.1 with
    | some v => if js_isk q.2 v = true then some (pc + len, lv, v :: st) else none
    | none => none)
  | none => match jm_sr i len with
  | some q => (match st with
    | v :: r => if js_isk q.2 v = true ∧ q.1 + js_cat v ≤ M.2.2.1 then some (pc + len, if q.2 = 1 then js_set2 lv q.1 v else js_set1 lv q.1 v, r) else none
    | [] => none)
  | none => match js_isb i with
  | true => (match js_br A i len pc st with
    | some q => some (q.1, lv, q.2)
    | none => none)
  | false => match js_isc i with
  | true => (match js_cellr M i len st D with
    | some q => some (pc + len, lv, q)
    | none => none)
  | false => js_mis A M i len pc lv st
theorem js_rst_eq {ρ : js_R} (X : jm_X) {A : js_A} (hA : js_true ρ A) {M : jm_M} {i : Instr} {len pc pc' : Nat} {lv lv' : js_L} {st st' : List js_V} {D : js_S} (h : js_rst A M i len pc lv st D = some (pc', lv', st')) : jm_rst X M i len pc (js_lv ρ lv) (st.map (js_v ρ)) (js_abs ρ D) = some (pc', js_lv ρ lv', st'.map (js_v ρ)) := by
  unfold js_rst at h
  unfold jm_rst
  split at h
  · rename_i v hv
    cases h
    rw [hv]
    rfl
  · rename_i hk
    rw [hk]
    dsimp only
    split at h
    · rename_i q hq
      rw [hq]
      dsimp only
      split at h
      · rename_i v hv
        rw [js_get_eq ρ hv]
        dsimp only
        split at h
        · rename_i hi
          cases h
          rw [js_isk_eq, if_pos hi]
          rfl
        · cases h
      · cases h
    · rename_i hld
      rw [hld]
      dsimp only
      split at h
      · rename_i q hq
        rw [hq]
        dsimp only
        split at h
        · rename_i v r
          split at h
          · rename_i hi
            cases h
            rw [List.map_cons]
            dsimp only
            rw [js_isk_eq, js_cat_eq, if_pos hi]
            by_cases hq1 : q.2 = 1
            · rw [if_pos hq1, if_pos hq1, js_set2_eq]
            · rw [if_neg hq1, if_neg hq1, js_set1_eq]
          · cases h
        · cases h
      · rename_i hsr
        rw [hsr]
        dsimp only
        split at h
        · split at h
          · rename_i q hq
            cases h
            rw [js_br_eq hA hq]
          · cases h
        · rename_i hb
          rw [js_isb_no hb]
          dsimp only
          split at h
          · split at h
            · rename_i q hq
              cases h
              rw [js_cellr_eq ρ X hq]
            · cases h
          · rename_i hc
            rw [js_isr_no hc]
            dsimp only
            rw [js_mis_eq hA h]
def js_ret (i : Instr) (len : Nat) (r : Option FieldType) (st : List js_V) : Option (Option js_V) := match st with
  | [] => (match jm_ret i len r [] with
    | some none => some none
    | _ => none)
  | [.inl v] => (match jm_ret i len r [v] with
    | some (some w) => some (some (.inl w))
    | _ => none)
  | _ => none
theorem js_ret_eq (ρ : js_R) {i : Instr} {len : Nat} {r : Option FieldType} {st : List js_V} {v : Option js_V} (h : js_ret i len r st = some v) : jm_ret i len r (st.map (js_v ρ)) = some (v.map (js_v ρ)) := by
  unfold js_ret at h
  split at h
  · split at h
    · rename_i he
      cases h
      exact he
    · cases h
  · split at h
    · rename_i w he
      cases h
      exact he
    · cases h
  · cases h
def js_obj (M : jm_M) (i : Instr) (len d : Nat) (st : List js_V) : Option (List js_V) := match i, len, st with
  | .invokespecial idx, 3, .inl (.ref _) :: r => (match jp_B (jm_q M) idx with
    | some _ => if 1 ≤ d ∧ (r.map js_cat).sum ≤ 8 then some r else none
    | none => none)
  | .invokestatic idx, 3, .inl (.int y) :: .inl (.int x) :: r => if 1 ≤ d ∧ (r.map js_cat).sum ≤ 8 then (match jp_max (jm_q M) idx with
    | some _ => some (.inl (.int (if x < y then y else x)) :: r)
    | none => match jp_min (jm_q M) idx with
      | some _ => some (.inl (.int (if y < x then y else x)) :: r)
      | none => none) else none
  | _, _, _ => none
theorem js_obj_eq (ρ : js_R) {M : jm_M} {i : Instr} {len d : Nat} {st st' : List js_V} (h : js_obj M i len d st = some st') : jm_obj M i len d (st.map (js_v ρ)) = some (st'.map (js_v ρ)) := by
  unfold js_obj at h
  split at h
  · rename_i idx a r
    split at h
    · rename_i u hu
      split at h
      · rename_i hc
        cases h
        show (match jp_B (jm_q M) idx with
          | some _ => if 1 ≤ d ∧ ((st'.map (js_v ρ)).map fun v : Value => v.category).sum ≤ 8 then some (st'.map (js_v ρ)) else none
          | none => none) = _
        rw [hu]
        dsimp only
        rw [js_sum_eq, if_pos hc]
      · cases h
    · cases h
  · rename_i idx y x r
    split at h
    · rename_i hc
      show (if 1 ≤ d ∧ ((r.map (js_v ρ)).map fun v : Value => v.category).sum ≤ 8 then (match jp_max (jm_q M) idx with
        | some _ => some (Value.int (if x < y then y else x) :: r.map (js_v ρ))
        | none => match jp_min (jm_q M) idx with
          | some _ => some (Value.int (if y < x then y else x) :: r.map (js_v ρ))
          | none => none) else none) = _
      rw [js_sum_eq, if_pos hc]
      split at h
      · cases h
        rfl
      · split at h
        · cases h
          rfl
        · cases h
    · cases h
  · cases h
def js_inv (M : jm_M) (i : Instr) (len : Nat) (st : List js_V) (D : js_S) : Option (jm_M × Nat × List js_V × List js_V) := match i, len with
  | .invokevirtual idx, 3 => (match jp_M (jm_q M) idx with
    | some (N, 0) => (match st.drop (jm_n N) with
      | .inl (.ref a) :: r => if jm_q N < jp_nobj ∧ (r.map js_cat).sum ≤ 8 ∧ (lg_sl ((.inl (.ref a) :: (st.take (jm_n N)).reverse).map (js_v js_0))).length ≤ N.2.2.1 then (match D[a]? with
        | some (.inr o) => if o.1 = jm_q N then some (N, 0, .inl (.ref a) :: (st.take (jm_n N)).reverse, r) else none
        | _ => none) else none
      | _ => none)
    | _ => none)
  | .invokestatic idx, 3 => (match jp_M (jm_q M) idx with
    | some (N, k) => if (k = 1 ∨ k = 3) ∧ jm_n N ≤ st.length ∧ ((st.drop (jm_n N)).map js_cat).sum ≤ 8 ∧ (lg_sl ((st.take (jm_n N)).reverse.map (js_v js_0))).length ≤ N.2.2.1 then some (N, k, (st.take (jm_n N)).reverse, st.drop (jm_n N)) else none
    | none => none)
  | .invokespecial idx, 3 => (match jp_M (jm_q M) idx with
    | some (N, k) => (match st.drop (jm_n N) with
      | .inl (.ref a) :: r => if (k = 2 ∨ k = 4) ∧ (r.map js_cat).sum ≤ 8 ∧ (lg_sl ((.inl (.ref a) :: (st.take (jm_n N)).reverse).map (js_v js_0))).length ≤ N.2.2.1 then some (N, k, .inl (.ref a) :: (st.take (jm_n N)).reverse, r) else none
      | _ => none)
    | none => none)
  | _, _ => none
theorem js_drop (ρ : js_R) (st : List js_V) (n : Nat) : (st.map (js_v ρ)).drop n = (st.drop n).map (js_v ρ) := by rw [List.map_drop]
theorem js_take (ρ : js_R) (st : List js_V) (n : Nat) : ((st.map (js_v ρ)).take n).reverse = ((st.take n).reverse).map (js_v ρ) := by rw [← List.map_take, List.map_reverse]
theorem js_inv_eq (ρ : js_R) {M N : jm_M} {i : Instr} {len f : Nat} {st as r : List js_V} {D : js_S} (h : js_inv M i len st D = some (N, f, as, r)) : jm_inv M i len (st.map (js_v ρ)) (js_abs ρ D) = some (N, f, as.map (js_v ρ), r.map (js_v ρ)) := by
  unfold js_inv at h
  split at h
  · rename_i idx
    split at h
    · rename_i N1 hN
      split at h
      · rename_i a r1 hd
        split at h
        · rename_i hc
          split at h
          · rename_i o ho
            obtain ⟨h1, h2⟩ := js_at ρ ho
            split at h
            · rename_i hcl
              cases h
              show (match jp_M (jm_q M) idx with
                | some (N, 0) => (match (st.map (js_v ρ)).drop (jm_n N) with
                  | .ref a :: r => if a < (js_abs ρ D).1 ∧ jm_q N < jp_nobj ∧ (r.map fun v : Value => v.category).sum ≤ 8 ∧ (lg_sl (.ref a :: ((st.map (js_v ρ)).take (jm_n N)).reverse)).length ≤ N.2.2.1 then (match (js_abs ρ D).2 a with
                    | .inr o => if o.1 = jm_q N then some (N, 0, Value.ref a :: ((st.map (js_v ρ)).take (jm_n N)).reverse, r) else none
                    | .inl _ => none) else none
                  | _ => none)
                | _ => none) = _
              rw [hN]
              show (match (st.map (js_v ρ)).drop (jm_n N) with
                  | .ref a :: r => if a < (js_abs ρ D).1 ∧ jm_q N < jp_nobj ∧ (r.map fun v : Value => v.category).sum ≤ 8 ∧ (lg_sl (.ref a :: ((st.map (js_v ρ)).take (jm_n N)).reverse)).length ≤ N.2.2.1 then (match (js_abs ρ D).2 a with
                    | .inr o => if o.1 = jm_q N then some (N, 0, Value.ref a :: ((st.map (js_v ρ)).take (jm_n N)).reverse, r) else none
                    | .inl _ => none) else none
                  | _ => none) = _
              rw [js_drop, hd, List.map_cons]
              have e3 : js_v ρ (.inl (.ref a)) = .ref a := rfl
              rw [e3]
              dsimp only
              have e4 := js_sl_len ρ (.inl (.ref a) :: (st.take (jm_n N)).reverse)
              rw [List.map_cons, e3, ← js_take] at e4
              rw [js_sum_eq, e4, if_pos ⟨h1, hc⟩, h2]
              show (if o.1 = jm_q N then some (N, 0, Value.ref a :: ((st.map (js_v ρ)).take (jm_n N)).reverse, r.map (js_v ρ)) else none) = _
              rw [if_pos hcl, js_take]
              rfl
            · cases h
          · cases h
        · cases h
      · cases h
    · cases h
  · rename_i idx
    split at h
    · rename_i N1 k1 hN
      split at h
      · rename_i hc
        cases h
        show (match jp_M (jm_q M) idx with
          | some (N, k) => if (k = 1 ∨ k = 3) ∧ jm_n N ≤ (st.map (js_v ρ)).length ∧ (((st.map (js_v ρ)).drop (jm_n N)).map fun v : Value => v.category).sum ≤ 8 ∧ (lg_sl ((st.map (js_v ρ)).take (jm_n N)).reverse).length ≤ N.2.2.1 then some (N, k, ((st.map (js_v ρ)).take (jm_n N)).reverse, (st.map (js_v ρ)).drop (jm_n N)) else none
          | none => none) = _
        rw [hN]
        dsimp only
        have e4 := js_sl_len ρ ((st.take (jm_n N)).reverse)
        rw [← js_take] at e4
        rw [List.length_map, js_drop, js_sum_eq, e4, if_pos hc, js_take]
      · cases h
    · cases h
  · rename_i idx
    split at h
    · rename_i N1 k1 hN
      split at h
      · rename_i a r1 hd
        split at h
        · rename_i hc
          cases h
          show (match jp_M (jm_q M) idx with
            | some (N, k) => (match (st.map (js_v ρ)).drop (jm_n N) with
              | .ref a :: r => if (k = 2 ∨ k = 4) ∧ (r.map fun v : Value => v.category).sum ≤ 8 ∧ (lg_sl (.ref a :: ((st.map (js_v ρ)).take (jm_n N)).reverse)).length ≤ N.2.2.1 then some (N, k, Value.ref a :: ((st.map (js_v ρ)).take (jm_n N)).reverse, r) else none
              | _ => none)
            | none => none) = _
          rw [hN]
          dsimp only
          rw [js_drop, hd, List.map_cons]
          have e3 : js_v ρ (.inl (.ref a)) = .ref a := rfl
          rw [e3]
          dsimp only
          have e4 := js_sl_len ρ (.inl (.ref a) :: (st.take (jm_n N)).reverse)
          rw [List.map_cons, e3, ← js_take] at e4
          rw [js_sum_eq, e4, if_pos hc, js_take]
          rfl
        · cases h
      · cases h
    · cases h
  · cases h
def js_winv (M : jm_M) (i : Instr) (len : Nat) (st : List js_V) : Option ((jm_M × jm_Hh) × List js_V × List js_V) := match i, len with
  | .invokestatic idx, 3 => if jm_q M = 13 then (match jp_V idx with
    | some N => if jm_n N.1 ≤ st.length ∧ ((st.drop (jm_n N.1)).map js_cat).sum ≤ 8 ∧ (lg_sl ((st.take (jm_n N.1)).reverse.map (js_v js_0))).length ≤ N.1.2.2.1 then some (N, (st.take (jm_n N.1)).reverse, st.drop (jm_n N.1)) else none
    | none => none) else none
  | _, _ => none
theorem js_winv_eq (ρ : js_R) {M : jm_M} {N : jm_M × jm_Hh} {i : Instr} {len : Nat} {st as r : List js_V} (h : js_winv M i len st = some (N, as, r)) : jm_winv M i len (st.map (js_v ρ)) = some (N, as.map (js_v ρ), r.map (js_v ρ)) := by
  unfold js_winv at h
  split at h
  · rename_i idx
    split at h
    · rename_i hq
      split at h
      · rename_i N1 hN
        split at h
        · rename_i hc
          cases h
          show (if jm_q M = 13 then (match jp_V idx with
            | some N => if jm_n N.1 ≤ (st.map (js_v ρ)).length ∧ (((st.map (js_v ρ)).drop (jm_n N.1)).map fun v : Value => v.category).sum ≤ 8 ∧ (lg_sl ((st.map (js_v ρ)).take (jm_n N.1)).reverse).length ≤ N.1.2.2.1 then some (N, ((st.map (js_v ρ)).take (jm_n N.1)).reverse, (st.map (js_v ρ)).drop (jm_n N.1)) else none
            | none => none) else none) = _
          rw [if_pos hq, hN]
          dsimp only
          have e4 := js_sl_len ρ ((st.take (jm_n N.1)).reverse)
          rw [← js_take] at e4
          rw [List.length_map, js_drop, js_sum_eq, e4, if_pos hc, js_take]
        · cases h
      · cases h
    · cases h
  · cases h
end
section
/-! THE SYMBOLIC MACHINE, part 4b: Arrays.fill of ints and of longs, System.arraycopy, at once -/
theorem jh_up (S : jm_S) (a : Nat) (x y : jm_c) : jm_up (jm_up S a x) a y = jm_up S a y := by
  unfold jm_up va_up
  refine Prod.ext rfl ?_
  funext k
  dsimp only
  split <;> rfl
theorem jh_up_at (S : jm_S) (a : Nat) (x : jm_c) : (jm_up S a x).2 a = x := by
  unfold jm_up va_up
  exact if_pos rfl
theorem jh_up_self (S : jm_S) (a : Nat) : jm_up S a (S.2 a) = S := by
  unfold jm_up va_up
  refine Prod.ext rfl ?_
  funext k
  dsimp only
  split
  · rename_i h; rw [h]
  · rfl
theorem jh_nat {i : Nat} (h : i < 2147483648) : (Int32.ofNat i).toNatClampNeg = i := by
  rw [Int32.toNatClampNeg, Int32.toInt_ofNat_of_lt h]
  rfl
theorem jh_not0 {i : Nat} (h : i < 2147483648) : ¬ Int32.ofNat i < 0 := by
  intro hl
  have := Int32.lt_iff_toInt_lt.mp hl
  rw [Int32.toInt_ofNat_of_lt h] at this
  have h0 : (0 : Int32).toInt = 0 := rfl
  omega
theorem jh_in {i n : Nat} (h : i < n) (hn : n ≤ 2147483647) : jm_in (Int32.ofNat i) n = true := by
  unfold jm_in
  refine decide_eq_true ?_
  rw [jh_nat (by omega)]
  intro hh
  rcases hh with hh | hh
  · exact jh_not0 (by omega) hh
  · omega
theorem jh_ge {i n : Nat} (hi : i ≤ 2147483647) (hn : n ≤ 2147483647) : jm_cc .ge (Int32.ofNat i) (Int32.ofNat n) = decide (n ≤ i) := by
  show decide _ = _
  refine decide_eq_decide.mpr ?_
  rw [Int32.le_iff_toInt_le, Int32.toInt_ofNat_of_lt (by omega), Int32.toInt_ofNat_of_lt (by omega)]
  omega
theorem jh_inc (i : Nat) : Int32.ofNat i + Int32.ofInt 1 = Int32.ofNat (i + 1) := by
  rw [Int32.ofNat_add]
  rfl
section JH
variable {X : jm_X} {M : jm_M} {d pc len pc1 : Nat} {lv lv1 : jm_L} {st st1 : List Value} {S S1 S' : jm_S} {v : Option Value} {i : Instr} {k j : Nat}
theorem jh_step (hd : decode M.2.1 pc = .ok (i, len)) (hq : jm_step X M i len pc lv st S = some (pc1, lv1, st1, S1, 0, 0)) (h : jm_goes X M d pc1 lv1 st1 S1 v S' 0 0) : jm_goes X M d pc lv st S v S' 0 0 := by
  have := jg_step hd hq h
  exact this
end JH
def jh_lv (a n i : Nat) (v : Int32) : jm_L := [(2, .int (Int32.ofNat i)), (3, .int (Int32.ofNat n)), (0, .ref a), (1, .int v)]
def jh_f (n i : Nat) (v : Int32) (f : Nat → Int32) : Nat → Int32 := fun j => if i ≤ j ∧ j < n then v else f j
section JHI
variable {X : jm_X} {d a n : Nat} {v : Int32} {S : jm_S}
theorem jh_test {i : Nat} {lv : jm_L} {S1 S' : jm_S} {w : Option Value} (h2 : jm_get lv 2 = some (.int (Int32.ofNat i))) (h3 : jm_get lv 3 = some (.int (Int32.ofNat n))) (hi : i ≤ 2147483647) (hn : n ≤ 2147483647)
    (h : jm_goes X mArr_fill d (if n ≤ i then 20 else 10) lv [] S1 w S' 0 0) : jm_goes X mArr_fill d 5 lv [] S1 w S' 0 0 := by
  refine jh_step (i := .iload_n 2) (len := 1) (pc1 := 6) (lv1 := lv) (st1 := [.int (Int32.ofNat i)]) (S1 := S1) (by decide +kernel) ?_ ?_
  · show (match jm_get lv 2 with
      | some v => if jm_isk 0 v = true then some (5 + 1, lv, [v], S1, 0, 0) else none
      | none => none) = _
    rw [h2]
    rfl
  refine jh_step (i := .iload_n 3) (len := 1) (pc1 := 7) (lv1 := lv) (st1 := [.int (Int32.ofNat n), .int (Int32.ofNat i)]) (S1 := S1) (by decide +kernel) ?_ ?_
  · show (match jm_get lv 3 with
      | some v => if jm_isk 0 v = true then some (6 + 1, lv, [v, .int (Int32.ofNat i)], S1, 0, 0) else none
      | none => none) = _
    rw [h3]
    rfl
  refine jh_step (i := .if_icmp .ge 13) (len := 3) (pc1 := if n ≤ i then 20 else 10) (lv1 := lv) (st1 := []) (S1 := S1) (by decide +kernel) ?_ h
  show some ((if jm_cc .ge (Int32.ofNat i) (Int32.ofNat n) = true then jm_at 7 13 else 7 + 3), lv, ([] : List Value), S1, 0, 0) = _
  rw [jh_ge hi hn]
  by_cases hh : n ≤ i
  · rw [if_pos (decide_eq_true hh), if_pos hh]
    rfl
  · rw [if_neg (fun e => hh (of_decide_eq_true e)), if_neg hh]
theorem jh_body {i : Nat} {lv : jm_L} {f : Nat → Int32} {S' : jm_S} {w : Option Value} (h0 : jm_get lv 0 = some (.ref a)) (h1 : jm_get lv 1 = some (.int v)) (h2 : jm_get lv 2 = some (.int (Int32.ofNat i))) (ha : a < S.1) (hi : i < n) (hn : n ≤ 2147483647)
    (h : jm_goes X mArr_fill d 5 (jm_set1 lv 2 (.int (Int32.ofNat (i + 1)))) [] (jm_up S a (.inl (0, n, .inl (upd f i v)))) w S' 0 0) : jm_goes X mArr_fill d 10 lv [] (jm_up S a (.inl (0, n, .inl f))) w S' 0 0 := by
  refine jh_step (i := .aload_n 0) (len := 1) (pc1 := 11) (lv1 := lv) (st1 := [.ref a]) (S1 := jm_up S a (.inl (0, n, .inl f))) (by decide +kernel) ?_ ?_
  · show (match jm_get lv 0 with
      | some v => if jm_isk 2 v = true then some (10 + 1, lv, [v], jm_up S a (.inl (0, n, .inl f)), 0, 0) else none
      | none => none) = _
    rw [h0]
    rfl
  refine jh_step (i := .iload_n 2) (len := 1) (pc1 := 12) (lv1 := lv) (st1 := [.int (Int32.ofNat i), .ref a]) (S1 := jm_up S a (.inl (0, n, .inl f))) (by decide +kernel) ?_ ?_
  · show (match jm_get lv 2 with
      | some v => if jm_isk 0 v = true then some (11 + 1, lv, [v, .ref a], jm_up S a (.inl (0, n, .inl f)), 0, 0) else none
      | none => none) = _
    rw [h2]
    rfl
  refine jh_step (i := .iload_n 1) (len := 1) (pc1 := 13) (lv1 := lv) (st1 := [.int v, .int (Int32.ofNat i), .ref a]) (S1 := jm_up S a (.inl (0, n, .inl f))) (by decide +kernel) ?_ ?_
  · show (match jm_get lv 1 with
      | some v => if jm_isk 0 v = true then some (12 + 1, lv, [v, .int (Int32.ofNat i), .ref a], jm_up S a (.inl (0, n, .inl f)), 0, 0) else none
      | none => none) = _
    rw [h1]
    rfl
  refine jh_step (i := .iastore) (len := 1) (pc1 := 14) (lv1 := lv) (st1 := []) (S1 := jm_up S a (.inl (0, n, .inl (upd f i v)))) (by decide +kernel) ?_ ?_
  · show (match (if a < S.1 then (match jm_wr .iastore (.int v) (Int32.ofNat i) ((jm_up S a (.inl (0, n, .inl f))).2 a) with
        | some x => some (([] : List Value), jm_up (jm_up S a (.inl (0, n, .inl f))) a x, 0, 0)
        | none => none) else none) with
      | some q => some (13 + 1, lv, q.1, q.2.1, q.2.2.1, q.2.2.2)
      | none => _) = _
    rw [if_pos ha, jh_up_at]
    show (match (match (if jm_in (Int32.ofNat i) n = true then some ((.inl (0, n, .inl (upd f (Int32.ofNat i).toNatClampNeg v))) : jm_c) else none) with
        | some x => some (([] : List Value), jm_up (jm_up S a (.inl (0, n, .inl f))) a x, 0, 0)
        | none => none) with
      | some q => some (13 + 1, lv, q.1, q.2.1, q.2.2.1, q.2.2.2)
      | none => _) = _
    rw [if_pos (jh_in hi hn), jh_nat (by omega)]
    show some (14, lv, ([] : List Value), jm_up (jm_up S a (.inl (0, n, .inl f))) a (.inl (0, n, .inl (upd f i v))), 0, 0) = _
    rw [jh_up]
  refine jh_step (i := .iinc 2 1) (len := 3) (pc1 := 17) (lv1 := jm_set1 lv 2 (.int (Int32.ofNat (i + 1)))) (st1 := []) (S1 := jm_up S a (.inl (0, n, .inl (upd f i v)))) (by decide +kernel) ?_ ?_
  · show (match (match jm_get lv 2 with
        | some (.int x) => if 2 < 4 then some (14 + 3, jm_set1 lv 2 (.int (x + Int32.ofInt 1)), ([] : List Value)) else none
        | _ => none) with
      | some q => some (q.1, q.2.1, q.2.2, jm_up S a (.inl (0, n, .inl (upd f i v))), 0, 0)
      | none => none) = _
    rw [h2]
    show some (17, jm_set1 lv 2 (.int (Int32.ofNat i + Int32.ofInt 1)), ([] : List Value), jm_up S a (.inl (0, n, .inl (upd f i v))), 0, 0) = _
    rw [jh_inc]
  exact jh_step (i := .goto (-12)) (len := 3) (pc1 := 5) (lv1 := jm_set1 lv 2 (.int (Int32.ofNat (i + 1)))) (st1 := []) (S1 := jm_up S a (.inl (0, n, .inl (upd f i v)))) (by decide +kernel) rfl h
theorem jh_end {lv : jm_L} {S1 : jm_S} : jm_goes X mArr_fill d 20 lv [] S1 none S1 0 0 := jg_ret (i := .return_) (len := 1) (by decide +kernel) rfl
theorem jh_f_nil {i : Nat} {f : Nat → Int32} (h : n ≤ i) : jh_f n i v f = f := by
  funext j
  unfold jh_f
  rw [if_neg (by omega)]
theorem jh_f_up {i : Nat} {f : Nat → Int32} (h : i < n) : jh_f n (i + 1) v (upd f i v) = jh_f n i v f := by
  funext j
  unfold jh_f upd
  by_cases h1 : i + 1 ≤ j ∧ j < n
  · rw [if_pos h1, if_pos (by omega)]
  · rw [if_neg h1]
    by_cases h2 : j = i
    · rw [if_pos h2, if_pos (by omega)]
    · rw [if_neg h2, if_neg (by omega)]
theorem jh_loop (ha : a < S.1) (hn : n ≤ 2147483647) : ∀ (r i : Nat) (f : Nat → Int32), i + r = n → jm_goes X mArr_fill d 5 (jh_lv a n i v) [] (jm_up S a (.inl (0, n, .inl f))) none (jm_up S a (.inl (0, n, .inl (jh_f n i v f)))) 0 0 := by
  intro r
  induction r with
  | zero =>
    intro i f h
    refine jh_test rfl rfl (by omega) hn ?_
    rw [if_pos (by omega), jh_f_nil (by omega)]
    exact jh_end
  | succ r ih =>
    intro i f h
    refine jh_test rfl rfl (by omega) hn ?_
    rw [if_neg (by omega)]
    refine jh_body rfl rfl rfl ha (by omega) hn ?_
    have := ih (i + 1) (upd f i v) (by omega)
    rw [jh_f_up (by omega)] at this
    exact this
/-- Arrays.fill of ints -/
theorem jh_fill {f : Nat → Int32} (ha : a < S.1) (hn : n ≤ 2147483647) (hS : S.2 a = .inl (0, n, .inl f)) : jm_goes X mArr_fill d 0 [(0, .ref a), (1, .int v)] [] S none (jm_up S a (.inl (0, n, .inl (jh_f n 0 v f)))) 0 0 := by
  have e : S = jm_up S a (.inl (0, n, .inl f)) := by rw [← hS, jh_up_self]
  refine jh_step (i := .iconst 0) (len := 1) (pc1 := 1) (lv1 := [(0, .ref a), (1, .int v)]) (st1 := [.int 0]) (S1 := S) (by decide +kernel) rfl ?_
  refine jh_step (i := .istore_n 2) (len := 1) (pc1 := 2) (lv1 := [(2, .int 0), (0, .ref a), (1, .int v)]) (st1 := []) (S1 := S) (by decide +kernel) rfl ?_
  refine jh_step (i := .aload_n 0) (len := 1) (pc1 := 3) (lv1 := [(2, .int 0), (0, .ref a), (1, .int v)]) (st1 := [.ref a]) (S1 := S) (by decide +kernel) rfl ?_
  refine jh_step (i := .arraylength) (len := 1) (pc1 := 4) (lv1 := [(2, .int 0), (0, .ref a), (1, .int v)]) (st1 := [.int (Int32.ofNat n)]) (S1 := S) (by decide +kernel) ?_ ?_
  · show (match (if a < S.1 then (match jm_ln (S.2 a) with
        | some z => some ([Value.int z], S, 0, 0)
        | none => none) else (match jm_sa X a with
        | some x => some ([Value.int (Int32.ofNat x.2.1)], S, 0, 0)
        | none => none)) with
      | some q => some (3 + 1, ([(2, .int 0), (0, .ref a), (1, .int v)] : jm_L), q.1, q.2.1, q.2.2.1, q.2.2.2)
      | none => _) = _
    rw [if_pos ha, hS]
    rfl
  refine jh_step (i := .istore_n 3) (len := 1) (pc1 := 5) (lv1 := [(3, .int (Int32.ofNat n)), (2, .int 0), (0, .ref a), (1, .int v)]) (st1 := []) (S1 := S) (by decide +kernel) rfl ?_
  refine jh_test (i := 0) rfl rfl (by omega) hn ?_
  by_cases h0 : n ≤ 0
  · rw [if_pos h0, jh_f_nil h0, ← e]
    exact jh_end
  · rw [if_neg h0]
    have hb := jh_body (X := X) (d := d) (a := a) (n := n) (v := v) (S := S) (i := 0) (lv := [(3, .int (Int32.ofNat n)), (2, .int 0), (0, .ref a), (1, .int v)]) (f := f) (S' := jm_up S a (.inl (0, n, .inl (jh_f n 0 v f)))) (w := none) rfl rfl rfl ha (by omega) hn ?_
    · rw [← e] at hb
      exact hb
    · have := jh_loop (X := X) (d := d) (S := S) (v := v) ha hn (n - 1) 1 (upd f 0 v) (by omega)
      rw [jh_f_up (by omega)] at this
      exact this
end JHI
end
section
/-! Arrays.fill of longs -/
def jk_lv (a n i : Nat) (v : Int64) : jm_L := [(3, .int (Int32.ofNat i)), (4, .int (Int32.ofNat n)), (0, .ref a), (1, .long v)]
def jk_f (n i : Nat) (v : Int64) (f : Nat → Int64) : Nat → Int64 := fun j => if i ≤ j ∧ j < n then v else f j
section JKI
variable {X : jm_X} {d a n : Nat} {v : Int64} {S : jm_S}
theorem jk_test {i : Nat} {lv : jm_L} {S1 S' : jm_S} {w : Option Value} (h2 : jm_get lv 3 = some (.int (Int32.ofNat i))) (h3 : jm_get lv 4 = some (.int (Int32.ofNat n))) (hi : i ≤ 2147483647) (hn : n ≤ 2147483647)
    (h : jm_goes X mArr_fill2 d (if n ≤ i then 22 else 12) lv [] S1 w S' 0 0) : jm_goes X mArr_fill2 d 6 lv [] S1 w S' 0 0 := by
  refine jh_step (i := .iload_n 3) (len := 1) (pc1 := 7) (lv1 := lv) (st1 := [.int (Int32.ofNat i)]) (S1 := S1) (by decide +kernel) ?_ ?_
  · show (match jm_get lv 3 with
      | some v => if jm_isk 0 v = true then some (6 + 1, lv, [v], S1, 0, 0) else none
      | none => none) = _
    rw [h2]
    rfl
  refine jh_step (i := .iload 4) (len := 2) (pc1 := 9) (lv1 := lv) (st1 := [.int (Int32.ofNat n), .int (Int32.ofNat i)]) (S1 := S1) (by decide +kernel) ?_ ?_
  · show (match jm_get lv 4 with
      | some v => if jm_isk 0 v = true then some (7 + 2, lv, [v, .int (Int32.ofNat i)], S1, 0, 0) else none
      | none => none) = _
    rw [h3]
    rfl
  refine jh_step (i := .if_icmp .ge 13) (len := 3) (pc1 := if n ≤ i then 22 else 12) (lv1 := lv) (st1 := []) (S1 := S1) (by decide +kernel) ?_ h
  show some ((if jm_cc .ge (Int32.ofNat i) (Int32.ofNat n) = true then jm_at 9 13 else 9 + 3), lv, ([] : List Value), S1, 0, 0) = _
  rw [jh_ge hi hn]
  by_cases hh : n ≤ i
  · rw [if_pos (decide_eq_true hh), if_pos hh]
    rfl
  · rw [if_neg (fun e => hh (of_decide_eq_true e)), if_neg hh]
theorem jk_body {i : Nat} {lv : jm_L} {f : Nat → Int64} {S' : jm_S} {w : Option Value} (h0 : jm_get lv 0 = some (.ref a)) (h1 : jm_get lv 1 = some (.long v)) (h2 : jm_get lv 3 = some (.int (Int32.ofNat i))) (ha : a < S.1) (hi : i < n) (hn : n ≤ 2147483647)
    (h : jm_goes X mArr_fill2 d 6 (jm_set1 lv 3 (.int (Int32.ofNat (i + 1)))) [] (jm_up S a (.inl (1, n, .inr (.inl (vp_updL f i v))))) w S' 0 0) : jm_goes X mArr_fill2 d 12 lv [] (jm_up S a (.inl (1, n, .inr (.inl f)))) w S' 0 0 := by
  refine jh_step (i := .aload_n 0) (len := 1) (pc1 := 13) (lv1 := lv) (st1 := [.ref a]) (S1 := jm_up S a (.inl (1, n, .inr (.inl f)))) (by decide +kernel) ?_ ?_
  · show (match jm_get lv 0 with
      | some v => if jm_isk 2 v = true then some (12 + 1, lv, [v], jm_up S a (.inl (1, n, .inr (.inl f))), 0, 0) else none
      | none => none) = _
    rw [h0]
    rfl
  refine jh_step (i := .iload_n 3) (len := 1) (pc1 := 14) (lv1 := lv) (st1 := [.int (Int32.ofNat i), .ref a]) (S1 := jm_up S a (.inl (1, n, .inr (.inl f)))) (by decide +kernel) ?_ ?_
  · show (match jm_get lv 3 with
      | some v => if jm_isk 0 v = true then some (13 + 1, lv, [v, .ref a], jm_up S a (.inl (1, n, .inr (.inl f))), 0, 0) else none
      | none => none) = _
    rw [h2]
    rfl
  refine jh_step (i := .lload_n 1) (len := 1) (pc1 := 15) (lv1 := lv) (st1 := [.long v, .int (Int32.ofNat i), .ref a]) (S1 := jm_up S a (.inl (1, n, .inr (.inl f)))) (by decide +kernel) ?_ ?_
  · show (match jm_get lv 1 with
      | some v => if jm_isk 1 v = true then some (14 + 1, lv, [v, .int (Int32.ofNat i), .ref a], jm_up S a (.inl (1, n, .inr (.inl f))), 0, 0) else none
      | none => none) = _
    rw [h1]
    rfl
  refine jh_step (i := .lastore) (len := 1) (pc1 := 16) (lv1 := lv) (st1 := []) (S1 := jm_up S a (.inl (1, n, .inr (.inl (vp_updL f i v))))) (by decide +kernel) ?_ ?_
  · show (match (if a < S.1 then (match jm_wr .lastore (.long v) (Int32.ofNat i) ((jm_up S a (.inl (1, n, .inr (.inl f)))).2 a) with
        | some x => some (([] : List Value), jm_up (jm_up S a (.inl (1, n, .inr (.inl f)))) a x, 0, 0)
        | none => none) else none) with
      | some q => some (15 + 1, lv, q.1, q.2.1, q.2.2.1, q.2.2.2)
      | none => _) = _
    rw [if_pos ha, jh_up_at]
    show (match (match (if jm_in (Int32.ofNat i) n = true then some ((.inl (1, n, .inr (.inl (vp_updL f (Int32.ofNat i).toNatClampNeg v)))) : jm_c) else none) with
        | some x => some (([] : List Value), jm_up (jm_up S a (.inl (1, n, .inr (.inl f)))) a x, 0, 0)
        | none => none) with
      | some q => some (15 + 1, lv, q.1, q.2.1, q.2.2.1, q.2.2.2)
      | none => _) = _
    rw [if_pos (jh_in hi hn), jh_nat (by omega)]
    show some (16, lv, ([] : List Value), jm_up (jm_up S a (.inl (1, n, .inr (.inl f)))) a (.inl (1, n, .inr (.inl (vp_updL f i v)))), 0, 0) = _
    rw [jh_up]
  refine jh_step (i := .iinc 3 1) (len := 3) (pc1 := 19) (lv1 := jm_set1 lv 3 (.int (Int32.ofNat (i + 1)))) (st1 := []) (S1 := jm_up S a (.inl (1, n, .inr (.inl (vp_updL f i v))))) (by decide +kernel) ?_ ?_
  · show (match (match jm_get lv 3 with
        | some (.int x) => if 3 < 5 then some (16 + 3, jm_set1 lv 3 (.int (x + Int32.ofInt 1)), ([] : List Value)) else none
        | _ => none) with
      | some q => some (q.1, q.2.1, q.2.2, jm_up S a (.inl (1, n, .inr (.inl (vp_updL f i v)))), 0, 0)
      | none => none) = _
    rw [h2]
    show some (19, jm_set1 lv 3 (.int (Int32.ofNat i + Int32.ofInt 1)), ([] : List Value), jm_up S a (.inl (1, n, .inr (.inl (vp_updL f i v)))), 0, 0) = _
    rw [jh_inc]
  exact jh_step (i := .goto (-13)) (len := 3) (pc1 := 6) (lv1 := jm_set1 lv 3 (.int (Int32.ofNat (i + 1)))) (st1 := []) (S1 := jm_up S a (.inl (1, n, .inr (.inl (vp_updL f i v))))) (by decide +kernel) rfl h
theorem jk_end {lv : jm_L} {S1 : jm_S} : jm_goes X mArr_fill2 d 22 lv [] S1 none S1 0 0 := jg_ret (i := .return_) (len := 1) (by decide +kernel) rfl
theorem jk_f_nil {i : Nat} {f : Nat → Int64} (h : n ≤ i) : jk_f n i v f = f := by
  funext j
  unfold jk_f
  rw [if_neg (by omega)]
theorem jk_f_up {i : Nat} {f : Nat → Int64} (h : i < n) : jk_f n (i + 1) v (vp_updL f i v) = jk_f n i v f := by
  funext j
  unfold jk_f vp_updL
  by_cases h1 : i + 1 ≤ j ∧ j < n
  · rw [if_pos h1, if_pos (by omega)]
  · rw [if_neg h1]
    by_cases h2 : j = i
    · rw [if_pos h2, if_pos (by omega)]
    · rw [if_neg h2, if_neg (by omega)]
theorem jk_loop (ha : a < S.1) (hn : n ≤ 2147483647) : ∀ (r i : Nat) (f : Nat → Int64), i + r = n → jm_goes X mArr_fill2 d 6 (jk_lv a n i v) [] (jm_up S a (.inl (1, n, .inr (.inl f)))) none (jm_up S a (.inl (1, n, .inr (.inl (jk_f n i v f))))) 0 0 := by
  intro r
  induction r with
  | zero =>
    intro i f h
    refine jk_test rfl rfl (by omega) hn ?_
    rw [if_pos (by omega), jk_f_nil (by omega)]
    exact jk_end
  | succ r ih =>
    intro i f h
    refine jk_test rfl rfl (by omega) hn ?_
    rw [if_neg (by omega)]
    refine jk_body rfl rfl rfl ha (by omega) hn ?_
    have := ih (i + 1) (vp_updL f i v) (by omega)
    rw [jk_f_up (by omega)] at this
    exact this
/-- Arrays.fill of ints -/
theorem jk_fill {f : Nat → Int64} (ha : a < S.1) (hn : n ≤ 2147483647) (hS : S.2 a = .inl (1, n, .inr (.inl f))) : jm_goes X mArr_fill2 d 0 [(0, .ref a), (1, .long v)] [] S none (jm_up S a (.inl (1, n, .inr (.inl (jk_f n 0 v f))))) 0 0 := by
  have e : S = jm_up S a (.inl (1, n, .inr (.inl f))) := by rw [← hS, jh_up_self]
  refine jh_step (i := .iconst 0) (len := 1) (pc1 := 1) (lv1 := [(0, .ref a), (1, .long v)]) (st1 := [.int 0]) (S1 := S) (by decide +kernel) rfl ?_
  refine jh_step (i := .istore_n 3) (len := 1) (pc1 := 2) (lv1 := [(3, .int 0), (0, .ref a), (1, .long v)]) (st1 := []) (S1 := S) (by decide +kernel) rfl ?_
  refine jh_step (i := .aload_n 0) (len := 1) (pc1 := 3) (lv1 := [(3, .int 0), (0, .ref a), (1, .long v)]) (st1 := [.ref a]) (S1 := S) (by decide +kernel) rfl ?_
  refine jh_step (i := .arraylength) (len := 1) (pc1 := 4) (lv1 := [(3, .int 0), (0, .ref a), (1, .long v)]) (st1 := [.int (Int32.ofNat n)]) (S1 := S) (by decide +kernel) ?_ ?_
  · show (match (if a < S.1 then (match jm_ln (S.2 a) with
        | some z => some ([Value.int z], S, 0, 0)
        | none => none) else (match jm_sa X a with
        | some x => some ([Value.int (Int32.ofNat x.2.1)], S, 0, 0)
        | none => none)) with
      | some q => some (3 + 1, ([(3, .int 0), (0, .ref a), (1, .long v)] : jm_L), q.1, q.2.1, q.2.2.1, q.2.2.2)
      | none => _) = _
    rw [if_pos ha, hS]
    rfl
  refine jh_step (i := .istore 4) (len := 2) (pc1 := 6) (lv1 := [(4, .int (Int32.ofNat n)), (3, .int 0), (0, .ref a), (1, .long v)]) (st1 := []) (S1 := S) (by decide +kernel) rfl ?_
  refine jk_test (i := 0) rfl rfl (by omega) hn ?_
  by_cases h0 : n ≤ 0
  · rw [if_pos h0, jk_f_nil h0, ← e]
    exact jk_end
  · rw [if_neg h0]
    have hb := jk_body (X := X) (d := d) (a := a) (n := n) (v := v) (S := S) (i := 0) (lv := [(4, .int (Int32.ofNat n)), (3, .int 0), (0, .ref a), (1, .long v)]) (f := f) (S' := jm_up S a (.inl (1, n, .inr (.inl (jk_f n 0 v f))))) (w := none) rfl rfl rfl ha (by omega) hn ?_
    · rw [← e] at hb
      exact hb
    · have := jk_loop (X := X) (d := d) (S := S) (v := v) ha hn (n - 1) 1 (vp_updL f 0 v) (by omega)
      rw [jk_f_up (by omega)] at this
      exact this
end JKI
end
section
def js_ix (i : Instr) : Nat := match i with
  | .invokevirtual idx => idx
  | .invokestatic idx => idx
  | .invokespecial idx => idx
  | _ => 0
/-! THE SYMBOLIC MACHINE, part 4c: Arrays.fill and System.arraycopy over its own stores -/
theorem jg_cp {X : jm_X} {M : jm_M} {d pc len k j : Nat} {lv : jm_L} {st r : List Value} {S S1 S' : jm_S} {v : Option Value} {i : Instr} (hd : decode M.2.1 pc = .ok (i, len)) (hr : jm_cp M i len d st S = some (r, S1)) (h : jm_goes X M d (pc + 3) lv r S1 v S' k j) : jm_goes X M d pc lv st S v S' k j := by
  intro p l e R s m args below meth c D dA base sa H locs cells slots ls Q C hH hS hl hlim hfr hlo hc hs hret
  exact jm_cp_ok C hd hr hH hS hl hlim hfr hlo (fun H1 locs1 w1 w2 w3 => h p l e R s m args below meth c D dA base sa H1 locs1 cells slots ls Q C w1 w2 hl w3 hfr hlo hc hs hret)
def js_cpl (us : List (Nat × js_V)) (z : Value) (sp dp : Nat) : Nat → List (Nat × js_V)
  | 0 => []
  | n + 1 => (dp + n, js_lk us z (sp + n)) :: js_cpl us z sp dp n
theorem js_cpl_i (ρ : js_R) (us ws : List (Nat × js_V)) (sp dp : Nat) : ∀ n, js_fi ρ (js_cpl us (.int 0) sp dp n ++ ws) = va_cpy (js_fi ρ us) (js_fi ρ ws) sp dp n := by
  intro n
  induction n with
  | zero =>
    funext j
    unfold va_cpy
    rw [if_neg (by omega)]
    rfl
  | succ n ih =>
    funext j
    show (if j = dp + n then js_int (js_v ρ (js_lk us (.int 0) (sp + n))) else js_fi ρ (js_cpl us (.int 0) sp dp n ++ ws) j) = _
    rw [ih, ← js_fi_lk]
    unfold va_cpy
    by_cases h : j = dp + n
    · rw [if_pos h, if_pos (by omega)]
      congr 1
      omega
    · rw [if_neg h]
      by_cases h2 : dp ≤ j ∧ j < dp + n
      · rw [if_pos h2, if_pos (by omega)]
      · rw [if_neg h2, if_neg (by omega)]
theorem js_cpl_l (ρ : js_R) (us ws : List (Nat × js_V)) (sp dp : Nat) : ∀ n, js_fl ρ (js_cpl us (.long 0) sp dp n ++ ws) = va_cpy (js_fl ρ us) (js_fl ρ ws) sp dp n := by
  intro n
  induction n with
  | zero =>
    funext j
    unfold va_cpy
    rw [if_neg (by omega)]
    rfl
  | succ n ih =>
    funext j
    show (if j = dp + n then js_lng (js_v ρ (js_lk us (.long 0) (sp + n))) else js_fl ρ (js_cpl us (.long 0) sp dp n ++ ws) j) = _
    rw [ih, ← js_fl_lk]
    unfold va_cpy
    by_cases h : j = dp + n
    · rw [if_pos h, if_pos (by omega)]
      congr 1
      omega
    · rw [if_neg h]
      by_cases h2 : dp ≤ j ∧ j < dp + n
      · rw [if_pos h2, if_pos (by omega)]
      · rw [if_neg h2, if_neg (by omega)]
def js_cp (M : jm_M) (i : Instr) (len d : Nat) (st : List js_V) (D : js_S) : Option (List js_V × js_S) := match i, len, st with
  | .invokestatic idx, 3, .inl (.int n) :: .inl (.int dp) :: .inl (.ref b) :: .inl (.int sp) :: .inl (.ref a) :: r => (match jp_A (jm_q M) idx with
    | some _ => if 1 ≤ d ∧ (r.map js_cat).sum ≤ 8 ∧ ¬ sp < 0 ∧ ¬ dp < 0 ∧ ¬ n < 0 then (match D[a]?, D[b]? with
      | some (.inl (0, n0, us)), some (.inl (0, n1, ws)) => if sp.toNatClampNeg + n.toNatClampNeg ≤ n0 ∧ dp.toNatClampNeg + n.toNatClampNeg ≤ n1 then some (r, D.set b (.inl (0, n1, js_cpl us (.int 0) sp.toNatClampNeg dp.toNatClampNeg n.toNatClampNeg ++ ws))) else none
      | some (.inl (1, n0, us)), some (.inl (1, n1, ws)) => if sp.toNatClampNeg + n.toNatClampNeg ≤ n0 ∧ dp.toNatClampNeg + n.toNatClampNeg ≤ n1 then some (r, D.set b (.inl (1, n1, js_cpl us (.long 0) sp.toNatClampNeg dp.toNatClampNeg n.toNatClampNeg ++ ws))) else none
      | _, _ => none) else none
    | none => none)
  | _, _, _ => none
theorem js_cp_eq (ρ : js_R) {M : jm_M} {i : Instr} {len d : Nat} {st r : List js_V} {D D' : js_S} (h : js_cp M i len d st D = some (r, D')) : jm_cp M i len d (st.map (js_v ρ)) (js_abs ρ D) = some (r.map (js_v ρ), js_abs ρ D') := by
  unfold js_cp at h
  split at h
  · rename_i idx n dp b sp a r1
    split at h
    · rename_i u hu
      split at h
      · rename_i hc
        split at h
        · rename_i n0 us n1 ws ha hb
          split at h
          · rename_i hk
            cases h
            obtain ⟨a1, a2⟩ := js_at ρ ha
            obtain ⟨b1, b2⟩ := js_at ρ hb
            show (match jp_A (jm_q M) idx with
              | some _ => if a < (js_abs ρ D).1 ∧ b < (js_abs ρ D).1 ∧ 1 ≤ d ∧ ((r.map (js_v ρ)).map fun v : Value => v.category).sum ≤ 8 ∧ ¬ sp < 0 ∧ ¬ dp < 0 ∧ ¬ n < 0 then (match (js_abs ρ D).2 a, (js_abs ρ D).2 b with
                | .inl (0, n0, .inl f), .inl (0, n1, .inl g) => if sp.toNatClampNeg + n.toNatClampNeg ≤ n0 ∧ dp.toNatClampNeg + n.toNatClampNeg ≤ n1 then some (r.map (js_v ρ), jm_up (js_abs ρ D) b (.inl (0, n1, .inl (va_cpy f g sp.toNatClampNeg dp.toNatClampNeg n.toNatClampNeg)))) else none
                | .inl (1, n0, .inr (.inl f)), .inl (1, n1, .inr (.inl g)) => if sp.toNatClampNeg + n.toNatClampNeg ≤ n0 ∧ dp.toNatClampNeg + n.toNatClampNeg ≤ n1 then some (r.map (js_v ρ), jm_up (js_abs ρ D) b (.inl (1, n1, .inr (.inl (va_cpy f g sp.toNatClampNeg dp.toNatClampNeg n.toNatClampNeg))))) else none
                | _, _ => none) else none
              | none => none) = _
            rw [hu]
            dsimp only
            rw [js_sum_eq, if_pos ⟨a1, b1, hc⟩, a2, b2]
            show (if sp.toNatClampNeg + n.toNatClampNeg ≤ n0 ∧ dp.toNatClampNeg + n.toNatClampNeg ≤ n1 then some (r.map (js_v ρ), jm_up (js_abs ρ D) b (.inl (0, n1, .inl (va_cpy (js_fi ρ us) (js_fi ρ ws) sp.toNatClampNeg dp.toNatClampNeg n.toNatClampNeg)))) else none) = _
            rw [if_pos hk, js_abs_set ρ _ b1, ← js_cpl_i]
            rfl
          · cases h
        · rename_i n0 us n1 ws ha hb
          split at h
          · rename_i hk
            cases h
            obtain ⟨a1, a2⟩ := js_at ρ ha
            obtain ⟨b1, b2⟩ := js_at ρ hb
            show (match jp_A (jm_q M) idx with
              | some _ => if a < (js_abs ρ D).1 ∧ b < (js_abs ρ D).1 ∧ 1 ≤ d ∧ ((r.map (js_v ρ)).map fun v : Value => v.category).sum ≤ 8 ∧ ¬ sp < 0 ∧ ¬ dp < 0 ∧ ¬ n < 0 then (match (js_abs ρ D).2 a, (js_abs ρ D).2 b with
                | .inl (0, n0, .inl f), .inl (0, n1, .inl g) => if sp.toNatClampNeg + n.toNatClampNeg ≤ n0 ∧ dp.toNatClampNeg + n.toNatClampNeg ≤ n1 then some (r.map (js_v ρ), jm_up (js_abs ρ D) b (.inl (0, n1, .inl (va_cpy f g sp.toNatClampNeg dp.toNatClampNeg n.toNatClampNeg)))) else none
                | .inl (1, n0, .inr (.inl f)), .inl (1, n1, .inr (.inl g)) => if sp.toNatClampNeg + n.toNatClampNeg ≤ n0 ∧ dp.toNatClampNeg + n.toNatClampNeg ≤ n1 then some (r.map (js_v ρ), jm_up (js_abs ρ D) b (.inl (1, n1, .inr (.inl (va_cpy f g sp.toNatClampNeg dp.toNatClampNeg n.toNatClampNeg))))) else none
                | _, _ => none) else none
              | none => none) = _
            rw [hu]
            dsimp only
            rw [js_sum_eq, if_pos ⟨a1, b1, hc⟩, a2, b2]
            show (if sp.toNatClampNeg + n.toNatClampNeg ≤ n0 ∧ dp.toNatClampNeg + n.toNatClampNeg ≤ n1 then some (r.map (js_v ρ), jm_up (js_abs ρ D) b (.inl (1, n1, .inr (.inl (va_cpy (js_fl ρ us) (js_fl ρ ws) sp.toNatClampNeg dp.toNatClampNeg n.toNatClampNeg))))) else none) = _
            rw [if_pos hk, js_abs_set ρ _ b1, ← js_cpl_l]
            rfl
          · cases h
        · cases h
      · cases h
    · cases h
  · cases h
/-! where the class fills -/
def jfl_i : List (Nat × Nat) := [(6, 62), (9, 55)]
def jfl_l : List (Nat × Nat) := [(4, 42), (5, 32)]
theorem jfl_i_ok : ∀ r ∈ jfl_i, ∃ k, jp_M r.1 r.2 = some (mArr_fill, k) := List.forall_mem_cons.mpr ⟨⟨_, rfl⟩, List.forall_mem_cons.mpr ⟨⟨_, rfl⟩, fun _ h => by cases h⟩⟩
theorem jfl_l_ok : ∀ r ∈ jfl_l, ∃ k, jp_M r.1 r.2 = some (mArr_fill2, k) := List.forall_mem_cons.mpr ⟨⟨_, rfl⟩, List.forall_mem_cons.mpr ⟨⟨_, rfl⟩, fun _ h => by cases h⟩⟩
theorem js_inv_M {M N : jm_M} {i : Instr} {len f : Nat} {st as r : List js_V} {D : js_S} (h : js_inv M i len st D = some (N, f, as, r)) : ∃ k, jp_M (jm_q M) (js_ix i) = some (N, k) := by
  unfold js_inv at h
  split at h
  · rename_i idx
    split at h
    · rename_i N1 hN
      split at h
      · split at h
        · split at h
          · split at h
            · cases h
              exact ⟨_, hN⟩
            · cases h
          · cases h
        · cases h
      · cases h
    · cases h
  · rename_i idx
    split at h
    · rename_i N1 k1 hN
      split at h
      · cases h
        exact ⟨_, hN⟩
      · cases h
    · cases h
  · rename_i idx
    split at h
    · rename_i N1 k1 hN
      split at h
      · split at h
        · cases h
          exact ⟨_, hN⟩
        · cases h
      · cases h
    · cases h
  · cases h
def js_low (n : Nat) (us : List (Nat × js_V)) : Bool := us.all fun q => Nat.blt q.1 n
theorem js_low_i (ρ : js_R) {n : Nat} : ∀ {us : List (Nat × js_V)}, js_low n us = true → ∀ j, n ≤ j → js_fi ρ us j = 0 := by
  intro us
  induction us with
  | nil => intro _ j _; rfl
  | cons q us ih =>
    intro h j hj
    have h1 : (Nat.blt q.1 n && js_low n us) = true := h
    rw [Bool.and_eq_true, Nat.blt_eq] at h1
    show (if j = q.1 then js_int (js_v ρ q.2) else js_fi ρ us j) = 0
    rw [if_neg (by omega), ih h1.2 j hj]
theorem js_low_l (ρ : js_R) {n : Nat} : ∀ {us : List (Nat × js_V)}, js_low n us = true → ∀ j, n ≤ j → js_fl ρ us j = 0 := by
  intro us
  induction us with
  | nil => intro _ j _; rfl
  | cons q us ih =>
    intro h j hj
    have h1 : (Nat.blt q.1 n && js_low n us) = true := h
    rw [Bool.and_eq_true, Nat.blt_eq] at h1
    show (if j = q.1 then js_lng (js_v ρ q.2) else js_fl ρ us j) = 0
    rw [if_neg (by omega), ih h1.2 j hj]
def js_all (v : Value) : Nat → List (Nat × js_V)
  | 0 => []
  | n + 1 => (n, .inl v) :: js_all v n
theorem js_all_i (ρ : js_R) (v : Int32) (us : List (Nat × js_V)) : ∀ n, js_fi ρ (js_all (.int v) n ++ us) = jh_f n 0 v (js_fi ρ us) := by
  intro n
  induction n with
  | zero => rw [jh_f_nil (Nat.le_refl 0)]; rfl
  | succ n ih =>
    funext j
    show (if j = n then v else js_fi ρ (js_all (.int v) n ++ us) j) = _
    rw [ih]
    unfold jh_f
    by_cases h : j = n
    · rw [if_pos h, if_pos (by omega)]
    · rw [if_neg h]
      by_cases h2 : 0 ≤ j ∧ j < n
      · rw [if_pos h2, if_pos (by omega)]
      · rw [if_neg h2, if_neg (by omega)]
theorem js_all_l (ρ : js_R) (v : Int64) (us : List (Nat × js_V)) : ∀ n, js_fl ρ (js_all (.long v) n ++ us) = jk_f n 0 v (js_fl ρ us) := by
  intro n
  induction n with
  | zero => rw [jk_f_nil (Nat.le_refl 0)]; rfl
  | succ n ih =>
    funext j
    show (if j = n then v else js_fl ρ (js_all (.long v) n ++ us) j) = _
    rw [ih]
    unfold jk_f
    by_cases h : j = n
    · rw [if_pos h, if_pos (by omega)]
    · rw [if_neg h]
      by_cases h2 : 0 ≤ j ∧ j < n
      · rw [if_pos h2, if_pos (by omega)]
      · rw [if_neg h2, if_neg (by omega)]
def js_flu_i (v : Int32) (n : Nat) (us : List (Nat × js_V)) : List (Nat × js_V) := match decide (v = 0) && js_low n us with
  | true => []
  | false => js_all (.int v) n ++ us
def js_flu_l (v : Int64) (n : Nat) (us : List (Nat × js_V)) : List (Nat × js_V) := match decide (v = 0) && js_low n us with
  | true => []
  | false => js_all (.long v) n ++ us
theorem js_flu_i_eq (ρ : js_R) (v : Int32) (n : Nat) (us : List (Nat × js_V)) : js_fi ρ (js_flu_i v n us) = jh_f n 0 v (js_fi ρ us) := by
  unfold js_flu_i
  split
  · rename_i h
    rw [Bool.and_eq_true, decide_eq_true_eq] at h
    funext j
    unfold jh_f
    by_cases h2 : 0 ≤ j ∧ j < n
    · rw [if_pos h2, h.1]; rfl
    · rw [if_neg h2, js_low_i ρ h.2 j (by omega)]; rfl
  · exact js_all_i ρ v us n
theorem js_flu_l_eq (ρ : js_R) (v : Int64) (n : Nat) (us : List (Nat × js_V)) : js_fl ρ (js_flu_l v n us) = jk_f n 0 v (js_fl ρ us) := by
  unfold js_flu_l
  split
  · rename_i h
    rw [Bool.and_eq_true, decide_eq_true_eq] at h
    funext j
    unfold jk_f
    by_cases h2 : 0 ≤ j ∧ j < n
    · rw [if_pos h2, h.1]; rfl
    · rw [if_neg h2, js_low_l ρ h.2 j (by omega)]; rfl
  · exact js_all_l ρ v us n
/-- 1: a fill of ints, 2: of longs -/
def js_isf (q : Nat) (i : Instr) : Nat := match i with
  | .invokestatic idx => bif jfl_i.any (fun r => Nat.beq r.1 q && Nat.beq r.2 idx) then 1 else bif jfl_l.any (fun r => Nat.beq r.1 q && Nat.beq r.2 idx) then 2 else 0
  | _ => 0
def js_fil (M : jm_M) (i : Instr) (len : Nat) (st : List js_V) (D : js_S) : Option (List js_V × js_S) := match js_isf (jm_q M) i with
  | 1 => (match js_inv M i len st D with
    | some (_, _, [.inl (.ref a), .inl (.int v)], r) => (match D[a]? with
      | some (.inl (0, n, us)) => if n ≤ 2147483647 then some (r, D.set a (.inl (0, n, js_flu_i v n us))) else none
      | _ => none)
    | _ => none)
  | 2 => (match js_inv M i len st D with
    | some (_, _, [.inl (.ref a), .inl (.long v)], r) => (match D[a]? with
      | some (.inl (1, n, us)) => if n ≤ 2147483647 then some (r, D.set a (.inl (1, n, js_flu_l v n us))) else none
      | _ => none)
    | _ => none)
  | _ => none
theorem js_any {l : List (Nat × Nat)} {q idx : Nat} (h : l.any (fun r => Nat.beq r.1 q && Nat.beq r.2 idx) = true) : (q, idx) ∈ l := by
  obtain ⟨r, hr, h⟩ := List.any_eq_true.mp h
  rw [Bool.and_eq_true] at h
  have e1 := Nat.eq_of_beq_eq_true h.1
  have e2 := Nat.eq_of_beq_eq_true h.2
  have e3 : r = (q, idx) := Prod.ext e1 e2
  rw [← e3]
  exact hr
theorem js_isf_1 {q : Nat} {i : Instr} (h : js_isf q i = 1) : ∃ k, jp_M q (js_ix i) = some (mArr_fill, k) := by
  unfold js_isf at h
  split at h
  · rename_i idx
    cases hb : jfl_i.any (fun r => Nat.beq r.1 q && Nat.beq r.2 idx) with
    | true => exact jfl_i_ok _ (js_any hb)
    | false =>
      rw [hb] at h
      dsimp only [cond] at h
      cases hb2 : jfl_l.any (fun r => Nat.beq r.1 q && Nat.beq r.2 idx) with
      | true => rw [hb2] at h; cases h
      | false => rw [hb2] at h; cases h
  · cases h
theorem js_isf_2 {q : Nat} {i : Instr} (h : js_isf q i = 2) : ∃ k, jp_M q (js_ix i) = some (mArr_fill2, k) := by
  unfold js_isf at h
  split at h
  · rename_i idx
    cases hb : jfl_i.any (fun r => Nat.beq r.1 q && Nat.beq r.2 idx) with
    | true => rw [hb] at h; cases h
    | false =>
      rw [hb] at h
      dsimp only [cond] at h
      cases hb2 : jfl_l.any (fun r => Nat.beq r.1 q && Nat.beq r.2 idx) with
      | true => exact jfl_l_ok _ (js_any hb2)
      | false => rw [hb2] at h; cases h
  · cases h
theorem js_fil_go {ρ : js_R} {X : jm_X} {M : jm_M} {i : Instr} {len d pc k j : Nat} {lv : jm_L} {st r : List js_V} {D D' : js_S} {v : Option Value} {S' : jm_S} (hd : decode M.2.1 pc = .ok (i, len)) (h : js_fil M i len st D = some (r, D')) (h2 : jm_goes X M (d + 1) (pc + 3) lv (r.map (js_v ρ)) (js_abs ρ D') v S' k j) : jm_goes X M (d + 1) pc lv (st.map (js_v ρ)) (js_abs ρ D) v S' k j := by
  unfold js_fil at h
  split at h
  · rename_i hf
    obtain ⟨k1, hk1⟩ := js_isf_1 hf
    split at h
    · rename_i N f a w r1 hi
      obtain ⟨k2, hk2⟩ := js_inv_M hi
      have e := hk1.symm.trans hk2
      cases e
      split at h
      · rename_i n us ha
        split at h
        · rename_i hn
          cases h
          obtain ⟨a1, a2⟩ := js_at ρ ha
          have hq := jh_fill (X := X) (d := d) (a := a) (n := n) (v := w) (S := js_abs ρ D) (f := js_fi ρ us) a1 hn a2
          have e2 : js_abs ρ (D.set a (.inl (0, n, js_flu_i w n us))) = jm_up (js_abs ρ D) a (.inl (0, n, .inl (jh_f n 0 w (js_fi ρ us)))) := by
            rw [js_abs_set ρ _ a1, ← js_flu_i_eq]
            rfl
          rw [e2] at h2
          have := jg_inv hd (js_inv_eq ρ hi) hq h2
          rw [Nat.zero_add, Nat.zero_add] at this
          exact this
        · cases h
      · cases h
    · cases h
  · rename_i hf
    obtain ⟨k1, hk1⟩ := js_isf_2 hf
    split at h
    · rename_i N f a w r1 hi
      obtain ⟨k2, hk2⟩ := js_inv_M hi
      have e := hk1.symm.trans hk2
      cases e
      split at h
      · rename_i n us ha
        split at h
        · rename_i hn
          cases h
          obtain ⟨a1, a2⟩ := js_at ρ ha
          have hq := jk_fill (X := X) (d := d) (a := a) (n := n) (v := w) (S := js_abs ρ D) (f := js_fl ρ us) a1 hn a2
          have e2 : js_abs ρ (D.set a (.inl (1, n, js_flu_l w n us))) = jm_up (js_abs ρ D) a (.inl (1, n, .inr (.inl (jk_f n 0 w (js_fl ρ us))))) := by
            rw [js_abs_set ρ _ a1, ← js_flu_l_eq]
            rfl
          rw [e2] at h2
          have := jg_inv hd (js_inv_eq ρ hi) hq h2
          rw [Nat.zero_add, Nat.zero_add] at this
          exact this
        · cases h
      · cases h
    · cases h
  · cases h
end
