section
-- ===== PART A: goes FIRST, ahead of the names: the tables' words, and 'selects' of the private methods out of them =====
/-- a private method of a class that the tables say can be made, by its rows of tables_1 -/
def lw_okq (q : MethodName × Nat) : Prop := (q.1.cls ≠ "java/lang/invoke/MethodHandle" ∧ q.1.cls ≠ "java/lang/invoke/VarHandle") ∧ Cond.instantiable q.1.cls q.2 ∈ tables_1 ∧ Cond.privateMethod q.1 ∈ tables_1 ∧ Cond.instanceMethod q.1 ∈ tables_1
theorem lw_p0 : lw_okq (⟨"HalfDone$WillReader", "readClause", "(LHalfDone$Estate;)Z"⟩, 1) := ⟨⟨by decide +kernel, by decide +kernel⟩, List.mem_of_getElem? (i := 62) (by decide +kernel), List.mem_of_getElem? (i := 420) (by decide +kernel), List.mem_of_getElem? (i := 421) (by decide +kernel)⟩
theorem lw_p1 : lw_okq (⟨"HalfDone$WillReader", "readThing", "(LHalfDone$Estate;)Z"⟩, 1) := ⟨⟨by decide +kernel, by decide +kernel⟩, List.mem_of_getElem? (i := 62) (by decide +kernel), List.mem_of_getElem? (i := 428) (by decide +kernel), List.mem_of_getElem? (i := 429) (by decide +kernel)⟩
theorem lw_p2 : lw_okq (⟨"HalfDone$WillReader", "readSteps", "(LHalfDone$Estate;I)Z"⟩, 1) := ⟨⟨by decide +kernel, by decide +kernel⟩, List.mem_of_getElem? (i := 62) (by decide +kernel), List.mem_of_getElem? (i := 468) (by decide +kernel), List.mem_of_getElem? (i := 469) (by decide +kernel)⟩
theorem lw_p3 : lw_okq (⟨"HalfDone$WillReader", "readHeir", "(LHalfDone$Estate;)Z"⟩, 1) := ⟨⟨by decide +kernel, by decide +kernel⟩, List.mem_of_getElem? (i := 62) (by decide +kernel), List.mem_of_getElem? (i := 483) (by decide +kernel), List.mem_of_getElem? (i := 484) (by decide +kernel)⟩
theorem lw_p4 : lw_okq (⟨"HalfDone$WillReader", "readTool", "(LHalfDone$Estate;)Z"⟩, 1) := ⟨⟨by decide +kernel, by decide +kernel⟩, List.mem_of_getElem? (i := 62) (by decide +kernel), List.mem_of_getElem? (i := 495) (by decide +kernel), List.mem_of_getElem? (i := 496) (by decide +kernel)⟩
theorem lw_p5 : lw_okq (⟨"HalfDone$LawReader", "readClause", "()Z"⟩, 3) := ⟨⟨by decide +kernel, by decide +kernel⟩, List.mem_of_getElem? (i := 72) (by decide +kernel), List.mem_of_getElem? (i := 512) (by decide +kernel), List.mem_of_getElem? (i := 513) (by decide +kernel)⟩
theorem lw_p6 : lw_okq (⟨"HalfDone$LawReader", "readSum", "(I)Z"⟩, 3) := ⟨⟨by decide +kernel, by decide +kernel⟩, List.mem_of_getElem? (i := 72) (by decide +kernel), List.mem_of_getElem? (i := 518) (by decide +kernel), List.mem_of_getElem? (i := 519) (by decide +kernel)⟩
theorem lw_p7 : lw_okq (⟨"HalfDone$LawReader", "readTerm", "(I)Z"⟩, 3) := ⟨⟨by decide +kernel, by decide +kernel⟩, List.mem_of_getElem? (i := 72) (by decide +kernel), List.mem_of_getElem? (i := 522) (by decide +kernel), List.mem_of_getElem? (i := 523) (by decide +kernel)⟩
theorem lw_p8 : lw_okq (⟨"HalfDone$LawReader", "readAtom", "(I)Z"⟩, 3) := ⟨⟨by decide +kernel, by decide +kernel⟩, List.mem_of_getElem? (i := 72) (by decide +kernel), List.mem_of_getElem? (i := 526) (by decide +kernel), List.mem_of_getElem? (i := 527) (by decide +kernel)⟩
theorem lw_p9 : lw_okq (⟨"HalfDone$LawReader", "emit", "(I)V"⟩, 3) := ⟨⟨by decide +kernel, by decide +kernel⟩, List.mem_of_getElem? (i := 72) (by decide +kernel), List.mem_of_getElem? (i := 534) (by decide +kernel), List.mem_of_getElem? (i := 535) (by decide +kernel)⟩
theorem lw_p10 : lw_okq (⟨"HalfDone$LawReader", "readCondition", "(IZ)Z"⟩, 3) := ⟨⟨by decide +kernel, by decide +kernel⟩, List.mem_of_getElem? (i := 72) (by decide +kernel), List.mem_of_getElem? (i := 544) (by decide +kernel), List.mem_of_getElem? (i := 545) (by decide +kernel)⟩
theorem lw_p11 : lw_okq (⟨"HalfDone$LawReader", "readTruth", "(IZ)Z"⟩, 3) := ⟨⟨by decide +kernel, by decide +kernel⟩, List.mem_of_getElem? (i := 72) (by decide +kernel), List.mem_of_getElem? (i := 548) (by decide +kernel), List.mem_of_getElem? (i := 549) (by decide +kernel)⟩
theorem lw_p12 : lw_okq (⟨"HalfDone$LawReader", "readUnit", "(IZ)Z"⟩, 3) := ⟨⟨by decide +kernel, by decide +kernel⟩, List.mem_of_getElem? (i := 72) (by decide +kernel), List.mem_of_getElem? (i := 552) (by decide +kernel), List.mem_of_getElem? (i := 553) (by decide +kernel)⟩
theorem lw_p13 : lw_okq (⟨"HalfDone$LawReader", "readNested", "(II)Z"⟩, 3) := ⟨⟨by decide +kernel, by decide +kernel⟩, List.mem_of_getElem? (i := 72) (by decide +kernel), List.mem_of_getElem? (i := 556) (by decide +kernel), List.mem_of_getElem? (i := 557) (by decide +kernel)⟩
theorem lw_p14 : lw_okq (⟨"HalfDone", "putWill", "()I"⟩, 13) := ⟨⟨by decide +kernel, by decide +kernel⟩, List.mem_of_getElem? (i := 27) (by decide +kernel), List.mem_of_getElem? (i := 572) (by decide +kernel), List.mem_of_getElem? (i := 573) (by decide +kernel)⟩
theorem lw_p15 : lw_okq (⟨"HalfDone$Estate", "everyone", "()I"⟩, 12) := ⟨⟨by decide +kernel, by decide +kernel⟩, List.mem_of_getElem? (i := 275) (by decide +kernel), List.mem_of_getElem? (i := 692) (by decide +kernel), List.mem_of_getElem? (i := 693) (by decide +kernel)⟩
def lw_privs_1 : List (MethodName × Nat) := [(⟨"HalfDone$WillReader", "readClause", "(LHalfDone$Estate;)Z"⟩, 1), (⟨"HalfDone$WillReader", "readThing", "(LHalfDone$Estate;)Z"⟩, 1), (⟨"HalfDone$WillReader", "readSteps", "(LHalfDone$Estate;I)Z"⟩, 1), (⟨"HalfDone$WillReader", "readHeir", "(LHalfDone$Estate;)Z"⟩, 1), (⟨"HalfDone$WillReader", "readTool", "(LHalfDone$Estate;)Z"⟩, 1), (⟨"HalfDone$LawReader", "readClause", "()Z"⟩, 3), (⟨"HalfDone$LawReader", "readSum", "(I)Z"⟩, 3), (⟨"HalfDone$LawReader", "readTerm", "(I)Z"⟩, 3), (⟨"HalfDone$LawReader", "readAtom", "(I)Z"⟩, 3), (⟨"HalfDone$LawReader", "emit", "(I)V"⟩, 3), (⟨"HalfDone$LawReader", "readCondition", "(IZ)Z"⟩, 3), (⟨"HalfDone$LawReader", "readTruth", "(IZ)Z"⟩, 3), (⟨"HalfDone$LawReader", "readUnit", "(IZ)Z"⟩, 3), (⟨"HalfDone$LawReader", "readNested", "(II)Z"⟩, 3), (⟨"HalfDone", "putWill", "()I"⟩, 13), (⟨"HalfDone$Estate", "everyone", "()I"⟩, 12)]
theorem lw_r1 : ∀ q ∈ lw_privs_1, lw_okq q := List.forall_mem_cons.mpr ⟨lw_p0, List.forall_mem_cons.mpr ⟨lw_p1, List.forall_mem_cons.mpr ⟨lw_p2, List.forall_mem_cons.mpr ⟨lw_p3, List.forall_mem_cons.mpr ⟨lw_p4, List.forall_mem_cons.mpr ⟨lw_p5, List.forall_mem_cons.mpr ⟨lw_p6, List.forall_mem_cons.mpr ⟨lw_p7, List.forall_mem_cons.mpr ⟨lw_p8, List.forall_mem_cons.mpr ⟨lw_p9, List.forall_mem_cons.mpr ⟨lw_p10, List.forall_mem_cons.mpr ⟨lw_p11, List.forall_mem_cons.mpr ⟨lw_p12, List.forall_mem_cons.mpr ⟨lw_p13, List.forall_mem_cons.mpr ⟨lw_p14, List.forall_mem_cons.mpr ⟨lw_p15, fun _ h => absurd h List.not_mem_nil⟩⟩⟩⟩⟩⟩⟩⟩⟩⟩⟩⟩⟩⟩⟩⟩
theorem lw_p16 : lw_okq (⟨"HalfDone$Estate", "bestSkill", "(II)I"⟩, 12) := ⟨⟨by decide +kernel, by decide +kernel⟩, List.mem_of_getElem? (i := 275) (by decide +kernel), List.mem_of_getElem? (i := 696) (by decide +kernel), List.mem_of_getElem? (i := 697) (by decide +kernel)⟩
theorem lw_p17 : lw_okq (⟨"HalfDone$Estate", "workOf", "(I)I"⟩, 12) := ⟨⟨by decide +kernel, by decide +kernel⟩, List.mem_of_getElem? (i := 275) (by decide +kernel), List.mem_of_getElem? (i := 765) (by decide +kernel), List.mem_of_getElem? (i := 766) (by decide +kernel)⟩
theorem lw_p18 : lw_okq (⟨"HalfDone$Estate", "workAt", "(II)V"⟩, 12) := ⟨⟨by decide +kernel, by decide +kernel⟩, List.mem_of_getElem? (i := 275) (by decide +kernel), List.mem_of_getElem? (i := 770) (by decide +kernel), List.mem_of_getElem? (i := 771) (by decide +kernel)⟩
theorem lw_p19 : lw_okq (⟨"HalfDone$Estate", "closeDay", "(I)V"⟩, 12) := ⟨⟨by decide +kernel, by decide +kernel⟩, List.mem_of_getElem? (i := 275) (by decide +kernel), List.mem_of_getElem? (i := 774) (by decide +kernel), List.mem_of_getElem? (i := 775) (by decide +kernel)⟩
theorem lw_p20 : lw_okq (⟨"HalfDone$Dealer", "putInOrder", "(LHalfDone$Estate;I)V"⟩, 6) := ⟨⟨by decide +kernel, by decide +kernel⟩, List.mem_of_getElem? (i := 185) (by decide +kernel), List.mem_of_getElem? (i := 827) (by decide +kernel), List.mem_of_getElem? (i := 828) (by decide +kernel)⟩
theorem lw_p21 : lw_okq (⟨"HalfDone$Dealer", "dealToAllBut", "(LHalfDone$Estate;I)V"⟩, 6) := ⟨⟨by decide +kernel, by decide +kernel⟩, List.mem_of_getElem? (i := 185) (by decide +kernel), List.mem_of_getElem? (i := 833) (by decide +kernel), List.mem_of_getElem? (i := 834) (by decide +kernel)⟩
theorem lw_p22 : lw_okq (⟨"HalfDone$Dealer", "dealNothing", "()V"⟩, 6) := ⟨⟨by decide +kernel, by decide +kernel⟩, List.mem_of_getElem? (i := 185) (by decide +kernel), List.mem_of_getElem? (i := 837) (by decide +kernel), List.mem_of_getElem? (i := 838) (by decide +kernel)⟩
theorem lw_p23 : lw_okq (⟨"HalfDone$Dealer", "dealTo", "(LHalfDone$Estate;I)V"⟩, 6) := ⟨⟨by decide +kernel, by decide +kernel⟩, List.mem_of_getElem? (i := 185) (by decide +kernel), List.mem_of_getElem? (i := 845) (by decide +kernel), List.mem_of_getElem? (i := 846) (by decide +kernel)⟩
theorem lw_p24 : lw_okq (⟨"HalfDone$Dealer", "spanSets", "(LHalfDone$Estate;II)V"⟩, 6) := ⟨⟨by decide +kernel, by decide +kernel⟩, List.mem_of_getElem? (i := 185) (by decide +kernel), List.mem_of_getElem? (i := 849) (by decide +kernel), List.mem_of_getElem? (i := 850) (by decide +kernel)⟩
theorem lw_p25 : lw_okq (⟨"HalfDone$Dealer", "shareOf", "(II)I"⟩, 6) := ⟨⟨by decide +kernel, by decide +kernel⟩, List.mem_of_getElem? (i := 185) (by decide +kernel), List.mem_of_getElem? (i := 855) (by decide +kernel), List.mem_of_getElem? (i := 856) (by decide +kernel)⟩
theorem lw_p26 : lw_okq (⟨"HalfDone$Dealer", "mostWithin", "(I)I"⟩, 6) := ⟨⟨by decide +kernel, by decide +kernel⟩, List.mem_of_getElem? (i := 185) (by decide +kernel), List.mem_of_getElem? (i := 880) (by decide +kernel), List.mem_of_getElem? (i := 881) (by decide +kernel)⟩
theorem lw_p27 : lw_okq (⟨"HalfDone$Dealer", "valuesLearnt", "(LHalfDone$Estate;II)I"⟩, 6) := ⟨⟨by decide +kernel, by decide +kernel⟩, List.mem_of_getElem? (i := 185) (by decide +kernel), List.mem_of_getElem? (i := 893) (by decide +kernel), List.mem_of_getElem? (i := 894) (by decide +kernel)⟩
theorem lw_p28 : lw_okq (⟨"HalfDone$Dying", "openRanges", "(LHalfDone$Estate;I)V"⟩, 9) := ⟨⟨by decide +kernel, by decide +kernel⟩, List.mem_of_getElem? (i := 213) (by decide +kernel), List.mem_of_getElem? (i := 907) (by decide +kernel), List.mem_of_getElem? (i := 908) (by decide +kernel)⟩
theorem lw_p29 : lw_okq (⟨"HalfDone$Dying", "mostBegun", "(LHalfDone$Estate;I)I"⟩, 9) := ⟨⟨by decide +kernel, by decide +kernel⟩, List.mem_of_getElem? (i := 213) (by decide +kernel), List.mem_of_getElem? (i := 911) (by decide +kernel), List.mem_of_getElem? (i := 912) (by decide +kernel)⟩
theorem lw_p30 : lw_okq (⟨"HalfDone$Dying", "dealNothing", "(I)V"⟩, 9) := ⟨⟨by decide +kernel, by decide +kernel⟩, List.mem_of_getElem? (i := 213) (by decide +kernel), List.mem_of_getElem? (i := 916) (by decide +kernel), List.mem_of_getElem? (i := 917) (by decide +kernel)⟩
theorem lw_p31 : lw_okq (⟨"HalfDone$Dying", "undealt", "(IIII)I"⟩, 9) := ⟨⟨by decide +kernel, by decide +kernel⟩, List.mem_of_getElem? (i := 213) (by decide +kernel), List.mem_of_getElem? (i := 920) (by decide +kernel), List.mem_of_getElem? (i := 921) (by decide +kernel)⟩
def lw_privs_2 : List (MethodName × Nat) := [(⟨"HalfDone$Estate", "bestSkill", "(II)I"⟩, 12), (⟨"HalfDone$Estate", "workOf", "(I)I"⟩, 12), (⟨"HalfDone$Estate", "workAt", "(II)V"⟩, 12), (⟨"HalfDone$Estate", "closeDay", "(I)V"⟩, 12), (⟨"HalfDone$Dealer", "putInOrder", "(LHalfDone$Estate;I)V"⟩, 6), (⟨"HalfDone$Dealer", "dealToAllBut", "(LHalfDone$Estate;I)V"⟩, 6), (⟨"HalfDone$Dealer", "dealNothing", "()V"⟩, 6), (⟨"HalfDone$Dealer", "dealTo", "(LHalfDone$Estate;I)V"⟩, 6), (⟨"HalfDone$Dealer", "spanSets", "(LHalfDone$Estate;II)V"⟩, 6), (⟨"HalfDone$Dealer", "shareOf", "(II)I"⟩, 6), (⟨"HalfDone$Dealer", "mostWithin", "(I)I"⟩, 6), (⟨"HalfDone$Dealer", "valuesLearnt", "(LHalfDone$Estate;II)I"⟩, 6), (⟨"HalfDone$Dying", "openRanges", "(LHalfDone$Estate;I)V"⟩, 9), (⟨"HalfDone$Dying", "mostBegun", "(LHalfDone$Estate;I)I"⟩, 9), (⟨"HalfDone$Dying", "dealNothing", "(I)V"⟩, 9), (⟨"HalfDone$Dying", "undealt", "(IIII)I"⟩, 9)]
theorem lw_r2 : ∀ q ∈ lw_privs_2, lw_okq q := List.forall_mem_cons.mpr ⟨lw_p16, List.forall_mem_cons.mpr ⟨lw_p17, List.forall_mem_cons.mpr ⟨lw_p18, List.forall_mem_cons.mpr ⟨lw_p19, List.forall_mem_cons.mpr ⟨lw_p20, List.forall_mem_cons.mpr ⟨lw_p21, List.forall_mem_cons.mpr ⟨lw_p22, List.forall_mem_cons.mpr ⟨lw_p23, List.forall_mem_cons.mpr ⟨lw_p24, List.forall_mem_cons.mpr ⟨lw_p25, List.forall_mem_cons.mpr ⟨lw_p26, List.forall_mem_cons.mpr ⟨lw_p27, List.forall_mem_cons.mpr ⟨lw_p28, List.forall_mem_cons.mpr ⟨lw_p29, List.forall_mem_cons.mpr ⟨lw_p30, List.forall_mem_cons.mpr ⟨lw_p31, fun _ h => absurd h List.not_mem_nil⟩⟩⟩⟩⟩⟩⟩⟩⟩⟩⟩⟩⟩⟩⟩⟩
theorem lw_p32 : lw_okq (⟨"HalfDone$Dying", "findDays", "(LHalfDone$Estate;I)V"⟩, 9) := ⟨⟨by decide +kernel, by decide +kernel⟩, List.mem_of_getElem? (i := 213) (by decide +kernel), List.mem_of_getElem? (i := 925) (by decide +kernel), List.mem_of_getElem? (i := 926) (by decide +kernel)⟩
theorem lw_p33 : lw_okq (⟨"HalfDone$Dying", "findPrices", "(LHalfDone$Estate;I)V"⟩, 9) := ⟨⟨by decide +kernel, by decide +kernel⟩, List.mem_of_getElem? (i := 213) (by decide +kernel), List.mem_of_getElem? (i := 930) (by decide +kernel), List.mem_of_getElem? (i := 931) (by decide +kernel)⟩
theorem lw_p34 : lw_okq (⟨"HalfDone$Dying", "quickestBy", "(III)I"⟩, 9) := ⟨⟨by decide +kernel, by decide +kernel⟩, List.mem_of_getElem? (i := 213) (by decide +kernel), List.mem_of_getElem? (i := 934) (by decide +kernel), List.mem_of_getElem? (i := 935) (by decide +kernel)⟩
theorem lw_p35 : lw_okq (⟨"HalfDone$Dying", "shareOut", "(II)V"⟩, 9) := ⟨⟨by decide +kernel, by decide +kernel⟩, List.mem_of_getElem? (i := 213) (by decide +kernel), List.mem_of_getElem? (i := 940) (by decide +kernel), List.mem_of_getElem? (i := 941) (by decide +kernel)⟩
theorem lw_p36 : lw_okq (⟨"HalfDone$Dying", "cutRange", "(LHalfDone$Estate;III)I"⟩, 9) := ⟨⟨by decide +kernel, by decide +kernel⟩, List.mem_of_getElem? (i := 213) (by decide +kernel), List.mem_of_getElem? (i := 948) (by decide +kernel), List.mem_of_getElem? (i := 949) (by decide +kernel)⟩
theorem lw_p37 : lw_okq (⟨"HalfDone$Dealer", "valuesBehind", "(LHalfDone$Estate;II)I"⟩, 6) := ⟨⟨by decide +kernel, by decide +kernel⟩, List.mem_of_getElem? (i := 185) (by decide +kernel), List.mem_of_getElem? (i := 960) (by decide +kernel), List.mem_of_getElem? (i := 961) (by decide +kernel)⟩
theorem lw_p38 : lw_okq (⟨"HalfDone", "wishOf", "(II)I"⟩, 13) := ⟨⟨by decide +kernel, by decide +kernel⟩, List.mem_of_getElem? (i := 27) (by decide +kernel), List.mem_of_getElem? (i := 970) (by decide +kernel), List.mem_of_getElem? (i := 971) (by decide +kernel)⟩
theorem lw_p39 : lw_okq (⟨"HalfDone$Laws", "push", "(I)V"⟩, 7) := ⟨⟨by decide +kernel, by decide +kernel⟩, List.mem_of_getElem? (i := 90) (by decide +kernel), List.mem_of_getElem? (i := 989) (by decide +kernel), List.mem_of_getElem? (i := 990) (by decide +kernel)⟩
theorem lw_p40 : lw_okq (⟨"HalfDone$Laws", "pop", "()I"⟩, 7) := ⟨⟨by decide +kernel, by decide +kernel⟩, List.mem_of_getElem? (i := 90) (by decide +kernel), List.mem_of_getElem? (i := 993) (by decide +kernel), List.mem_of_getElem? (i := 994) (by decide +kernel)⟩
theorem lw_p41 : lw_okq (⟨"HalfDone", "layOutGame", "()V"⟩, 13) := ⟨⟨by decide +kernel, by decide +kernel⟩, List.mem_of_getElem? (i := 27) (by decide +kernel), List.mem_of_getElem? (i := 1017) (by decide +kernel), List.mem_of_getElem? (i := 1018) (by decide +kernel)⟩
theorem lw_p42 : lw_okq (⟨"HalfDone$Game", "pickBy", "(I)I"⟩, 7) := ⟨⟨by decide +kernel, by decide +kernel⟩, List.mem_of_getElem? (i := 247) (by decide +kernel), List.mem_of_getElem? (i := 1040) (by decide +kernel), List.mem_of_getElem? (i := 1041) (by decide +kernel)⟩
theorem lw_p43 : lw_okq (⟨"HalfDone$Game", "findLeads", "()V"⟩, 7) := ⟨⟨by decide +kernel, by decide +kernel⟩, List.mem_of_getElem? (i := 247) (by decide +kernel), List.mem_of_getElem? (i := 1045) (by decide +kernel), List.mem_of_getElem? (i := 1046) (by decide +kernel)⟩
theorem lw_p44 : lw_okq (⟨"HalfDone$Game", "areContent", "()Z"⟩, 7) := ⟨⟨by decide +kernel, by decide +kernel⟩, List.mem_of_getElem? (i := 247) (by decide +kernel), List.mem_of_getElem? (i := 1050) (by decide +kernel), List.mem_of_getElem? (i := 1051) (by decide +kernel)⟩
theorem lw_p45 : lw_okq (⟨"HalfDone$Game", "isContent", "(I)Z"⟩, 7) := ⟨⟨by decide +kernel, by decide +kernel⟩, List.mem_of_getElem? (i := 247) (by decide +kernel), List.mem_of_getElem? (i := 1054) (by decide +kernel), List.mem_of_getElem? (i := 1055) (by decide +kernel)⟩
theorem lw_p46 : lw_okq (⟨"HalfDone$Game", "isChoice", "(I)Z"⟩, 7) := ⟨⟨by decide +kernel, by decide +kernel⟩, List.mem_of_getElem? (i := 247) (by decide +kernel), List.mem_of_getElem? (i := 1070) (by decide +kernel), List.mem_of_getElem? (i := 1071) (by decide +kernel)⟩
theorem lw_p47 : lw_okq (⟨"HalfDone", "fits", "(IIII)Z"⟩, 13) := ⟨⟨by decide +kernel, by decide +kernel⟩, List.mem_of_getElem? (i := 27) (by decide +kernel), List.mem_of_getElem? (i := 1087) (by decide +kernel), List.mem_of_getElem? (i := 1088) (by decide +kernel)⟩
def lw_privs_3 : List (MethodName × Nat) := [(⟨"HalfDone$Dying", "findDays", "(LHalfDone$Estate;I)V"⟩, 9), (⟨"HalfDone$Dying", "findPrices", "(LHalfDone$Estate;I)V"⟩, 9), (⟨"HalfDone$Dying", "quickestBy", "(III)I"⟩, 9), (⟨"HalfDone$Dying", "shareOut", "(II)V"⟩, 9), (⟨"HalfDone$Dying", "cutRange", "(LHalfDone$Estate;III)I"⟩, 9), (⟨"HalfDone$Dealer", "valuesBehind", "(LHalfDone$Estate;II)I"⟩, 6), (⟨"HalfDone", "wishOf", "(II)I"⟩, 13), (⟨"HalfDone$Laws", "push", "(I)V"⟩, 7), (⟨"HalfDone$Laws", "pop", "()I"⟩, 7), (⟨"HalfDone", "layOutGame", "()V"⟩, 13), (⟨"HalfDone$Game", "pickBy", "(I)I"⟩, 7), (⟨"HalfDone$Game", "findLeads", "()V"⟩, 7), (⟨"HalfDone$Game", "areContent", "()Z"⟩, 7), (⟨"HalfDone$Game", "isContent", "(I)Z"⟩, 7), (⟨"HalfDone$Game", "isChoice", "(I)Z"⟩, 7), (⟨"HalfDone", "fits", "(IIII)Z"⟩, 13)]
theorem lw_r3 : ∀ q ∈ lw_privs_3, lw_okq q := List.forall_mem_cons.mpr ⟨lw_p32, List.forall_mem_cons.mpr ⟨lw_p33, List.forall_mem_cons.mpr ⟨lw_p34, List.forall_mem_cons.mpr ⟨lw_p35, List.forall_mem_cons.mpr ⟨lw_p36, List.forall_mem_cons.mpr ⟨lw_p37, List.forall_mem_cons.mpr ⟨lw_p38, List.forall_mem_cons.mpr ⟨lw_p39, List.forall_mem_cons.mpr ⟨lw_p40, List.forall_mem_cons.mpr ⟨lw_p41, List.forall_mem_cons.mpr ⟨lw_p42, List.forall_mem_cons.mpr ⟨lw_p43, List.forall_mem_cons.mpr ⟨lw_p44, List.forall_mem_cons.mpr ⟨lw_p45, List.forall_mem_cons.mpr ⟨lw_p46, List.forall_mem_cons.mpr ⟨lw_p47, fun _ h => absurd h List.not_mem_nil⟩⟩⟩⟩⟩⟩⟩⟩⟩⟩⟩⟩⟩⟩⟩⟩
theorem lw_p48 : lw_okq (⟨"HalfDone$Laws", "signsLiked", "(III)I"⟩, 7) := ⟨⟨by decide +kernel, by decide +kernel⟩, List.mem_of_getElem? (i := 90) (by decide +kernel), List.mem_of_getElem? (i := 1095) (by decide +kernel), List.mem_of_getElem? (i := 1096) (by decide +kernel)⟩
theorem lw_p49 : lw_okq (⟨"HalfDone", "fitting", "(III)I"⟩, 13) := ⟨⟨by decide +kernel, by decide +kernel⟩, List.mem_of_getElem? (i := 27) (by decide +kernel), List.mem_of_getElem? (i := 1109) (by decide +kernel), List.mem_of_getElem? (i := 1110) (by decide +kernel)⟩
theorem lw_p50 : lw_okq (⟨"HalfDone$Endings", "isSo", "(LHalfDone$Estate;II)Z"⟩, 4) := ⟨⟨by decide +kernel, by decide +kernel⟩, List.mem_of_getElem? (i := 141) (by decide +kernel), List.mem_of_getElem? (i := 1138) (by decide +kernel), List.mem_of_getElem? (i := 1139) (by decide +kernel)⟩
theorem lw_p51 : lw_okq (⟨"java/lang/Throwable", "fillInStackTrace", "(I)Ljava/lang/Throwable;"⟩, 6) := ⟨⟨by decide +kernel, by decide +kernel⟩, List.mem_of_getElem? (i := 1199) (by decide +kernel), List.mem_of_getElem? (i := 1197) (by decide +kernel), List.mem_of_getElem? (i := 1198) (by decide +kernel)⟩
theorem lw_p52 : lw_okq (⟨"HalfDoneModel", "put", "(I)V"⟩, 60) := ⟨⟨by decide +kernel, by decide +kernel⟩, List.mem_of_getElem? (i := 1230) (by decide +kernel), List.mem_of_getElem? (i := 1431) (by decide +kernel), List.mem_of_getElem? (i := 1432) (by decide +kernel)⟩
theorem lw_p53 : lw_okq (⟨"HalfDoneModel", "readWill", "()V"⟩, 60) := ⟨⟨by decide +kernel, by decide +kernel⟩, List.mem_of_getElem? (i := 1230) (by decide +kernel), List.mem_of_getElem? (i := 1447) (by decide +kernel), List.mem_of_getElem? (i := 1448) (by decide +kernel)⟩
theorem lw_p54 : lw_okq (⟨"HalfDoneModel", "starts", "([BII)V"⟩, 60) := ⟨⟨by decide +kernel, by decide +kernel⟩, List.mem_of_getElem? (i := 1230) (by decide +kernel), List.mem_of_getElem? (i := 1451) (by decide +kernel), List.mem_of_getElem? (i := 1452) (by decide +kernel)⟩
theorem lw_p55 : lw_okq (⟨"HalfDoneModel", "readClause", "()V"⟩, 60) := ⟨⟨by decide +kernel, by decide +kernel⟩, List.mem_of_getElem? (i := 1230) (by decide +kernel), List.mem_of_getElem? (i := 1455) (by decide +kernel), List.mem_of_getElem? (i := 1456) (by decide +kernel)⟩
theorem lw_p56 : lw_okq (⟨"HalfDoneModel", "look", "()I"⟩, 60) := ⟨⟨by decide +kernel, by decide +kernel⟩, List.mem_of_getElem? (i := 1230) (by decide +kernel), List.mem_of_getElem? (i := 1459) (by decide +kernel), List.mem_of_getElem? (i := 1460) (by decide +kernel)⟩
theorem lw_p57 : lw_okq (⟨"HalfDoneModel", "fails", "()Z"⟩, 60) := ⟨⟨by decide +kernel, by decide +kernel⟩, List.mem_of_getElem? (i := 1230) (by decide +kernel), List.mem_of_getElem? (i := 1463) (by decide +kernel), List.mem_of_getElem? (i := 1464) (by decide +kernel)⟩
theorem lw_p58 : lw_okq (⟨"HalfDoneModel", "readThing", "()V"⟩, 60) := ⟨⟨by decide +kernel, by decide +kernel⟩, List.mem_of_getElem? (i := 1230) (by decide +kernel), List.mem_of_getElem? (i := 1467) (by decide +kernel), List.mem_of_getElem? (i := 1468) (by decide +kernel)⟩
theorem lw_p59 : lw_okq (⟨"HalfDoneModel", "readItems", "([IILjava/lang/String;Z)V"⟩, 60) := ⟨⟨by decide +kernel, by decide +kernel⟩, List.mem_of_getElem? (i := 1230) (by decide +kernel), List.mem_of_getElem? (i := 1472) (by decide +kernel), List.mem_of_getElem? (i := 1473) (by decide +kernel)⟩
theorem lw_p60 : lw_okq (⟨"HalfDoneModel", "readItem", "([IIII)V"⟩, 60) := ⟨⟨by decide +kernel, by decide +kernel⟩, List.mem_of_getElem? (i := 1230) (by decide +kernel), List.mem_of_getElem? (i := 1530) (by decide +kernel), List.mem_of_getElem? (i := 1531) (by decide +kernel)⟩
theorem lw_p61 : lw_okq (⟨"HalfDoneModel", "isDigit", "()Z"⟩, 60) := ⟨⟨by decide +kernel, by decide +kernel⟩, List.mem_of_getElem? (i := 1230) (by decide +kernel), List.mem_of_getElem? (i := 1534) (by decide +kernel), List.mem_of_getElem? (i := 1535) (by decide +kernel)⟩
theorem lw_p62 : lw_okq (⟨"HalfDoneModel", "here", "()I"⟩, 60) := ⟨⟨by decide +kernel, by decide +kernel⟩, List.mem_of_getElem? (i := 1230) (by decide +kernel), List.mem_of_getElem? (i := 1538) (by decide +kernel), List.mem_of_getElem? (i := 1539) (by decide +kernel)⟩
theorem lw_p63 : lw_okq (⟨"HalfDoneModel", "readSteps", "(I)V"⟩, 60) := ⟨⟨by decide +kernel, by decide +kernel⟩, List.mem_of_getElem? (i := 1230) (by decide +kernel), List.mem_of_getElem? (i := 1542) (by decide +kernel), List.mem_of_getElem? (i := 1543) (by decide +kernel)⟩
def lw_privs_4 : List (MethodName × Nat) := [(⟨"HalfDone$Laws", "signsLiked", "(III)I"⟩, 7), (⟨"HalfDone", "fitting", "(III)I"⟩, 13), (⟨"HalfDone$Endings", "isSo", "(LHalfDone$Estate;II)Z"⟩, 4), (⟨"java/lang/Throwable", "fillInStackTrace", "(I)Ljava/lang/Throwable;"⟩, 6), (⟨"HalfDoneModel", "put", "(I)V"⟩, 60), (⟨"HalfDoneModel", "readWill", "()V"⟩, 60), (⟨"HalfDoneModel", "starts", "([BII)V"⟩, 60), (⟨"HalfDoneModel", "readClause", "()V"⟩, 60), (⟨"HalfDoneModel", "look", "()I"⟩, 60), (⟨"HalfDoneModel", "fails", "()Z"⟩, 60), (⟨"HalfDoneModel", "readThing", "()V"⟩, 60), (⟨"HalfDoneModel", "readItems", "([IILjava/lang/String;Z)V"⟩, 60), (⟨"HalfDoneModel", "readItem", "([IIII)V"⟩, 60), (⟨"HalfDoneModel", "isDigit", "()Z"⟩, 60), (⟨"HalfDoneModel", "here", "()I"⟩, 60), (⟨"HalfDoneModel", "readSteps", "(I)V"⟩, 60)]
theorem lw_r4 : ∀ q ∈ lw_privs_4, lw_okq q := List.forall_mem_cons.mpr ⟨lw_p48, List.forall_mem_cons.mpr ⟨lw_p49, List.forall_mem_cons.mpr ⟨lw_p50, List.forall_mem_cons.mpr ⟨lw_p51, List.forall_mem_cons.mpr ⟨lw_p52, List.forall_mem_cons.mpr ⟨lw_p53, List.forall_mem_cons.mpr ⟨lw_p54, List.forall_mem_cons.mpr ⟨lw_p55, List.forall_mem_cons.mpr ⟨lw_p56, List.forall_mem_cons.mpr ⟨lw_p57, List.forall_mem_cons.mpr ⟨lw_p58, List.forall_mem_cons.mpr ⟨lw_p59, List.forall_mem_cons.mpr ⟨lw_p60, List.forall_mem_cons.mpr ⟨lw_p61, List.forall_mem_cons.mpr ⟨lw_p62, List.forall_mem_cons.mpr ⟨lw_p63, fun _ h => absurd h List.not_mem_nil⟩⟩⟩⟩⟩⟩⟩⟩⟩⟩⟩⟩⟩⟩⟩⟩
theorem lw_p64 : lw_okq (⟨"HalfDoneModel", "goThrough", "([BII)V"⟩, 60) := ⟨⟨by decide +kernel, by decide +kernel⟩, List.mem_of_getElem? (i := 1230) (by decide +kernel), List.mem_of_getElem? (i := 1548) (by decide +kernel), List.mem_of_getElem? (i := 1549) (by decide +kernel)⟩
theorem lw_p65 : lw_okq (⟨"HalfDoneModel", "clause", "()V"⟩, 60) := ⟨⟨by decide +kernel, by decide +kernel⟩, List.mem_of_getElem? (i := 1230) (by decide +kernel), List.mem_of_getElem? (i := 1552) (by decide +kernel), List.mem_of_getElem? (i := 1553) (by decide +kernel)⟩
theorem lw_p66 : lw_okq (⟨"HalfDoneModel", "takes", "(I)Z"⟩, 60) := ⟨⟨by decide +kernel, by decide +kernel⟩, List.mem_of_getElem? (i := 1230) (by decide +kernel), List.mem_of_getElem? (i := 1559) (by decide +kernel), List.mem_of_getElem? (i := 1560) (by decide +kernel)⟩
theorem lw_p67 : lw_okq (⟨"HalfDoneModel", "condition", "(ZI)Z"⟩, 60) := ⟨⟨by decide +kernel, by decide +kernel⟩, List.mem_of_getElem? (i := 1230) (by decide +kernel), List.mem_of_getElem? (i := 1563) (by decide +kernel), List.mem_of_getElem? (i := 1564) (by decide +kernel)⟩
theorem lw_p68 : lw_okq (⟨"HalfDoneModel", "part", "(ZI)Z"⟩, 60) := ⟨⟨by decide +kernel, by decide +kernel⟩, List.mem_of_getElem? (i := 1230) (by decide +kernel), List.mem_of_getElem? (i := 1567) (by decide +kernel), List.mem_of_getElem? (i := 1568) (by decide +kernel)⟩
theorem lw_p69 : lw_okq (⟨"HalfDoneModel", "compares", "(ZI)Z"⟩, 60) := ⟨⟨by decide +kernel, by decide +kernel⟩, List.mem_of_getElem? (i := 1230) (by decide +kernel), List.mem_of_getElem? (i := 1571) (by decide +kernel), List.mem_of_getElem? (i := 1572) (by decide +kernel)⟩
theorem lw_p70 : lw_okq (⟨"HalfDoneModel", "sum", "()I"⟩, 60) := ⟨⟨by decide +kernel, by decide +kernel⟩, List.mem_of_getElem? (i := 1230) (by decide +kernel), List.mem_of_getElem? (i := 1575) (by decide +kernel), List.mem_of_getElem? (i := 1576) (by decide +kernel)⟩
theorem lw_p71 : lw_okq (⟨"HalfDoneModel", "term", "()I"⟩, 60) := ⟨⟨by decide +kernel, by decide +kernel⟩, List.mem_of_getElem? (i := 1230) (by decide +kernel), List.mem_of_getElem? (i := 1579) (by decide +kernel), List.mem_of_getElem? (i := 1580) (by decide +kernel)⟩
theorem lw_p72 : lw_okq (⟨"HalfDoneModel", "atom", "()I"⟩, 60) := ⟨⟨by decide +kernel, by decide +kernel⟩, List.mem_of_getElem? (i := 1230) (by decide +kernel), List.mem_of_getElem? (i := 1583) (by decide +kernel), List.mem_of_getElem? (i := 1584) (by decide +kernel)⟩
theorem lw_p73 : lw_okq (⟨"HalfDoneModel", "goesIn", "()Z"⟩, 60) := ⟨⟨by decide +kernel, by decide +kernel⟩, List.mem_of_getElem? (i := 1230) (by decide +kernel), List.mem_of_getElem? (i := 1587) (by decide +kernel), List.mem_of_getElem? (i := 1588) (by decide +kernel)⟩
theorem lw_p74 : lw_okq (⟨"HalfDoneModel", "unit", "()Z"⟩, 60) := ⟨⟨by decide +kernel, by decide +kernel⟩, List.mem_of_getElem? (i := 1230) (by decide +kernel), List.mem_of_getElem? (i := 1601) (by decide +kernel), List.mem_of_getElem? (i := 1602) (by decide +kernel)⟩
theorem lw_p75 : lw_okq (⟨"HalfDoneModel", "readRow", "()V"⟩, 60) := ⟨⟨by decide +kernel, by decide +kernel⟩, List.mem_of_getElem? (i := 1230) (by decide +kernel), List.mem_of_getElem? (i := 1605) (by decide +kernel), List.mem_of_getElem? (i := 1606) (by decide +kernel)⟩
theorem lw_p76 : lw_okq (⟨"HalfDoneModel", "stepsOf", "(I)I"⟩, 60) := ⟨⟨by decide +kernel, by decide +kernel⟩, List.mem_of_getElem? (i := 1230) (by decide +kernel), List.mem_of_getElem? (i := 1614) (by decide +kernel), List.mem_of_getElem? (i := 1615) (by decide +kernel)⟩
theorem lw_p77 : lw_okq (⟨"HalfDoneModel", "isThing", "(I)Z"⟩, 60) := ⟨⟨by decide +kernel, by decide +kernel⟩, List.mem_of_getElem? (i := 1230) (by decide +kernel), List.mem_of_getElem? (i := 1622) (by decide +kernel), List.mem_of_getElem? (i := 1623) (by decide +kernel)⟩
theorem lw_p78 : lw_okq (⟨"HalfDoneModel", "doneOf", "(I)I"⟩, 60) := ⟨⟨by decide +kernel, by decide +kernel⟩, List.mem_of_getElem? (i := 1230) (by decide +kernel), List.mem_of_getElem? (i := 1627) (by decide +kernel), List.mem_of_getElem? (i := 1628) (by decide +kernel)⟩
theorem lw_p79 : lw_okq (⟨"HalfDoneModel", "isHeir", "(I)Z"⟩, 60) := ⟨⟨by decide +kernel, by decide +kernel⟩, List.mem_of_getElem? (i := 1230) (by decide +kernel), List.mem_of_getElem? (i := 1639) (by decide +kernel), List.mem_of_getElem? (i := 1640) (by decide +kernel)⟩
def lw_privs_5 : List (MethodName × Nat) := [(⟨"HalfDoneModel", "goThrough", "([BII)V"⟩, 60), (⟨"HalfDoneModel", "clause", "()V"⟩, 60), (⟨"HalfDoneModel", "takes", "(I)Z"⟩, 60), (⟨"HalfDoneModel", "condition", "(ZI)Z"⟩, 60), (⟨"HalfDoneModel", "part", "(ZI)Z"⟩, 60), (⟨"HalfDoneModel", "compares", "(ZI)Z"⟩, 60), (⟨"HalfDoneModel", "sum", "()I"⟩, 60), (⟨"HalfDoneModel", "term", "()I"⟩, 60), (⟨"HalfDoneModel", "atom", "()I"⟩, 60), (⟨"HalfDoneModel", "goesIn", "()Z"⟩, 60), (⟨"HalfDoneModel", "unit", "()Z"⟩, 60), (⟨"HalfDoneModel", "readRow", "()V"⟩, 60), (⟨"HalfDoneModel", "stepsOf", "(I)I"⟩, 60), (⟨"HalfDoneModel", "isThing", "(I)Z"⟩, 60), (⟨"HalfDoneModel", "doneOf", "(I)I"⟩, 60), (⟨"HalfDoneModel", "isHeir", "(I)Z"⟩, 60)]
theorem lw_r5 : ∀ q ∈ lw_privs_5, lw_okq q := List.forall_mem_cons.mpr ⟨lw_p64, List.forall_mem_cons.mpr ⟨lw_p65, List.forall_mem_cons.mpr ⟨lw_p66, List.forall_mem_cons.mpr ⟨lw_p67, List.forall_mem_cons.mpr ⟨lw_p68, List.forall_mem_cons.mpr ⟨lw_p69, List.forall_mem_cons.mpr ⟨lw_p70, List.forall_mem_cons.mpr ⟨lw_p71, List.forall_mem_cons.mpr ⟨lw_p72, List.forall_mem_cons.mpr ⟨lw_p73, List.forall_mem_cons.mpr ⟨lw_p74, List.forall_mem_cons.mpr ⟨lw_p75, List.forall_mem_cons.mpr ⟨lw_p76, List.forall_mem_cons.mpr ⟨lw_p77, List.forall_mem_cons.mpr ⟨lw_p78, List.forall_mem_cons.mpr ⟨lw_p79, fun _ h => absurd h List.not_mem_nil⟩⟩⟩⟩⟩⟩⟩⟩⟩⟩⟩⟩⟩⟩⟩⟩
theorem lw_p80 : lw_okq (⟨"HalfDoneModel", "skill", "(II)I"⟩, 60) := ⟨⟨by decide +kernel, by decide +kernel⟩, List.mem_of_getElem? (i := 1230) (by decide +kernel), List.mem_of_getElem? (i := 1644) (by decide +kernel), List.mem_of_getElem? (i := 1645) (by decide +kernel)⟩
theorem lw_p81 : lw_okq (⟨"HalfDoneModel", "takesOf", "(III)I"⟩, 60) := ⟨⟨by decide +kernel, by decide +kernel⟩, List.mem_of_getElem? (i := 1230) (by decide +kernel), List.mem_of_getElem? (i := 1661) (by decide +kernel), List.mem_of_getElem? (i := 1662) (by decide +kernel)⟩
theorem lw_p82 : lw_okq (⟨"HalfDoneModel", "tradeOf", "(II)I"⟩, 60) := ⟨⟨by decide +kernel, by decide +kernel⟩, List.mem_of_getElem? (i := 1230) (by decide +kernel), List.mem_of_getElem? (i := 1665) (by decide +kernel), List.mem_of_getElem? (i := 1666) (by decide +kernel)⟩
theorem lw_p83 : lw_okq (⟨"HalfDoneModel", "daysOf", "(II)I"⟩, 60) := ⟨⟨by decide +kernel, by decide +kernel⟩, List.mem_of_getElem? (i := 1230) (by decide +kernel), List.mem_of_getElem? (i := 1669) (by decide +kernel), List.mem_of_getElem? (i := 1670) (by decide +kernel)⟩
theorem lw_p84 : lw_okq (⟨"HalfDoneModel", "isToDo", "(I)Z"⟩, 60) := ⟨⟨by decide +kernel, by decide +kernel⟩, List.mem_of_getElem? (i := 1230) (by decide +kernel), List.mem_of_getElem? (i := 1677) (by decide +kernel), List.mem_of_getElem? (i := 1678) (by decide +kernel)⟩
theorem lw_p85 : lw_okq (⟨"HalfDoneModel", "aloneOf", "(II)I"⟩, 60) := ⟨⟨by decide +kernel, by decide +kernel⟩, List.mem_of_getElem? (i := 1230) (by decide +kernel), List.mem_of_getElem? (i := 1681) (by decide +kernel), List.mem_of_getElem? (i := 1682) (by decide +kernel)⟩
theorem lw_p86 : lw_okq (⟨"HalfDoneModel", "aloneFrom", "(III)I"⟩, 60) := ⟨⟨by decide +kernel, by decide +kernel⟩, List.mem_of_getElem? (i := 1230) (by decide +kernel), List.mem_of_getElem? (i := 1685) (by decide +kernel), List.mem_of_getElem? (i := 1686) (by decide +kernel)⟩
theorem lw_p87 : lw_okq (⟨"HalfDoneModel", "whoOf", "(I)I"⟩, 60) := ⟨⟨by decide +kernel, by decide +kernel⟩, List.mem_of_getElem? (i := 1230) (by decide +kernel), List.mem_of_getElem? (i := 1693) (by decide +kernel), List.mem_of_getElem? (i := 1694) (by decide +kernel)⟩
theorem lw_p88 : lw_okq (⟨"HalfDoneModel", "isInTime", "(II)Z"⟩, 60) := ⟨⟨by decide +kernel, by decide +kernel⟩, List.mem_of_getElem? (i := 1230) (by decide +kernel), List.mem_of_getElem? (i := 1697) (by decide +kernel), List.mem_of_getElem? (i := 1698) (by decide +kernel)⟩
theorem lw_p89 : lw_okq (⟨"HalfDoneModel", "teamOf", "(II)I"⟩, 60) := ⟨⟨by decide +kernel, by decide +kernel⟩, List.mem_of_getElem? (i := 1230) (by decide +kernel), List.mem_of_getElem? (i := 1709) (by decide +kernel), List.mem_of_getElem? (i := 1710) (by decide +kernel)⟩
theorem lw_p90 : lw_okq (⟨"HalfDoneModel", "remember", "()V"⟩, 60) := ⟨⟨by decide +kernel, by decide +kernel⟩, List.mem_of_getElem? (i := 1230) (by decide +kernel), List.mem_of_getElem? (i := 1722) (by decide +kernel), List.mem_of_getElem? (i := 1723) (by decide +kernel)⟩
theorem lw_p91 : lw_okq (⟨"HalfDoneModel", "goDay", "()V"⟩, 60) := ⟨⟨by decide +kernel, by decide +kernel⟩, List.mem_of_getElem? (i := 1230) (by decide +kernel), List.mem_of_getElem? (i := 1735) (by decide +kernel), List.mem_of_getElem? (i := 1736) (by decide +kernel)⟩
theorem lw_p92 : lw_okq (⟨"HalfDoneModel", "works", "(I)V"⟩, 60) := ⟨⟨by decide +kernel, by decide +kernel⟩, List.mem_of_getElem? (i := 1230) (by decide +kernel), List.mem_of_getElem? (i := 1739) (by decide +kernel), List.mem_of_getElem? (i := 1740) (by decide +kernel)⟩
theorem lw_p93 : lw_okq (⟨"HalfDoneModel", "draw", "(I)I"⟩, 60) := ⟨⟨by decide +kernel, by decide +kernel⟩, List.mem_of_getElem? (i := 1230) (by decide +kernel), List.mem_of_getElem? (i := 1747) (by decide +kernel), List.mem_of_getElem? (i := 1748) (by decide +kernel)⟩
theorem lw_p94 : lw_okq (⟨"HalfDoneModel", "askAsItIs", "()V"⟩, 60) := ⟨⟨by decide +kernel, by decide +kernel⟩, List.mem_of_getElem? (i := 1230) (by decide +kernel), List.mem_of_getElem? (i := 1762) (by decide +kernel), List.mem_of_getElem? (i := 1763) (by decide +kernel)⟩
theorem lw_p95 : lw_okq (⟨"HalfDoneModel", "layDeal", "()V"⟩, 60) := ⟨⟨by decide +kernel, by decide +kernel⟩, List.mem_of_getElem? (i := 1230) (by decide +kernel), List.mem_of_getElem? (i := 1766) (by decide +kernel), List.mem_of_getElem? (i := 1767) (by decide +kernel)⟩
def lw_privs_6 : List (MethodName × Nat) := [(⟨"HalfDoneModel", "skill", "(II)I"⟩, 60), (⟨"HalfDoneModel", "takesOf", "(III)I"⟩, 60), (⟨"HalfDoneModel", "tradeOf", "(II)I"⟩, 60), (⟨"HalfDoneModel", "daysOf", "(II)I"⟩, 60), (⟨"HalfDoneModel", "isToDo", "(I)Z"⟩, 60), (⟨"HalfDoneModel", "aloneOf", "(II)I"⟩, 60), (⟨"HalfDoneModel", "aloneFrom", "(III)I"⟩, 60), (⟨"HalfDoneModel", "whoOf", "(I)I"⟩, 60), (⟨"HalfDoneModel", "isInTime", "(II)Z"⟩, 60), (⟨"HalfDoneModel", "teamOf", "(II)I"⟩, 60), (⟨"HalfDoneModel", "remember", "()V"⟩, 60), (⟨"HalfDoneModel", "goDay", "()V"⟩, 60), (⟨"HalfDoneModel", "works", "(I)V"⟩, 60), (⟨"HalfDoneModel", "draw", "(I)I"⟩, 60), (⟨"HalfDoneModel", "askAsItIs", "()V"⟩, 60), (⟨"HalfDoneModel", "layDeal", "()V"⟩, 60)]
theorem lw_r6 : ∀ q ∈ lw_privs_6, lw_okq q := List.forall_mem_cons.mpr ⟨lw_p80, List.forall_mem_cons.mpr ⟨lw_p81, List.forall_mem_cons.mpr ⟨lw_p82, List.forall_mem_cons.mpr ⟨lw_p83, List.forall_mem_cons.mpr ⟨lw_p84, List.forall_mem_cons.mpr ⟨lw_p85, List.forall_mem_cons.mpr ⟨lw_p86, List.forall_mem_cons.mpr ⟨lw_p87, List.forall_mem_cons.mpr ⟨lw_p88, List.forall_mem_cons.mpr ⟨lw_p89, List.forall_mem_cons.mpr ⟨lw_p90, List.forall_mem_cons.mpr ⟨lw_p91, List.forall_mem_cons.mpr ⟨lw_p92, List.forall_mem_cons.mpr ⟨lw_p93, List.forall_mem_cons.mpr ⟨lw_p94, List.forall_mem_cons.mpr ⟨lw_p95, fun _ h => absurd h List.not_mem_nil⟩⟩⟩⟩⟩⟩⟩⟩⟩⟩⟩⟩⟩⟩⟩⟩
theorem lw_p96 : lw_okq (⟨"HalfDoneModel", "isDealt", "(I)Z"⟩, 60) := ⟨⟨by decide +kernel, by decide +kernel⟩, List.mem_of_getElem? (i := 1230) (by decide +kernel), List.mem_of_getElem? (i := 1770) (by decide +kernel), List.mem_of_getElem? (i := 1771) (by decide +kernel)⟩
theorem lw_p97 : lw_okq (⟨"HalfDoneModel", "canDo", "(III)Z"⟩, 60) := ⟨⟨by decide +kernel, by decide +kernel⟩, List.mem_of_getElem? (i := 1230) (by decide +kernel), List.mem_of_getElem? (i := 1774) (by decide +kernel), List.mem_of_getElem? (i := 1775) (by decide +kernel)⟩
theorem lw_p98 : lw_okq (⟨"HalfDoneModel", "goDeal", "(II)V"⟩, 60) := ⟨⟨by decide +kernel, by decide +kernel⟩, List.mem_of_getElem? (i := 1230) (by decide +kernel), List.mem_of_getElem? (i := 1778) (by decide +kernel), List.mem_of_getElem? (i := 1779) (by decide +kernel)⟩
theorem lw_p99 : lw_okq (⟨"HalfDoneModel", "toDo", "()I"⟩, 60) := ⟨⟨by decide +kernel, by decide +kernel⟩, List.mem_of_getElem? (i := 1230) (by decide +kernel), List.mem_of_getElem? (i := 1786) (by decide +kernel), List.mem_of_getElem? (i := 1787) (by decide +kernel)⟩
theorem lw_p100 : lw_okq (⟨"HalfDoneModel", "bestOf", "(III)I"⟩, 60) := ⟨⟨by decide +kernel, by decide +kernel⟩, List.mem_of_getElem? (i := 1230) (by decide +kernel), List.mem_of_getElem? (i := 1790) (by decide +kernel), List.mem_of_getElem? (i := 1791) (by decide +kernel)⟩
theorem lw_p101 : lw_okq (⟨"HalfDoneModel", "goBegin", "(II)V"⟩, 60) := ⟨⟨by decide +kernel, by decide +kernel⟩, List.mem_of_getElem? (i := 1230) (by decide +kernel), List.mem_of_getElem? (i := 1804) (by decide +kernel), List.mem_of_getElem? (i := 1805) (by decide +kernel)⟩
theorem lw_p102 : lw_okq (⟨"HalfDoneModel", "spited", "(II)I"⟩, 60) := ⟨⟨by decide +kernel, by decide +kernel⟩, List.mem_of_getElem? (i := 1230) (by decide +kernel), List.mem_of_getElem? (i := 1812) (by decide +kernel), List.mem_of_getElem? (i := 1813) (by decide +kernel)⟩
theorem lw_p103 : lw_okq (⟨"HalfDoneModel", "wishOf", "(II)I"⟩, 60) := ⟨⟨by decide +kernel, by decide +kernel⟩, List.mem_of_getElem? (i := 1230) (by decide +kernel), List.mem_of_getElem? (i := 1820) (by decide +kernel), List.mem_of_getElem? (i := 1821) (by decide +kernel)⟩
theorem lw_p104 : lw_okq (⟨"HalfDoneModel", "worthBy", "(I)I"⟩, 60) := ⟨⟨by decide +kernel, by decide +kernel⟩, List.mem_of_getElem? (i := 1230) (by decide +kernel), List.mem_of_getElem? (i := 1824) (by decide +kernel), List.mem_of_getElem? (i := 1825) (by decide +kernel)⟩
theorem lw_p105 : lw_okq (⟨"HalfDoneModel", "layRow", "(I)Z"⟩, 60) := ⟨⟨by decide +kernel, by decide +kernel⟩, List.mem_of_getElem? (i := 1230) (by decide +kernel), List.mem_of_getElem? (i := 1833) (by decide +kernel), List.mem_of_getElem? (i := 1834) (by decide +kernel)⟩
theorem lw_p106 : lw_okq (⟨"HalfDoneModel", "gainOf", "(I)I"⟩, 60) := ⟨⟨by decide +kernel, by decide +kernel⟩, List.mem_of_getElem? (i := 1230) (by decide +kernel), List.mem_of_getElem? (i := 1837) (by decide +kernel), List.mem_of_getElem? (i := 1838) (by decide +kernel)⟩
theorem lw_p107 : lw_okq (⟨"HalfDoneModel", "goRests", "(II)V"⟩, 60) := ⟨⟨by decide +kernel, by decide +kernel⟩, List.mem_of_getElem? (i := 1230) (by decide +kernel), List.mem_of_getElem? (i := 1845) (by decide +kernel), List.mem_of_getElem? (i := 1846) (by decide +kernel)⟩
theorem lw_p108 : lw_okq (⟨"HalfDoneModel", "isRest", "()Z"⟩, 60) := ⟨⟨by decide +kernel, by decide +kernel⟩, List.mem_of_getElem? (i := 1230) (by decide +kernel), List.mem_of_getElem? (i := 1849) (by decide +kernel), List.mem_of_getElem? (i := 1850) (by decide +kernel)⟩
theorem lw_p109 : lw_okq (⟨"HalfDoneModel", "isRow", "(I)Z"⟩, 60) := ⟨⟨by decide +kernel, by decide +kernel⟩, List.mem_of_getElem? (i := 1230) (by decide +kernel), List.mem_of_getElem? (i := 1857) (by decide +kernel), List.mem_of_getElem? (i := 1858) (by decide +kernel)⟩
theorem lw_p110 : lw_okq (⟨"HalfDoneModel", "isLaw", "(I)Z"⟩, 60) := ⟨⟨by decide +kernel, by decide +kernel⟩, List.mem_of_getElem? (i := 1230) (by decide +kernel), List.mem_of_getElem? (i := 1861) (by decide +kernel), List.mem_of_getElem? (i := 1862) (by decide +kernel)⟩
theorem lw_p111 : lw_okq (⟨"HalfDoneModel", "isFit", "(IIII)Z"⟩, 60) := ⟨⟨by decide +kernel, by decide +kernel⟩, List.mem_of_getElem? (i := 1230) (by decide +kernel), List.mem_of_getElem? (i := 1868) (by decide +kernel), List.mem_of_getElem? (i := 1869) (by decide +kernel)⟩
def lw_privs_7 : List (MethodName × Nat) := [(⟨"HalfDoneModel", "isDealt", "(I)Z"⟩, 60), (⟨"HalfDoneModel", "canDo", "(III)Z"⟩, 60), (⟨"HalfDoneModel", "goDeal", "(II)V"⟩, 60), (⟨"HalfDoneModel", "toDo", "()I"⟩, 60), (⟨"HalfDoneModel", "bestOf", "(III)I"⟩, 60), (⟨"HalfDoneModel", "goBegin", "(II)V"⟩, 60), (⟨"HalfDoneModel", "spited", "(II)I"⟩, 60), (⟨"HalfDoneModel", "wishOf", "(II)I"⟩, 60), (⟨"HalfDoneModel", "worthBy", "(I)I"⟩, 60), (⟨"HalfDoneModel", "layRow", "(I)Z"⟩, 60), (⟨"HalfDoneModel", "gainOf", "(I)I"⟩, 60), (⟨"HalfDoneModel", "goRests", "(II)V"⟩, 60), (⟨"HalfDoneModel", "isRest", "()Z"⟩, 60), (⟨"HalfDoneModel", "isRow", "(I)Z"⟩, 60), (⟨"HalfDoneModel", "isLaw", "(I)Z"⟩, 60), (⟨"HalfDoneModel", "isFit", "(IIII)Z"⟩, 60)]
theorem lw_r7 : ∀ q ∈ lw_privs_7, lw_okq q := List.forall_mem_cons.mpr ⟨lw_p96, List.forall_mem_cons.mpr ⟨lw_p97, List.forall_mem_cons.mpr ⟨lw_p98, List.forall_mem_cons.mpr ⟨lw_p99, List.forall_mem_cons.mpr ⟨lw_p100, List.forall_mem_cons.mpr ⟨lw_p101, List.forall_mem_cons.mpr ⟨lw_p102, List.forall_mem_cons.mpr ⟨lw_p103, List.forall_mem_cons.mpr ⟨lw_p104, List.forall_mem_cons.mpr ⟨lw_p105, List.forall_mem_cons.mpr ⟨lw_p106, List.forall_mem_cons.mpr ⟨lw_p107, List.forall_mem_cons.mpr ⟨lw_p108, List.forall_mem_cons.mpr ⟨lw_p109, List.forall_mem_cons.mpr ⟨lw_p110, List.forall_mem_cons.mpr ⟨lw_p111, fun _ h => absurd h List.not_mem_nil⟩⟩⟩⟩⟩⟩⟩⟩⟩⟩⟩⟩⟩⟩⟩⟩
theorem lw_p112 : lw_okq (⟨"HalfDoneModel", "judgedOf", "(III)I"⟩, 60) := ⟨⟨by decide +kernel, by decide +kernel⟩, List.mem_of_getElem? (i := 1230) (by decide +kernel), List.mem_of_getElem? (i := 1880) (by decide +kernel), List.mem_of_getElem? (i := 1881) (by decide +kernel)⟩
theorem lw_p113 : lw_okq (⟨"HalfDoneModel", "thatAre", "(IZ)I"⟩, 60) := ⟨⟨by decide +kernel, by decide +kernel⟩, List.mem_of_getElem? (i := 1230) (by decide +kernel), List.mem_of_getElem? (i := 1917) (by decide +kernel), List.mem_of_getElem? (i := 1918) (by decide +kernel)⟩
def lw_privs_8 : List (MethodName × Nat) := [(⟨"HalfDoneModel", "judgedOf", "(III)I"⟩, 60), (⟨"HalfDoneModel", "thatAre", "(IZ)I"⟩, 60)]
theorem lw_r8 : ∀ q ∈ lw_privs_8, lw_okq q := List.forall_mem_cons.mpr ⟨lw_p112, List.forall_mem_cons.mpr ⟨lw_p113, fun _ h => absurd h List.not_mem_nil⟩⟩
def lw_privs : List (MethodName × Nat) := lw_privs_1 ++ (lw_privs_2 ++ (lw_privs_3 ++ (lw_privs_4 ++ (lw_privs_5 ++ (lw_privs_6 ++ (lw_privs_7 ++ (lw_privs_8)))))))
def lw_tbl : List Cond := k2_sels lw_privs ++ tables_1
theorem lw_privs_ok : ∀ q ∈ lw_privs, lw_okq q := by
  show ∀ q ∈ lw_privs_1 ++ (lw_privs_2 ++ (lw_privs_3 ++ (lw_privs_4 ++ (lw_privs_5 ++ (lw_privs_6 ++ (lw_privs_7 ++ (lw_privs_8))))))), lw_okq q
  exact List.forall_mem_append.mpr ⟨lw_r1, List.forall_mem_append.mpr ⟨lw_r2, List.forall_mem_append.mpr ⟨lw_r3, List.forall_mem_append.mpr ⟨lw_r4, List.forall_mem_append.mpr ⟨lw_r5, List.forall_mem_append.mpr ⟨lw_r6, List.forall_mem_append.mpr ⟨lw_r7, lw_r8⟩⟩⟩⟩⟩⟩⟩
-- ===== end of PART A; then your names; then what follows =====
/-! THE CLAIM OUT OF ONE WALK OF THE LAW'S BODY. Your part is whole_start (and what it stands on); all else here is the same for every law, but numbers. -/
def R_law : String := "HalfDoneLaw"
def lw_P (b : Addr) (xs : List Int32) (args : Array Value) (s : State) : Prop := args = #[.ref b] ∧ s.IntsAt b xs ∧ xs.length ≤ 3072 ∧ (Jvm.Cond.and given_1 narrow_1).before args s = true
def lw_Q (_ : Array Value) (s : State) (o : Outcome) (t : State) : Prop := o = .returned (some (.int 1)) ∧ Framed s o t [] 601024 7293034
def lw_Z (below : List Frame) (a : Array Value) (s : State) : State → Prop := fun t => ∃ o, t.status = .running ∧ Ended t below o ∧ lw_Q a s o t
/-- the law's own end, with 1 on the stack, nothing written that was there before, its room as the claim has it -/
theorem lw_ret {p : Program} {l : Launch} {e : Env} {s : State} {m : MethodId} {below : List Frame} {meth : Method} {c : Code} {b : Nat} (hx : p.tables.exec = Jvm.exec) (hb : c.code = code) (hr : meth.sig.returnType = ret) (hlocks : meth.locks = false) {pc : Nat} {H : Heap} {ls : Array Slot} (hdg : decode code pc = .ok (.ireturn, 1)) : W p l e room_1 s m #[Value.ref b] below meth c H [] 601024 7293034 (lw_Z below #[Value.ref b] s) (F0 m pc ls [.int 1]) := by
  intro T hT X
  obtain ⟨fs, hret, hrun, hended, hW, hframe⟩ := X.leave (v := some (.int 1)) (hlocks := hlocks) (fun h => by rw [hr] at h; cases h)
  have hmeth' : T.vm.method? m = some meth := X.method'
  refine ⟨T.setFrames fs, ?_, .returned (some (.int 1)), hrun, hended, rfl, ⟨_, rfl⟩, hW, hframe⟩
  jvm_step X.here [X.here.top, hx, hb, hdg, hmeth', hr, ret, narrow_b1]
  (try refine ⟨rfl, ?_⟩); (try refine ⟨rfl, ?_⟩)
  first | (intro acts; rw [hret _ acts rfl rfl rfl]) | rw [hret _ _ rfl rfl rfl]
  exact Steps.refl _
/-- what holds at the law's entry: the machine, the code, the tables' words (any of lw_tbl by 'hts w (by decide +kernel)'), the script of L ints xs at the cell b, what the Statement gives of the start (any of its parts by flat_of_before) -/
def lw_At (p : Program) (s : State) (m : MethodId) (meth : Method) (c : Code) (b L : Nat) (xs : Nat → Int32) : Prop :=
  p.tables.exec = Jvm.exec ∧ c.code = code ∧ meth.sig.returnType = ret ∧ c.maxLocals = 7 ∧ s.vm.findClass R_law = some m.cls ∧ (∀ w ∈ lw_tbl, w.before #[Value.ref b] s = true) ∧ va_X b L xs s s.heap ∧ b < s.heap.size ∧ meth.locks = false ∧ (Jvm.Cond.and given_1 narrow_1).before #[Value.ref b] s = true
end
section
/-! names: classes, fields, methods (out of the claim's printed names) -/
def RX0 : String := "HalfDone$Beginnings"
def TX0 : u_T := fun k => match k with
  | 0 => ("HalfDone$Beginnings", "rows", "[[I", true)
  | 1 => ("HalfDone$Beginnings", "lengths", "[I", true)
  | _ => ("HalfDone$Beginnings", "count", "I", false)
def tyX0 : Nat → FieldType := fun k => match k with
  | 0 => .array (.array .int)
  | 1 => .array .int
  | _ => .int
abbrev wsX00 : List Cond := u_ws RX0 TX0 3
theorem nmX0 : ∀ a, a < 3 → ∀ b, b < 3 → a ≠ b → (TX0 a).2.1 ≠ (TX0 b).2.1 := by decide +kernel
theorem tyX0_ok : ∀ k, k < 3 → parseFieldDescriptor (TX0 k).2.2.1 = some (tyX0 k) := by decide +kernel
abbrev cX0_init : ByteArray := prog_2_method_1_code
def yX0_init : MethodName := ⟨RX0, "<init>", "()V"⟩
abbrev cX0_has : ByteArray := prog_2_method_2_code
def yX0_has : MethodName := ⟨RX0, "has", "(I)Z"⟩
abbrev cX0_read : ByteArray := prog_2_method_3_code
def yX0_read : MethodName := ⟨RX0, "read", "(LHalfDone$Tape;)I"⟩
abbrev cX0_add : ByteArray := prog_2_method_4_code
def yX0_add : MethodName := ⟨RX0, "add", "()I"⟩
def RX1 : String := "HalfDone$Dealer"
def TX1 : u_T := fun k => match k with
  | 0 => ("HalfDone$Dealer", "order", "[I", true)
  | 1 => ("HalfDone$Dealer", "values", "[I", true)
  | 2 => ("HalfDone$Dealer", "tens", "[I", true)
  | 3 => ("HalfDone$Dealer", "span", "[I", true)
  | 4 => ("HalfDone$Dealer", "score", "[I", true)
  | _ => ("HalfDone$Dealer", "places", "I", false)
def tyX1 : Nat → FieldType := fun k => match k with
  | 0 => .array .int
  | 1 => .array .int
  | 2 => .array .int
  | 3 => .array .int
  | 4 => .array .int
  | _ => .int
abbrev wsX10 : List Cond := u_ws RX1 TX1 6
theorem nmX1 : ∀ a, a < 6 → ∀ b, b < 6 → a ≠ b → (TX1 a).2.1 ≠ (TX1 b).2.1 := by decide +kernel
theorem tyX1_ok : ∀ k, k < 6 → parseFieldDescriptor (TX1 k).2.2.1 = some (tyX1 k) := by decide +kernel
abbrev cX1_init : ByteArray := prog_3_method_1_code
def yX1_init : MethodName := ⟨RX1, "<init>", "()V"⟩
abbrev cX1_full : ByteArray := prog_3_method_2_code
def yX1_full : MethodName := ⟨RX1, "full", "()I"⟩
abbrev cX1_lineUp : ByteArray := prog_3_method_3_code
def yX1_lineUp : MethodName := ⟨RX1, "lineUp", "(LHalfDone$Estate;)V"⟩
abbrev cX1_putInOrder : ByteArray := prog_3_method_4_code
def yX1_putInOrder : MethodName := ⟨RX1, "putInOrder", "(LHalfDone$Estate;I)V"⟩
abbrev cX1_placeOf : ByteArray := prog_3_method_5_code
def yX1_placeOf : MethodName := ⟨RX1, "placeOf", "(I)I"⟩
abbrev cX1_spanSets : ByteArray := prog_3_method_6_code
def yX1_spanSets : MethodName := ⟨RX1, "spanSets", "(LHalfDone$Estate;II)V"⟩
abbrev cX1_dealNothing : ByteArray := prog_3_method_7_code
def yX1_dealNothing : MethodName := ⟨RX1, "dealNothing", "()V"⟩
abbrev cX1_shareOf : ByteArray := prog_3_method_8_code
def yX1_shareOf : MethodName := ⟨RX1, "shareOf", "(II)I"⟩
abbrev cX1_dealTo : ByteArray := prog_3_method_9_code
def yX1_dealTo : MethodName := ⟨RX1, "dealTo", "(LHalfDone$Estate;I)V"⟩
abbrev cX1_dealToAllBut : ByteArray := prog_3_method_10_code
def yX1_dealToAllBut : MethodName := ⟨RX1, "dealToAllBut", "(LHalfDone$Estate;I)V"⟩
abbrev cX1_dealAll : ByteArray := prog_3_method_11_code
def yX1_dealAll : MethodName := ⟨RX1, "dealAll", "(LHalfDone$Estate;)I"⟩
abbrev cX1_valuesOf : ByteArray := prog_3_method_12_code
def yX1_valuesOf : MethodName := ⟨RX1, "valuesOf", "(I)I"⟩
abbrev cX1_digitsOf : ByteArray := prog_3_method_13_code
def yX1_digitsOf : MethodName := ⟨RX1, "digitsOf", "(LHalfDone$Estate;I)I"⟩
abbrev cX1_learnBest : ByteArray := prog_3_method_14_code
def yX1_learnBest : MethodName := ⟨RX1, "learnBest", "(LHalfDone$Estate;I)I"⟩
abbrev cX1_valuesLearnt : ByteArray := prog_3_method_15_code
def yX1_valuesLearnt : MethodName := ⟨RX1, "valuesLearnt", "(LHalfDone$Estate;II)I"⟩
abbrev cX1_mostWithin : ByteArray := prog_3_method_16_code
def yX1_mostWithin : MethodName := ⟨RX1, "mostWithin", "(I)I"⟩
abbrev cX1_mostAlone : ByteArray := prog_3_method_17_code
def yX1_mostAlone : MethodName := ⟨RX1, "mostAlone", "(LHalfDone$Estate;II)I"⟩
abbrev cX1_spiteOn : ByteArray := prog_3_method_18_code
def yX1_spiteOn : MethodName := ⟨RX1, "spiteOn", "(LHalfDone$Estate;II)I"⟩
abbrev cX1_valuesBehind : ByteArray := prog_3_method_19_code
def yX1_valuesBehind : MethodName := ⟨RX1, "valuesBehind", "(LHalfDone$Estate;II)I"⟩
def RX2 : String := "HalfDone$Dying"
def TX2 : u_T := fun k => match k with
  | 0 => ("HalfDone$Dying", "dealer", "LHalfDone$Dealer;", true)
  | 1 => ("HalfDone$Dying", "least", "[I", true)
  | 2 => ("HalfDone$Dying", "most", "[I", true)
  | 3 => ("HalfDone$Dying", "left", "[I", true)
  | 4 => ("HalfDone$Dying", "cost", "[I", true)
  | 5 => ("HalfDone$Dying", "days", "[I", true)
  | 6 => ("HalfDone$Dying", "quickest", "[I", true)
  | 7 => ("HalfDone$Dying", "price", "[I", true)
  | _ => ("HalfDone$Dying", "gain", "[I", true)
def tyX2 : Nat → FieldType := fun k => match k with
  | 0 => .object "HalfDone$Dealer"
  | 1 => .array .int
  | 2 => .array .int
  | 3 => .array .int
  | 4 => .array .int
  | 5 => .array .int
  | 6 => .array .int
  | 7 => .array .int
  | _ => .array .int
abbrev wsX20 : List Cond := u_ws RX2 TX2 9
theorem nmX2 : ∀ a, a < 9 → ∀ b, b < 9 → a ≠ b → (TX2 a).2.1 ≠ (TX2 b).2.1 := by decide +kernel
theorem tyX2_ok : ∀ k, k < 9 → parseFieldDescriptor (TX2 k).2.2.1 = some (tyX2 k) := by decide +kernel
abbrev cX2_init : ByteArray := prog_4_method_1_code
def yX2_init : MethodName := ⟨RX2, "<init>", "(LHalfDone$Dealer;)V"⟩
abbrev cX2_beginBest : ByteArray := prog_4_method_2_code
def yX2_beginBest : MethodName := ⟨RX2, "beginBest", "(LHalfDone$Estate;II)I"⟩
abbrev cX2_openRanges : ByteArray := prog_4_method_3_code
def yX2_openRanges : MethodName := ⟨RX2, "openRanges", "(LHalfDone$Estate;I)V"⟩
abbrev cX2_cutRange : ByteArray := prog_4_method_4_code
def yX2_cutRange : MethodName := ⟨RX2, "cutRange", "(LHalfDone$Estate;III)I"⟩
abbrev cX2_mostBegun : ByteArray := prog_4_method_5_code
def yX2_mostBegun : MethodName := ⟨RX2, "mostBegun", "(LHalfDone$Estate;I)I"⟩
abbrev cX2_dealNothing : ByteArray := prog_4_method_6_code
def yX2_dealNothing : MethodName := ⟨RX2, "dealNothing", "(I)V"⟩
abbrev cX2_undealt : ByteArray := prog_4_method_7_code
def yX2_undealt : MethodName := ⟨RX2, "undealt", "(IIII)I"⟩
abbrev cX2_findDays : ByteArray := prog_4_method_8_code
def yX2_findDays : MethodName := ⟨RX2, "findDays", "(LHalfDone$Estate;I)V"⟩
abbrev cX2_findPrices : ByteArray := prog_4_method_9_code
def yX2_findPrices : MethodName := ⟨RX2, "findPrices", "(LHalfDone$Estate;I)V"⟩
abbrev cX2_quickestBy : ByteArray := prog_4_method_10_code
def yX2_quickestBy : MethodName := ⟨RX2, "quickestBy", "(III)I"⟩
abbrev cX2_shareOut : ByteArray := prog_4_method_11_code
def yX2_shareOut : MethodName := ⟨RX2, "shareOut", "(II)V"⟩
def RX3 : String := "HalfDone$Endings"
def TX3 : u_T := fun k => match k with
  | 0 => ("HalfDone$Endings", "things", "[I", true)
  | 1 => ("HalfDone$Endings", "heirs", "[I", true)
  | 2 => ("HalfDone$Endings", "spans", "[I", true)
  | _ => ("HalfDone$Endings", "count", "I", false)
def tyX3 : Nat → FieldType := fun k => match k with
  | 0 => .array .int
  | 1 => .array .int
  | 2 => .array .int
  | _ => .int
abbrev wsX30 : List Cond := u_ws RX3 TX3 4
theorem nmX3 : ∀ a, a < 4 → ∀ b, b < 4 → a ≠ b → (TX3 a).2.1 ≠ (TX3 b).2.1 := by decide +kernel
theorem tyX3_ok : ∀ k, k < 4 → parseFieldDescriptor (TX3 k).2.2.1 = some (tyX3 k) := by decide +kernel
abbrev cX3_init : ByteArray := prog_5_method_1_code
def yX3_init : MethodName := ⟨RX3, "<init>", "()V"⟩
abbrev cX3_add : ByteArray := prog_5_method_2_code
def yX3_add : MethodName := ⟨RX3, "add", "(III)I"⟩
abbrev cX3_doneOf : ByteArray := prog_5_method_3_code
def yX3_doneOf : MethodName := ⟨RX3, "doneOf", "(LHalfDone$Estate;I)I"⟩
abbrev cX3_isSo : ByteArray := prog_5_method_4_code
def yX3_isSo : MethodName := ⟨RX3, "isSo", "(LHalfDone$Estate;II)Z"⟩
def RX4 : String := "HalfDone$Estate"
def TX4 : u_T := fun k => match k with
  | 0 => ("HalfDone$Estate", "value", "[I", true)
  | 1 => ("HalfDone$Estate", "rots", "[I", true)
  | 2 => ("HalfDone$Estate", "steps", "[I", true)
  | 3 => ("HalfDone$Estate", "trades", "[I", true)
  | 4 => ("HalfDone$Estate", "needs", "[I", true)
  | 5 => ("HalfDone$Estate", "kin", "[I", true)
  | 6 => ("HalfDone$Estate", "tools", "[I", true)
  | 7 => ("HalfDone$Estate", "busy", "[I", true)
  | 8 => ("HalfDone$Estate", "live", "[I", true)
  | 9 => ("HalfDone$Estate", "things", "I", false)
  | 10 => ("HalfDone$Estate", "heirs", "I", false)
  | _ => ("HalfDone$Estate", "toolCount", "I", false)
def tyX4 : Nat → FieldType := fun k => match k with
  | 0 => .array .int
  | 1 => .array .int
  | 2 => .array .int
  | 3 => .array .int
  | 4 => .array .int
  | 5 => .array .int
  | 6 => .array .int
  | 7 => .array .int
  | 8 => .array .int
  | 9 => .int
  | 10 => .int
  | _ => .int
abbrev wsX40 : List Cond := u_ws RX4 TX4 12
theorem nmX4 : ∀ a, a < 12 → ∀ b, b < 12 → a ≠ b → (TX4 a).2.1 ≠ (TX4 b).2.1 := by decide +kernel
theorem tyX4_ok : ∀ k, k < 12 → parseFieldDescriptor (TX4 k).2.2.1 = some (tyX4 k) := by decide +kernel
abbrev cX4_init : ByteArray := prog_6_method_1_code
def yX4_init : MethodName := ⟨RX4, "<init>", "()V"⟩
abbrev cX4_clear : ByteArray := prog_6_method_2_code
def yX4_clear : MethodName := ⟨RX4, "clear", "()V"⟩
abbrev cX4_addThing : ByteArray := prog_6_method_3_code
def yX4_addThing : MethodName := ⟨RX4, "addThing", "()I"⟩
abbrev cX4_addStep : ByteArray := prog_6_method_4_code
def yX4_addStep : MethodName := ⟨RX4, "addStep", "(III)V"⟩
abbrev cX4_settle : ByteArray := prog_6_method_5_code
def yX4_settle : MethodName := ⟨RX4, "settle", "(I)V"⟩
abbrev cX4_addHeir : ByteArray := prog_6_method_6_code
def yX4_addHeir : MethodName := ⟨RX4, "addHeir", "()I"⟩
abbrev cX4_addTool : ByteArray := prog_6_method_7_code
def yX4_addTool : MethodName := ⟨RX4, "addTool", "(I)V"⟩
abbrev cX4_isWhole : ByteArray := prog_6_method_8_code
def yX4_isWhole : MethodName := ⟨RX4, "isWhole", "()Z"⟩
abbrev cX4_isTold : ByteArray := prog_6_method_9_code
def yX4_isTold : MethodName := ⟨RX4, "isTold", "()Z"⟩
abbrev cX4_hasThing : ByteArray := prog_6_method_10_code
def yX4_hasThing : MethodName := ⟨RX4, "hasThing", "(I)Z"⟩
abbrev cX4_hasHeir : ByteArray := prog_6_method_11_code
def yX4_hasHeir : MethodName := ⟨RX4, "hasHeir", "(I)Z"⟩
abbrev cX4_hasStep : ByteArray := prog_6_method_12_code
def yX4_hasStep : MethodName := ⟨RX4, "hasStep", "(II)Z"⟩
abbrev cX4_hasSet : ByteArray := prog_6_method_13_code
def yX4_hasSet : MethodName := ⟨RX4, "hasSet", "(I)Z"⟩
abbrev cX4_isOpen : ByteArray := prog_6_method_14_code
def yX4_isOpen : MethodName := ⟨RX4, "isOpen", "(I)Z"⟩
abbrev cX4_skill : ByteArray := prog_6_method_15_code
def yX4_skill : MethodName := ⟨RX4, "skill", "(II)I"⟩
abbrev cX4_addSkill : ByteArray := prog_6_method_16_code
def yX4_addSkill : MethodName := ⟨RX4, "addSkill", "(III)V"⟩
abbrev cX4_allSkills : ByteArray := prog_6_method_17_code
def yX4_allSkills : MethodName := ⟨RX4, "allSkills", "(I)I"⟩
abbrev cX4_heldBy : ByteArray := prog_6_method_18_code
def yX4_heldBy : MethodName := ⟨RX4, "heldBy", "(I)I"⟩
abbrev cX4_countOf : ByteArray := prog_6_method_19_code
def yX4_countOf : MethodName := ⟨RX4, "countOf", "(I)I"⟩
abbrev cX4_finishedValues : ByteArray := prog_6_method_20_code
def yX4_finishedValues : MethodName := ⟨RX4, "finishedValues", "()I"⟩
abbrev cX4_daysFor : ByteArray := prog_6_method_21_code
def yX4_daysFor : MethodName := ⟨RX4, "daysFor", "(II)I"⟩
abbrev cX4_stepDays : ByteArray := prog_6_method_22_code
def yX4_stepDays : MethodName := ⟨RX4, "stepDays", "(III)I"⟩
abbrev cX4_daysFrom : ByteArray := prog_6_method_23_code
def yX4_daysFrom : MethodName := ⟨RX4, "daysFrom", "(III)I"⟩
abbrev cX4_aloneDays : ByteArray := prog_6_method_24_code
def yX4_aloneDays : MethodName := ⟨RX4, "aloneDays", "(II)I"⟩
abbrev cX4_isInTime : ByteArray := prog_6_method_25_code
def yX4_isInTime : MethodName := ⟨RX4, "isInTime", "(II)Z"⟩
abbrev cX4_daysInTime : ByteArray := prog_6_method_26_code
def yX4_daysInTime : MethodName := ⟨RX4, "daysInTime", "(II)I"⟩
abbrev cX4_aloneInTime : ByteArray := prog_6_method_27_code
def yX4_aloneInTime : MethodName := ⟨RX4, "aloneInTime", "(I)I"⟩
abbrev cX4_bestSkill : ByteArray := prog_6_method_28_code
def yX4_bestSkill : MethodName := ⟨RX4, "bestSkill", "(II)I"⟩
abbrev cX4_everyone : ByteArray := prog_6_method_29_code
def yX4_everyone : MethodName := ⟨RX4, "everyone", "()I"⟩
abbrev cX4_firstStuck : ByteArray := prog_6_method_30_code
def yX4_firstStuck : MethodName := ⟨RX4, "firstStuck", "(I)I"⟩
abbrev cX4_teamDays : ByteArray := prog_6_method_31_code
def yX4_teamDays : MethodName := ⟨RX4, "teamDays", "(II)I"⟩
abbrev cX4_fewestInTime : ByteArray := prog_6_method_32_code
def yX4_fewestInTime : MethodName := ⟨RX4, "fewestInTime", "(I)I"⟩
abbrev cX4_paidByGuilds : ByteArray := prog_6_method_33_code
def yX4_paidByGuilds : MethodName := ⟨RX4, "paidByGuilds", "()I"⟩
abbrev cX4_passDay : ByteArray := prog_6_method_34_code
def yX4_passDay : MethodName := ⟨RX4, "passDay", "()V"⟩
abbrev cX4_workOf : ByteArray := prog_6_method_35_code
def yX4_workOf : MethodName := ⟨RX4, "workOf", "(I)I"⟩
abbrev cX4_workAt : ByteArray := prog_6_method_36_code
def yX4_workAt : MethodName := ⟨RX4, "workAt", "(II)V"⟩
abbrev cX4_closeDay : ByteArray := prog_6_method_37_code
def yX4_closeDay : MethodName := ⟨RX4, "closeDay", "(I)V"⟩
abbrev cX4_raiseHeirs : ByteArray := prog_6_method_38_code
def yX4_raiseHeirs : MethodName := ⟨RX4, "raiseHeirs", "(J)I"⟩
def RX5 : String := "HalfDone$Game"
def TX5 : u_T := fun k => match k with
  | 0 => ("HalfDone$Game", "choices", "[I", true)
  | 1 => ("HalfDone$Game", "picks", "[I", true)
  | 2 => ("HalfDone$Game", "rank", "[I", true)
  | 3 => ("HalfDone$Game", "wishes", "[I", true)
  | 4 => ("HalfDone$Game", "lead", "[I", true)
  | 5 => ("HalfDone$Game", "players", "I", false)
  | _ => ("HalfDone$Game", "things", "I", false)
def tyX5 : Nat → FieldType := fun k => match k with
  | 0 => .array .int
  | 1 => .array .int
  | 2 => .array .int
  | 3 => .array .int
  | 4 => .array .int
  | 5 => .int
  | _ => .int
abbrev wsX50 : List Cond := u_ws RX5 TX5 7
theorem nmX5 : ∀ a, a < 7 → ∀ b, b < 7 → a ≠ b → (TX5 a).2.1 ≠ (TX5 b).2.1 := by decide +kernel
theorem tyX5_ok : ∀ k, k < 7 → parseFieldDescriptor (TX5 k).2.2.1 = some (tyX5 k) := by decide +kernel
abbrev cX5_init : ByteArray := prog_7_method_1_code
def yX5_init : MethodName := ⟨RX5, "<init>", "()V"⟩
abbrev cX5_open : ByteArray := prog_7_method_2_code
def yX5_open : MethodName := ⟨RX5, "open", "(I)V"⟩
abbrev cX5_addThing : ByteArray := prog_7_method_3_code
def yX5_addThing : MethodName := ⟨RX5, "addThing", "(I)V"⟩
abbrev cX5_tellOf : ByteArray := prog_7_method_4_code
def yX5_tellOf : MethodName := ⟨RX5, "tellOf", "(IIII)V"⟩
abbrev cX5_isChoice : ByteArray := prog_7_method_5_code
def yX5_isChoice : MethodName := ⟨RX5, "isChoice", "(I)Z"⟩
abbrev cX5_takeRow : ByteArray := prog_7_method_6_code
def yX5_takeRow : MethodName := ⟨RX5, "takeRow", "(I)Z"⟩
abbrev cX5_findLeads : ByteArray := prog_7_method_7_code
def yX5_findLeads : MethodName := ⟨RX5, "findLeads", "()V"⟩
abbrev cX5_gainOf : ByteArray := prog_7_method_8_code
def yX5_gainOf : MethodName := ⟨RX5, "gainOf", "(I)I"⟩
abbrev cX5_isContent : ByteArray := prog_7_method_9_code
def yX5_isContent : MethodName := ⟨RX5, "isContent", "(I)Z"⟩
abbrev cX5_areContent : ByteArray := prog_7_method_10_code
def yX5_areContent : MethodName := ⟨RX5, "areContent", "()Z"⟩
abbrev cX5_restingRow : ByteArray := prog_7_method_11_code
def yX5_restingRow : MethodName := ⟨RX5, "restingRow", "(I)I"⟩
abbrev cX5_pickBy : ByteArray := prog_7_method_12_code
def yX5_pickBy : MethodName := ⟨RX5, "pickBy", "(I)I"⟩
def RX6 : String := "HalfDone$LawReader"
def TX6 : u_T := fun k => match k with
  | 0 => ("HalfDone$LawReader", "tape", "LHalfDone$Tape;", true)
  | 1 => ("HalfDone$LawReader", "code", "[I", true)
  | _ => ("HalfDone$LawReader", "length", "I", false)
def tyX6 : Nat → FieldType := fun k => match k with
  | 0 => .object "HalfDone$Tape"
  | 1 => .array .int
  | _ => .int
abbrev wsX60 : List Cond := u_ws RX6 TX6 3
theorem nmX6 : ∀ a, a < 3 → ∀ b, b < 3 → a ≠ b → (TX6 a).2.1 ≠ (TX6 b).2.1 := by decide +kernel
theorem tyX6_ok : ∀ k, k < 3 → parseFieldDescriptor (TX6 k).2.2.1 = some (tyX6 k) := by decide +kernel
abbrev cX6_init : ByteArray := prog_8_method_1_code
def yX6_init : MethodName := ⟨RX6, "<init>", "(LHalfDone$Tape;)V"⟩
abbrev cX6_read : ByteArray := prog_8_method_2_code
def yX6_read : MethodName := ⟨RX6, "read", "()I"⟩
abbrev cX6_emit : ByteArray := prog_8_method_3_code
def yX6_emit : MethodName := ⟨RX6, "emit", "(I)V"⟩
abbrev cX6_readClause : ByteArray := prog_8_method_4_code
def yX6_readClause : MethodName := ⟨RX6, "readClause", "()Z"⟩
abbrev cX6_readCondition : ByteArray := prog_8_method_5_code
def yX6_readCondition : MethodName := ⟨RX6, "readCondition", "(IZ)Z"⟩
abbrev cX6_readTruth : ByteArray := prog_8_method_6_code
def yX6_readTruth : MethodName := ⟨RX6, "readTruth", "(IZ)Z"⟩
abbrev cX6_readUnit : ByteArray := prog_8_method_7_code
def yX6_readUnit : MethodName := ⟨RX6, "readUnit", "(IZ)Z"⟩
abbrev cX6_readNested : ByteArray := prog_8_method_8_code
def yX6_readNested : MethodName := ⟨RX6, "readNested", "(II)Z"⟩
abbrev cX6_readSum : ByteArray := prog_8_method_9_code
def yX6_readSum : MethodName := ⟨RX6, "readSum", "(I)Z"⟩
abbrev cX6_readTerm : ByteArray := prog_8_method_10_code
def yX6_readTerm : MethodName := ⟨RX6, "readTerm", "(I)Z"⟩
abbrev cX6_readAtom : ByteArray := prog_8_method_11_code
def yX6_readAtom : MethodName := ⟨RX6, "readAtom", "(I)Z"⟩
abbrev cX6_comparison : ByteArray := prog_8_method_12_code
def yX6_comparison : MethodName := ⟨RX6, "comparison", "(I)I"⟩
abbrev cX6_letterOf : ByteArray := prog_8_method_13_code
def yX6_letterOf : MethodName := ⟨RX6, "letterOf", "(I)I"⟩
def RX7 : String := "HalfDone$Laws"
def TX7 : u_T := fun k => match k with
  | 0 => ("HalfDone$Laws", "codes", "[[I", true)
  | 1 => ("HalfDone$Laws", "lengths", "[I", true)
  | 2 => ("HalfDone$Laws", "letters", "[I", true)
  | 3 => ("HalfDone$Laws", "stack", "[I", true)
  | 4 => ("HalfDone$Laws", "liked", "[[I", true)
  | 5 => ("HalfDone$Laws", "top", "I", false)
  | _ => ("HalfDone$Laws", "count", "I", false)
def tyX7 : Nat → FieldType := fun k => match k with
  | 0 => .array (.array .int)
  | 1 => .array .int
  | 2 => .array .int
  | 3 => .array .int
  | 4 => .array (.array .int)
  | 5 => .int
  | _ => .int
abbrev wsX70 : List Cond := u_ws RX7 TX7 7
theorem nmX7 : ∀ a, a < 7 → ∀ b, b < 7 → a ≠ b → (TX7 a).2.1 ≠ (TX7 b).2.1 := by decide +kernel
theorem tyX7_ok : ∀ k, k < 7 → parseFieldDescriptor (TX7 k).2.2.1 = some (tyX7 k) := by decide +kernel
abbrev cX7_init : ByteArray := prog_9_method_1_code
def yX7_init : MethodName := ⟨RX7, "<init>", "()V"⟩
abbrev cX7_has : ByteArray := prog_9_method_2_code
def yX7_has : MethodName := ⟨RX7, "has", "(I)Z"⟩
abbrev cX7_add : ByteArray := prog_9_method_3_code
def yX7_add : MethodName := ⟨RX7, "add", "([II)I"⟩
abbrev cX7_tellOfWish : ByteArray := prog_9_method_4_code
def yX7_tellOfWish : MethodName := ⟨RX7, "tellOfWish", "(IIIII)V"⟩
abbrev cX7_likes : ByteArray := prog_9_method_5_code
def yX7_likes : MethodName := ⟨RX7, "likes", "(IIII)Z"⟩
abbrev cX7_signsLiked : ByteArray := prog_9_method_6_code
def yX7_signsLiked : MethodName := ⟨RX7, "signsLiked", "(III)I"⟩
abbrev cX7_worth : ByteArray := prog_9_method_7_code
def yX7_worth : MethodName := ⟨RX7, "worth", "(I)I"⟩
abbrev cX7_joined : ByteArray := prog_9_method_8_code
def yX7_joined : MethodName := ⟨RX7, "joined", "(IJJ)I"⟩
abbrev cX7_reckoned : ByteArray := prog_9_method_9_code
def yX7_reckoned : MethodName := ⟨RX7, "reckoned", "(IJJ)I"⟩
abbrev cX7_push : ByteArray := prog_9_method_10_code
def yX7_push : MethodName := ⟨RX7, "push", "(I)V"⟩
abbrev cX7_pop : ByteArray := prog_9_method_11_code
def yX7_pop : MethodName := ⟨RX7, "pop", "()I"⟩
def RX8 : String := "HalfDone$Past"
def TX8 : u_T := fun k => match k with
  | 0 => ("HalfDone$Past", "kept", "[[I", true)
  | 1 => ("HalfDone$Past", "picture", "[I", true)
  | 2 => ("HalfDone$Past", "next", "I", false)
  | 3 => ("HalfDone$Past", "count", "I", false)
  | _ => ("HalfDone$Past", "pictured", "Z", false)
def tyX8 : Nat → FieldType := fun k => match k with
  | 0 => .array (.array .int)
  | 1 => .array .int
  | 2 => .int
  | 3 => .int
  | _ => .boolean
abbrev wsX80 : List Cond := u_ws RX8 TX8 5
theorem nmX8 : ∀ a, a < 5 → ∀ b, b < 5 → a ≠ b → (TX8 a).2.1 ≠ (TX8 b).2.1 := by decide +kernel
theorem tyX8_ok : ∀ k, k < 5 → parseFieldDescriptor (TX8 k).2.2.1 = some (tyX8 k) := by decide +kernel
abbrev cX8_init : ByteArray := prog_10_method_1_code
def yX8_init : MethodName := ⟨RX8, "<init>", "()V"⟩
abbrev cX8_forget : ByteArray := prog_10_method_2_code
def yX8_forget : MethodName := ⟨RX8, "forget", "()V"⟩
abbrev cX8_keep : ByteArray := prog_10_method_3_code
def yX8_keep : MethodName := ⟨RX8, "keep", "([I)V"⟩
abbrev cX8_takeBack : ByteArray := prog_10_method_4_code
def yX8_takeBack : MethodName := ⟨RX8, "takeBack", "([I)Z"⟩
abbrev cX8_keepImage : ByteArray := prog_10_method_5_code
def yX8_keepImage : MethodName := ⟨RX8, "keepImage", "([I)V"⟩
abbrev cX8_bringBack : ByteArray := prog_10_method_6_code
def yX8_bringBack : MethodName := ⟨RX8, "bringBack", "([I)Z"⟩
def RX9 : String := "HalfDone$Tape"
def TX9 : u_T := fun k => match k with
  | 0 => ("HalfDone$Tape", "bytes", "[I", true)
  | 1 => ("HalfDone$Tape", "length", "I", false)
  | 2 => ("HalfDone$Tape", "at", "I", false)
  | _ => ("HalfDone$Tape", "fault", "I", false)
def tyX9 : Nat → FieldType := fun k => match k with
  | 0 => .array .int
  | 1 => .int
  | 2 => .int
  | _ => .int
abbrev wsX90 : List Cond := u_ws RX9 TX9 4
theorem nmX9 : ∀ a, a < 4 → ∀ b, b < 4 → a ≠ b → (TX9 a).2.1 ≠ (TX9 b).2.1 := by decide +kernel
theorem tyX9_ok : ∀ k, k < 4 → parseFieldDescriptor (TX9 k).2.2.1 = some (tyX9 k) := by decide +kernel
abbrev cX9_init : ByteArray := prog_11_method_1_code
def yX9_init : MethodName := ⟨RX9, "<init>", "()V"⟩
abbrev cX9_bytesOf : ByteArray := prog_11_method_2_code
def yX9_bytesOf : MethodName := ⟨RX9, "bytesOf", "(I)I"⟩
abbrev cX9_add : ByteArray := prog_11_method_3_code
def yX9_add : MethodName := ⟨RX9, "add", "(I)V"⟩
abbrev cX9_rewind : ByteArray := prog_11_method_4_code
def yX9_rewind : MethodName := ⟨RX9, "rewind", "()V"⟩
abbrev cX9_peek : ByteArray := prog_11_method_5_code
def yX9_peek : MethodName := ⟨RX9, "peek", "()I"⟩
abbrev cX9_skip : ByteArray := prog_11_method_6_code
def yX9_skip : MethodName := ⟨RX9, "skip", "()V"⟩
abbrev cX9_fails : ByteArray := prog_11_method_7_code
def yX9_fails : MethodName := ⟨RX9, "fails", "()Z"⟩
abbrev cX9_must : ByteArray := prog_11_method_8_code
def yX9_must : MethodName := ⟨RX9, "must", "(I)Z"⟩
abbrev cX9_number : ByteArray := prog_11_method_9_code
def yX9_number : MethodName := ⟨RX9, "number", "(III)I"⟩
abbrev cX9_isDigit : ByteArray := prog_11_method_10_code
def yX9_isDigit : MethodName := ⟨RX9, "isDigit", "(I)Z"⟩
def RX10 : String := "HalfDone$WillReader"
def TX10 : u_T := fun k => match k with
  | _ => ("HalfDone$WillReader", "tape", "LHalfDone$Tape;", true)
def tyX10 : Nat → FieldType := fun k => match k with
  | _ => .object "HalfDone$Tape"
abbrev wsX100 : List Cond := u_ws RX10 TX10 1
theorem nmX10 : ∀ a, a < 1 → ∀ b, b < 1 → a ≠ b → (TX10 a).2.1 ≠ (TX10 b).2.1 := by decide +kernel
theorem tyX10_ok : ∀ k, k < 1 → parseFieldDescriptor (TX10 k).2.2.1 = some (tyX10 k) := by decide +kernel
abbrev cX10_init : ByteArray := prog_12_method_1_code
def yX10_init : MethodName := ⟨RX10, "<init>", "(LHalfDone$Tape;)V"⟩
abbrev cX10_read : ByteArray := prog_12_method_2_code
def yX10_read : MethodName := ⟨RX10, "read", "(LHalfDone$Estate;)I"⟩
abbrev cX10_readClause : ByteArray := prog_12_method_3_code
def yX10_readClause : MethodName := ⟨RX10, "readClause", "(LHalfDone$Estate;)Z"⟩
abbrev cX10_readThing : ByteArray := prog_12_method_4_code
def yX10_readThing : MethodName := ⟨RX10, "readThing", "(LHalfDone$Estate;)Z"⟩
abbrev cX10_thingItem : ByteArray := prog_12_method_5_code
def yX10_thingItem : MethodName := ⟨RX10, "thingItem", "(I)I"⟩
abbrev cX10_putItem : ByteArray := prog_12_method_6_code
def yX10_putItem : MethodName := ⟨RX10, "putItem", "(LHalfDone$Estate;III)V"⟩
abbrev cX10_readSteps : ByteArray := prog_12_method_7_code
def yX10_readSteps : MethodName := ⟨RX10, "readSteps", "(LHalfDone$Estate;I)Z"⟩
abbrev cX10_readHeir : ByteArray := prog_12_method_8_code
def yX10_readHeir : MethodName := ⟨RX10, "readHeir", "(LHalfDone$Estate;)Z"⟩
abbrev cX10_readTool : ByteArray := prog_12_method_9_code
def yX10_readTool : MethodName := ⟨RX10, "readTool", "(LHalfDone$Estate;)Z"⟩
abbrev cX10_tradeOf : ByteArray := prog_12_method_10_code
def yX10_tradeOf : MethodName := ⟨RX10, "tradeOf", "(I)I"⟩
def RX11 : String := "HalfDone"
def TX11 : u_T := fun k => match k with
  | 0 => ("HalfDone", "tape", "LHalfDone$Tape;", true)
  | 1 => ("HalfDone", "willReader", "LHalfDone$WillReader;", true)
  | 2 => ("HalfDone", "lawReader", "LHalfDone$LawReader;", true)
  | 3 => ("HalfDone", "laws", "LHalfDone$Laws;", true)
  | 4 => ("HalfDone", "beginnings", "LHalfDone$Beginnings;", true)
  | 5 => ("HalfDone", "endings", "LHalfDone$Endings;", true)
  | 6 => ("HalfDone", "past", "LHalfDone$Past;", true)
  | 7 => ("HalfDone", "dealer", "LHalfDone$Dealer;", true)
  | 8 => ("HalfDone", "dying", "LHalfDone$Dying;", true)
  | 9 => ("HalfDone", "game", "LHalfDone$Game;", true)
  | 10 => ("HalfDone", "will", "LHalfDone$Estate;", false)
  | 11 => ("HalfDone", "draft", "LHalfDone$Estate;", false)
  | _ => ("HalfDone", "holding", "I", false)
def tyX11 : Nat → FieldType := fun k => match k with
  | 0 => .object "HalfDone$Tape"
  | 1 => .object "HalfDone$WillReader"
  | 2 => .object "HalfDone$LawReader"
  | 3 => .object "HalfDone$Laws"
  | 4 => .object "HalfDone$Beginnings"
  | 5 => .object "HalfDone$Endings"
  | 6 => .object "HalfDone$Past"
  | 7 => .object "HalfDone$Dealer"
  | 8 => .object "HalfDone$Dying"
  | 9 => .object "HalfDone$Game"
  | 10 => .object "HalfDone$Estate"
  | 11 => .object "HalfDone$Estate"
  | _ => .int
abbrev wsX110 : List Cond := u_ws RX11 TX11 13
theorem nmX11 : ∀ a, a < 13 → ∀ b, b < 13 → a ≠ b → (TX11 a).2.1 ≠ (TX11 b).2.1 := by decide +kernel
theorem tyX11_ok : ∀ k, k < 13 → parseFieldDescriptor (TX11 k).2.2.1 = some (tyX11 k) := by decide +kernel
abbrev cX11_init : ByteArray := prog_1_method_1_code
def yX11_init : MethodName := ⟨RX11, "<init>", "()V"⟩
abbrev cX11_feed : ByteArray := prog_1_method_2_code
def yX11_feed : MethodName := ⟨RX11, "feed", "(IIIII)I"⟩
abbrev cX11_end : ByteArray := prog_1_method_3_code
def yX11_end : MethodName := ⟨RX11, "end", "(I)Z"⟩
abbrev cX11_fault : ByteArray := prog_1_method_4_code
def yX11_fault : MethodName := ⟨RX11, "fault", "(I)I"⟩
abbrev cX11_text : ByteArray := prog_1_method_5_code
def yX11_text : MethodName := ⟨RX11, "text", "(I)I"⟩
abbrev cX11_putWill : ByteArray := prog_1_method_6_code
def yX11_putWill : MethodName := ⟨RX11, "putWill", "()I"⟩
abbrev cX11_thing : ByteArray := prog_1_method_7_code
def yX11_thing : MethodName := ⟨RX11, "thing", "(II)I"⟩
abbrev cX11_step : ByteArray := prog_1_method_8_code
def yX11_step : MethodName := ⟨RX11, "step", "(III)I"⟩
abbrev cX11_heir : ByteArray := prog_1_method_9_code
def yX11_heir : MethodName := ⟨RX11, "heir", "(II)I"⟩
abbrev cX11_tools : ByteArray := prog_1_method_10_code
def yX11_tools : MethodName := ⟨RX11, "tools", "(I)I"⟩
abbrev cX11_law : ByteArray := prog_1_method_11_code
def yX11_law : MethodName := ⟨RX11, "law", "(I)Z"⟩
abbrev cX11_takes : ByteArray := prog_1_method_12_code
def yX11_takes : MethodName := ⟨RX11, "takes", "(III)I"⟩
abbrev cX11_alone : ByteArray := prog_1_method_13_code
def yX11_alone : MethodName := ⟨RX11, "alone", "(II)I"⟩
abbrev cX11_who : ByteArray := prog_1_method_14_code
def yX11_who : MethodName := ⟨RX11, "who", "(I)I"⟩
abbrev cX11_stuck : ByteArray := prog_1_method_15_code
def yX11_stuck : MethodName := ⟨RX11, "stuck", "(I)I"⟩
abbrev cX11_team : ByteArray := prog_1_method_16_code
def yX11_team : MethodName := ⟨RX11, "team", "(II)I"⟩
abbrev cX11_helpers : ByteArray := prog_1_method_17_code
def yX11_helpers : MethodName := ⟨RX11, "helpers", "(I)I"⟩
abbrev cX11_sold : ByteArray := prog_1_method_18_code
def yX11_sold : MethodName := ⟨RX11, "sold", "()I"⟩
abbrev cX11_give : ByteArray := prog_1_method_19_code
def yX11_give : MethodName := ⟨RX11, "give", "(II)I"⟩
abbrev cX11_teach : ByteArray := prog_1_method_20_code
def yX11_teach : MethodName := ⟨RX11, "teach", "(II)I"⟩
abbrev cX11_days : ByteArray := prog_1_method_21_code
def yX11_days : MethodName := ⟨RX11, "days", "(I)I"⟩
abbrev cX11_generation : ByteArray := prog_1_method_22_code
def yX11_generation : MethodName := ⟨RX11, "generation", "(J)I"⟩
abbrev cX11_undo : ByteArray := prog_1_method_23_code
def yX11_undo : MethodName := ⟨RX11, "undo", "()I"⟩
abbrev cX11_image : ByteArray := prog_1_method_24_code
def yX11_image : MethodName := ⟨RX11, "image", "()I"⟩
abbrev cX11_back : ByteArray := prog_1_method_25_code
def yX11_back : MethodName := ⟨RX11, "back", "()I"⟩
abbrev cX11_deal : ByteArray := prog_1_method_26_code
def yX11_deal : MethodName := ⟨RX11, "deal", "(I)I"⟩
abbrev cX11_best : ByteArray := prog_1_method_27_code
def yX11_best : MethodName := ⟨RX11, "best", "(II)I"⟩
abbrev cX11_learn : ByteArray := prog_1_method_28_code
def yX11_learn : MethodName := ⟨RX11, "learn", "(I)I"⟩
abbrev cX11_begin : ByteArray := prog_1_method_29_code
def yX11_begin : MethodName := ⟨RX11, "begin", "(II)I"⟩
abbrev cX11_spite : ByteArray := prog_1_method_30_code
def yX11_spite : MethodName := ⟨RX11, "spite", "(II)I"⟩
abbrev cX11_wish : ByteArray := prog_1_method_31_code
def yX11_wish : MethodName := ⟨RX11, "wish", "(II)I"⟩
abbrev cX11_wishOf : ByteArray := prog_1_method_32_code
def yX11_wishOf : MethodName := ⟨RX11, "wishOf", "(II)I"⟩
abbrev cX11_rests : ByteArray := prog_1_method_33_code
def yX11_rests : MethodName := ⟨RX11, "rests", "(I)I"⟩
abbrev cX11_gains : ByteArray := prog_1_method_34_code
def yX11_gains : MethodName := ⟨RX11, "gains", "(II)I"⟩
abbrev cX11_layOutGame : ByteArray := prog_1_method_35_code
def yX11_layOutGame : MethodName := ⟨RX11, "layOutGame", "()V"⟩
abbrev cX11_ends : ByteArray := prog_1_method_36_code
def yX11_ends : MethodName := ⟨RX11, "ends", "(IIII)I"⟩
abbrev cX11_shortest : ByteArray := prog_1_method_37_code
def yX11_shortest : MethodName := ⟨RX11, "shortest", "(III)I"⟩
abbrev cX11_judged : ByteArray := prog_1_method_38_code
def yX11_judged : MethodName := ⟨RX11, "judged", "(III)I"⟩
abbrev cX11_dearest : ByteArray := prog_1_method_39_code
def yX11_dearest : MethodName := ⟨RX11, "dearest", "(III)I"⟩
abbrev cX11_fitting : ByteArray := prog_1_method_40_code
def yX11_fitting : MethodName := ⟨RX11, "fitting", "(III)I"⟩
abbrev cX11_fits : ByteArray := prog_1_method_41_code
def yX11_fits : MethodName := ⟨RX11, "fits", "(IIII)Z"⟩
abbrev cX11_isBehind : ByteArray := prog_1_method_42_code
def yX11_isBehind : MethodName := ⟨RX11, "isBehind", "(I)Z"⟩
abbrev cX11_sign : ByteArray := prog_1_method_43_code
def yX11_sign : MethodName := ⟨RX11, "sign", "(II)I"⟩
abbrev cX11_ended : ByteArray := prog_1_method_44_code
def yX11_ended : MethodName := ⟨RX11, "ended", "(III)I"⟩
abbrev cX11_stood : ByteArray := prog_1_method_45_code
def yX11_stood : MethodName := ⟨RX11, "stood", "(I)I"⟩
abbrev cX11_count : ByteArray := prog_1_method_46_code
def yX11_count : MethodName := ⟨RX11, "count", "(I)I"⟩
abbrev cX11_isTrade : ByteArray := prog_1_method_47_code
def yX11_isTrade : MethodName := ⟨RX11, "isTrade", "(I)Z"⟩
def RX12 : String := "HalfDoneModel"
def TX12 : u_T := fun k => match k with
  | 0 => ("HalfDoneModel", "thrown", "I", false)
  | 1 => ("HalfDoneModel", "tape", "[B", true)
  | 2 => ("HalfDoneModel", "texts", "[B", true)
  | 3 => ("HalfDoneModel", "textLong", "[I", true)
  | 4 => ("HalfDoneModel", "letters", "[I", true)
  | 5 => ("HalfDoneModel", "text", "[B", false)
  | 6 => ("HalfDoneModel", "length", "I", false)
  | 7 => ("HalfDoneModel", "lawMany", "I", false)
  | 8 => ("HalfDoneModel", "begins", "I", false)
  | 9 => ("HalfDoneModel", "ends", "I", false)
  | 10 => ("HalfDoneModel", "at", "I", false)
  | 11 => ("HalfDoneModel", "fault", "I", false)
  | 12 => ("HalfDoneModel", "deep", "I", false)
  | 13 => ("HalfDoneModel", "label", "I", false)
  | 14 => ("HalfDoneModel", "found", "I", false)
  | 15 => ("HalfDoneModel", "labels", "Ljava/lang/String;", true)
  | 16 => ("HalfDoneModel", "allowed", "Ljava/lang/String;", true)
  | 17 => ("HalfDoneModel", "hasFound", "Z", false)
  | 18 => ("HalfDoneModel", "thing", "[I", true)
  | 19 => ("HalfDoneModel", "thingRead", "[I", true)
  | 20 => ("HalfDoneModel", "step", "[I", true)
  | 21 => ("HalfDoneModel", "stepRead", "[I", true)
  | 22 => ("HalfDoneModel", "heir", "[I", true)
  | 23 => ("HalfDoneModel", "heirRead", "[I", true)
  | 24 => ("HalfDoneModel", "tool", "[I", true)
  | 25 => ("HalfDoneModel", "toolRead", "[I", true)
  | 26 => ("HalfDoneModel", "things", "I", false)
  | 27 => ("HalfDoneModel", "heirs", "I", false)
  | 28 => ("HalfDoneModel", "tools", "I", false)
  | 29 => ("HalfDoneModel", "thingsRead", "I", false)
  | 30 => ("HalfDoneModel", "heirsRead", "I", false)
  | 31 => ("HalfDoneModel", "toolsRead", "I", false)
  | 32 => ("HalfDoneModel", "row", "[I", true)
  | 33 => ("HalfDoneModel", "rowLong", "[I", true)
  | 34 => ("HalfDoneModel", "rows", "I", false)
  | 35 => ("HalfDoneModel", "now", "[I", true)
  | 36 => ("HalfDoneModel", "law", "I", false)
  | 37 => ("HalfDoneModel", "undoRow", "[I", true)
  | 38 => ("HalfDoneModel", "acts", "I", false)
  | 39 => ("HalfDoneModel", "working", "[I", true)
  | 40 => ("HalfDoneModel", "x", "J", false)
  | 41 => ("HalfDoneModel", "asked", "[I", true)
  | 42 => ("HalfDoneModel", "canSet", "[Z", true)
  | 43 => ("HalfDoneModel", "dealTo", "[I", true)
  | 44 => ("HalfDoneModel", "dealBest", "[I", true)
  | 45 => ("HalfDoneModel", "dealMost", "I", false)
  | 46 => ("HalfDoneModel", "dealSet", "[I", true)
  | 47 => ("HalfDoneModel", "begun", "[I", true)
  | 48 => ("HalfDoneModel", "beginBest", "[I", true)
  | 49 => ("HalfDoneModel", "beginMost", "I", false)
  | 50 => ("HalfDoneModel", "goesFor", "[I", true)
  | 51 => ("HalfDoneModel", "restMany", "I", false)
  | 52 => ("HalfDoneModel", "restWanted", "I", false)
  | 53 => ("HalfDoneModel", "restFound", "I", false)
  | 54 => ("HalfDoneModel", "endThing", "[I", true)
  | 55 => ("HalfDoneModel", "endHeir", "[I", true)
  | 56 => ("HalfDoneModel", "endDays", "[I", true)
  | 57 => ("HalfDoneModel", "endings", "I", false)
  | 58 => ("HalfDoneModel", "imageRow", "[I", true)
  | _ => ("HalfDoneModel", "hasImage", "Z", false)
def tyX12 : Nat → FieldType := fun k => match k with
  | 0 => .int
  | 1 => .array .byte
  | 2 => .array .byte
  | 3 => .array .int
  | 4 => .array .int
  | 5 => .array .byte
  | 6 => .int
  | 7 => .int
  | 8 => .int
  | 9 => .int
  | 10 => .int
  | 11 => .int
  | 12 => .int
  | 13 => .int
  | 14 => .int
  | 15 => .object "java/lang/String"
  | 16 => .object "java/lang/String"
  | 17 => .boolean
  | 18 => .array .int
  | 19 => .array .int
  | 20 => .array .int
  | 21 => .array .int
  | 22 => .array .int
  | 23 => .array .int
  | 24 => .array .int
  | 25 => .array .int
  | 26 => .int
  | 27 => .int
  | 28 => .int
  | 29 => .int
  | 30 => .int
  | 31 => .int
  | 32 => .array .int
  | 33 => .array .int
  | 34 => .int
  | 35 => .array .int
  | 36 => .int
  | 37 => .array .int
  | 38 => .int
  | 39 => .array .int
  | 40 => .long
  | 41 => .array .int
  | 42 => .array .boolean
  | 43 => .array .int
  | 44 => .array .int
  | 45 => .int
  | 46 => .array .int
  | 47 => .array .int
  | 48 => .array .int
  | 49 => .int
  | 50 => .array .int
  | 51 => .int
  | 52 => .int
  | 53 => .int
  | 54 => .array .int
  | 55 => .array .int
  | 56 => .array .int
  | 57 => .int
  | 58 => .array .int
  | _ => .boolean
abbrev wsX120 : List Cond := u_ws RX12 TX12 60
theorem nmX12 : ∀ a, a < 60 → ∀ b, b < 60 → a ≠ b → (TX12 a).2.1 ≠ (TX12 b).2.1 := by decide +kernel
theorem tyX12_ok : ∀ k, k < 60 → parseFieldDescriptor (TX12 k).2.2.1 = some (tyX12 k) := by decide +kernel
abbrev cX12_init : ByteArray := prog_14_method_1_code
def yX12_init : MethodName := ⟨RX12, "<init>", "()V"⟩
abbrev cX12_thrown : ByteArray := prog_14_method_2_code
def yX12_thrown : MethodName := ⟨RX12, "thrown", "()I"⟩
abbrev cX12_isIn : ByteArray := prog_14_method_3_code
def yX12_isIn : MethodName := ⟨RX12, "isIn", "(JJJ)Z"⟩
abbrev cX12_has : ByteArray := prog_14_method_4_code
def yX12_has : MethodName := ⟨RX12, "has", "(II)Z"⟩
abbrev cX12_isAmong : ByteArray := prog_14_method_5_code
def yX12_isAmong : MethodName := ⟨RX12, "isAmong", "(Ljava/lang/String;I)Z"⟩
abbrev cX12_bytesIn : ByteArray := prog_14_method_6_code
def yX12_bytesIn : MethodName := ⟨RX12, "bytesIn", "(I)I"⟩
abbrev cX12_put : ByteArray := prog_14_method_7_code
def yX12_put : MethodName := ⟨RX12, "put", "(I)V"⟩
abbrev cX12_feed : ByteArray := prog_14_method_8_code
def yX12_feed : MethodName := ⟨RX12, "feed", "(IIIII)I"⟩
abbrev cX12_end : ByteArray := prog_14_method_9_code
def yX12_end : MethodName := ⟨RX12, "end", "(I)Z"⟩
abbrev cX12_look : ByteArray := prog_14_method_10_code
def yX12_look : MethodName := ⟨RX12, "look", "()I"⟩
abbrev cX12_fails : ByteArray := prog_14_method_11_code
def yX12_fails : MethodName := ⟨RX12, "fails", "()Z"⟩
abbrev cX12_goesIn : ByteArray := prog_14_method_12_code
def yX12_goesIn : MethodName := ⟨RX12, "goesIn", "()Z"⟩
abbrev cX12_takes : ByteArray := prog_14_method_13_code
def yX12_takes : MethodName := ⟨RX12, "takes", "(I)Z"⟩
abbrev cX12_isDigit : ByteArray := prog_14_method_14_code
def yX12_isDigit : MethodName := ⟨RX12, "isDigit", "()Z"⟩
abbrev cX12_within : ByteArray := prog_14_method_15_code
def yX12_within : MethodName := ⟨RX12, "within", "(J)I"⟩
abbrev cX12_atom : ByteArray := prog_14_method_16_code
def yX12_atom : MethodName := ⟨RX12, "atom", "()I"⟩
abbrev cX12_term : ByteArray := prog_14_method_17_code
def yX12_term : MethodName := ⟨RX12, "term", "()I"⟩
abbrev cX12_sum : ByteArray := prog_14_method_18_code
def yX12_sum : MethodName := ⟨RX12, "sum", "()I"⟩
abbrev cX12_isSign : ByteArray := prog_14_method_19_code
def yX12_isSign : MethodName := ⟨RX12, "isSign", "(I)Z"⟩
abbrev cX12_compares : ByteArray := prog_14_method_20_code
def yX12_compares : MethodName := ⟨RX12, "compares", "(ZI)Z"⟩
abbrev cX12_unit : ByteArray := prog_14_method_21_code
def yX12_unit : MethodName := ⟨RX12, "unit", "()Z"⟩
abbrev cX12_part : ByteArray := prog_14_method_22_code
def yX12_part : MethodName := ⟨RX12, "part", "(ZI)Z"⟩
abbrev cX12_condition : ByteArray := prog_14_method_23_code
def yX12_condition : MethodName := ⟨RX12, "condition", "(ZI)Z"⟩
abbrev cX12_clause : ByteArray := prog_14_method_24_code
def yX12_clause : MethodName := ⟨RX12, "clause", "()V"⟩
abbrev cX12_starts : ByteArray := prog_14_method_25_code
def yX12_starts : MethodName := ⟨RX12, "starts", "([BII)V"⟩
abbrev cX12_goThrough : ByteArray := prog_14_method_26_code
def yX12_goThrough : MethodName := ⟨RX12, "goThrough", "([BII)V"⟩
abbrev cX12_here : ByteArray := prog_14_method_27_code
def yX12_here : MethodName := ⟨RX12, "here", "()I"⟩
abbrev cX12_placeOf : ByteArray := prog_14_method_28_code
def yX12_placeOf : MethodName := ⟨RX12, "placeOf", "(Ljava/lang/String;I)I"⟩
abbrev cX12_readItem : ByteArray := prog_14_method_29_code
def yX12_readItem : MethodName := ⟨RX12, "readItem", "([IIII)V"⟩
abbrev cX12_readItems : ByteArray := prog_14_method_30_code
def yX12_readItems : MethodName := ⟨RX12, "readItems", "([IILjava/lang/String;Z)V"⟩
abbrev cX12_readSteps : ByteArray := prog_14_method_31_code
def yX12_readSteps : MethodName := ⟨RX12, "readSteps", "(I)V"⟩
abbrev cX12_readThing : ByteArray := prog_14_method_32_code
def yX12_readThing : MethodName := ⟨RX12, "readThing", "()V"⟩
abbrev cX12_readClause : ByteArray := prog_14_method_33_code
def yX12_readClause : MethodName := ⟨RX12, "readClause", "()V"⟩
abbrev cX12_readWill : ByteArray := prog_14_method_34_code
def yX12_readWill : MethodName := ⟨RX12, "readWill", "()V"⟩
abbrev cX12_readRow : ByteArray := prog_14_method_35_code
def yX12_readRow : MethodName := ⟨RX12, "readRow", "()V"⟩
abbrev cX12_fault : ByteArray := prog_14_method_36_code
def yX12_fault : MethodName := ⟨RX12, "fault", "(I)I"⟩
abbrev cX12_text : ByteArray := prog_14_method_37_code
def yX12_text : MethodName := ⟨RX12, "text", "(I)I"⟩
abbrev cX12_isThing : ByteArray := prog_14_method_38_code
def yX12_isThing : MethodName := ⟨RX12, "isThing", "(I)Z"⟩
abbrev cX12_isHeir : ByteArray := prog_14_method_39_code
def yX12_isHeir : MethodName := ⟨RX12, "isHeir", "(I)Z"⟩
abbrev cX12_stepsOf : ByteArray := prog_14_method_40_code
def yX12_stepsOf : MethodName := ⟨RX12, "stepsOf", "(I)I"⟩
abbrev cX12_doneOf : ByteArray := prog_14_method_41_code
def yX12_doneOf : MethodName := ⟨RX12, "doneOf", "(I)I"⟩
abbrev cX12_isToDo : ByteArray := prog_14_method_42_code
def yX12_isToDo : MethodName := ⟨RX12, "isToDo", "(I)Z"⟩
abbrev cX12_skill : ByteArray := prog_14_method_43_code
def yX12_skill : MethodName := ⟨RX12, "skill", "(II)I"⟩
abbrev cX12_tradeOf : ByteArray := prog_14_method_44_code
def yX12_tradeOf : MethodName := ⟨RX12, "tradeOf", "(II)I"⟩
abbrev cX12_daysOf : ByteArray := prog_14_method_45_code
def yX12_daysOf : MethodName := ⟨RX12, "daysOf", "(II)I"⟩
abbrev cX12_thing : ByteArray := prog_14_method_46_code
def yX12_thing : MethodName := ⟨RX12, "thing", "(II)I"⟩
abbrev cX12_step : ByteArray := prog_14_method_47_code
def yX12_step : MethodName := ⟨RX12, "step", "(III)I"⟩
abbrev cX12_heir : ByteArray := prog_14_method_48_code
def yX12_heir : MethodName := ⟨RX12, "heir", "(II)I"⟩
abbrev cX12_tools : ByteArray := prog_14_method_49_code
def yX12_tools : MethodName := ⟨RX12, "tools", "(I)I"⟩
abbrev cX12_law : ByteArray := prog_14_method_50_code
def yX12_law : MethodName := ⟨RX12, "law", "(I)Z"⟩
abbrev cX12_takesOf : ByteArray := prog_14_method_51_code
def yX12_takesOf : MethodName := ⟨RX12, "takesOf", "(III)I"⟩
abbrev cX12_takes_ : ByteArray := prog_14_method_52_code
def yX12_takes_ : MethodName := ⟨RX12, "takes", "(III)I"⟩
abbrev cX12_aloneFrom : ByteArray := prog_14_method_53_code
def yX12_aloneFrom : MethodName := ⟨RX12, "aloneFrom", "(III)I"⟩
abbrev cX12_aloneOf : ByteArray := prog_14_method_54_code
def yX12_aloneOf : MethodName := ⟨RX12, "aloneOf", "(II)I"⟩
abbrev cX12_isInTime : ByteArray := prog_14_method_55_code
def yX12_isInTime : MethodName := ⟨RX12, "isInTime", "(II)Z"⟩
abbrev cX12_alone : ByteArray := prog_14_method_56_code
def yX12_alone : MethodName := ⟨RX12, "alone", "(II)I"⟩
abbrev cX12_whoOf : ByteArray := prog_14_method_57_code
def yX12_whoOf : MethodName := ⟨RX12, "whoOf", "(I)I"⟩
abbrev cX12_who : ByteArray := prog_14_method_58_code
def yX12_who : MethodName := ⟨RX12, "who", "(I)I"⟩
abbrev cX12_stuck : ByteArray := prog_14_method_59_code
def yX12_stuck : MethodName := ⟨RX12, "stuck", "(I)I"⟩
abbrev cX12_teamOf : ByteArray := prog_14_method_60_code
def yX12_teamOf : MethodName := ⟨RX12, "teamOf", "(II)I"⟩
abbrev cX12_team : ByteArray := prog_14_method_61_code
def yX12_team : MethodName := ⟨RX12, "team", "(II)I"⟩
abbrev cX12_helpers : ByteArray := prog_14_method_62_code
def yX12_helpers : MethodName := ⟨RX12, "helpers", "(I)I"⟩
abbrev cX12_remember : ByteArray := prog_14_method_63_code
def yX12_remember : MethodName := ⟨RX12, "remember", "()V"⟩
abbrev cX12_give : ByteArray := prog_14_method_64_code
def yX12_give : MethodName := ⟨RX12, "give", "(II)I"⟩
abbrev cX12_teach : ByteArray := prog_14_method_65_code
def yX12_teach : MethodName := ⟨RX12, "teach", "(II)I"⟩
abbrev cX12_works : ByteArray := prog_14_method_66_code
def yX12_works : MethodName := ⟨RX12, "works", "(I)V"⟩
abbrev cX12_goDay : ByteArray := prog_14_method_67_code
def yX12_goDay : MethodName := ⟨RX12, "goDay", "()V"⟩
abbrev cX12_days : ByteArray := prog_14_method_68_code
def yX12_days : MethodName := ⟨RX12, "days", "(I)I"⟩
abbrev cX12_draw : ByteArray := prog_14_method_69_code
def yX12_draw : MethodName := ⟨RX12, "draw", "(I)I"⟩
abbrev cX12_generation : ByteArray := prog_14_method_70_code
def yX12_generation : MethodName := ⟨RX12, "generation", "(J)I"⟩
abbrev cX12_undo : ByteArray := prog_14_method_71_code
def yX12_undo : MethodName := ⟨RX12, "undo", "()I"⟩
abbrev cX12_askAsItIs : ByteArray := prog_14_method_72_code
def yX12_askAsItIs : MethodName := ⟨RX12, "askAsItIs", "()V"⟩
abbrev cX12_isDealt : ByteArray := prog_14_method_73_code
def yX12_isDealt : MethodName := ⟨RX12, "isDealt", "(I)Z"⟩
abbrev cX12_canDo : ByteArray := prog_14_method_74_code
def yX12_canDo : MethodName := ⟨RX12, "canDo", "(III)Z"⟩
abbrev cX12_layDeal : ByteArray := prog_14_method_75_code
def yX12_layDeal : MethodName := ⟨RX12, "layDeal", "()V"⟩
abbrev cX12_goDeal : ByteArray := prog_14_method_76_code
def yX12_goDeal : MethodName := ⟨RX12, "goDeal", "(II)V"⟩
abbrev cX12_deal : ByteArray := prog_14_method_77_code
def yX12_deal : MethodName := ⟨RX12, "deal", "(I)I"⟩
abbrev cX12_bestOf : ByteArray := prog_14_method_78_code
def yX12_bestOf : MethodName := ⟨RX12, "bestOf", "(III)I"⟩
abbrev cX12_toDo : ByteArray := prog_14_method_79_code
def yX12_toDo : MethodName := ⟨RX12, "toDo", "()I"⟩
abbrev cX12_best : ByteArray := prog_14_method_80_code
def yX12_best : MethodName := ⟨RX12, "best", "(II)I"⟩
abbrev cX12_learn : ByteArray := prog_14_method_81_code
def yX12_learn : MethodName := ⟨RX12, "learn", "(I)I"⟩
abbrev cX12_goBegin : ByteArray := prog_14_method_82_code
def yX12_goBegin : MethodName := ⟨RX12, "goBegin", "(II)V"⟩
abbrev cX12_begin : ByteArray := prog_14_method_83_code
def yX12_begin : MethodName := ⟨RX12, "begin", "(II)I"⟩
abbrev cX12_spited : ByteArray := prog_14_method_84_code
def yX12_spited : MethodName := ⟨RX12, "spited", "(II)I"⟩
abbrev cX12_spite : ByteArray := prog_14_method_85_code
def yX12_spite : MethodName := ⟨RX12, "spite", "(II)I"⟩
abbrev cX12_worthBy : ByteArray := prog_14_method_86_code
def yX12_worthBy : MethodName := ⟨RX12, "worthBy", "(I)I"⟩
abbrev cX12_wishOf : ByteArray := prog_14_method_87_code
def yX12_wishOf : MethodName := ⟨RX12, "wishOf", "(II)I"⟩
abbrev cX12_wish : ByteArray := prog_14_method_88_code
def yX12_wish : MethodName := ⟨RX12, "wish", "(II)I"⟩
abbrev cX12_gainOf : ByteArray := prog_14_method_89_code
def yX12_gainOf : MethodName := ⟨RX12, "gainOf", "(I)I"⟩
abbrev cX12_layRow : ByteArray := prog_14_method_90_code
def yX12_layRow : MethodName := ⟨RX12, "layRow", "(I)Z"⟩
abbrev cX12_gains : ByteArray := prog_14_method_91_code
def yX12_gains : MethodName := ⟨RX12, "gains", "(II)I"⟩
abbrev cX12_isRest : ByteArray := prog_14_method_92_code
def yX12_isRest : MethodName := ⟨RX12, "isRest", "()Z"⟩
abbrev cX12_goRests : ByteArray := prog_14_method_93_code
def yX12_goRests : MethodName := ⟨RX12, "goRests", "(II)V"⟩
abbrev cX12_rests : ByteArray := prog_14_method_94_code
def yX12_rests : MethodName := ⟨RX12, "rests", "(I)I"⟩
abbrev cX12_isRow : ByteArray := prog_14_method_95_code
def yX12_isRow : MethodName := ⟨RX12, "isRow", "(I)Z"⟩
abbrev cX12_isLaw : ByteArray := prog_14_method_96_code
def yX12_isLaw : MethodName := ⟨RX12, "isLaw", "(I)Z"⟩
abbrev cX12_tens : ByteArray := prog_14_method_97_code
def yX12_tens : MethodName := ⟨RX12, "tens", "(I)I"⟩
abbrev cX12_isFit : ByteArray := prog_14_method_98_code
def yX12_isFit : MethodName := ⟨RX12, "isFit", "(IIII)Z"⟩
abbrev cX12_ends : ByteArray := prog_14_method_99_code
def yX12_ends : MethodName := ⟨RX12, "ends", "(IIII)I"⟩
abbrev cX12_shortest : ByteArray := prog_14_method_100_code
def yX12_shortest : MethodName := ⟨RX12, "shortest", "(III)I"⟩
abbrev cX12_judgedOf : ByteArray := prog_14_method_101_code
def yX12_judgedOf : MethodName := ⟨RX12, "judgedOf", "(III)I"⟩
abbrev cX12_judged : ByteArray := prog_14_method_102_code
def yX12_judged : MethodName := ⟨RX12, "judged", "(III)I"⟩
abbrev cX12_dearest : ByteArray := prog_14_method_103_code
def yX12_dearest : MethodName := ⟨RX12, "dearest", "(III)I"⟩
abbrev cX12_sign : ByteArray := prog_14_method_104_code
def yX12_sign : MethodName := ⟨RX12, "sign", "(II)I"⟩
abbrev cX12_ended : ByteArray := prog_14_method_105_code
def yX12_ended : MethodName := ⟨RX12, "ended", "(III)I"⟩
abbrev cX12_stood : ByteArray := prog_14_method_106_code
def yX12_stood : MethodName := ⟨RX12, "stood", "(I)I"⟩
abbrev cX12_sold : ByteArray := prog_14_method_107_code
def yX12_sold : MethodName := ⟨RX12, "sold", "()I"⟩
abbrev cX12_image : ByteArray := prog_14_method_108_code
def yX12_image : MethodName := ⟨RX12, "image", "()I"⟩
abbrev cX12_back : ByteArray := prog_14_method_109_code
def yX12_back : MethodName := ⟨RX12, "back", "()I"⟩
abbrev cX12_thatAre : ByteArray := prog_14_method_110_code
def yX12_thatAre : MethodName := ⟨RX12, "thatAre", "(IZ)I"⟩
abbrev cX12_count : ByteArray := prog_14_method_111_code
def yX12_count : MethodName := ⟨RX12, "count", "(I)I"⟩
def RJx145de : String := "java/io/Serializable"
def RJx9f9b0 : String := "java/lang/CharSequence"
def RJxb160c : String := "java/lang/Comparable"
def RJ6 : String := "java/lang/Integer"
abbrev cJ6_bitCount_0f7a4 : ByteArray := prog_19_method_49_code
def yJ6_bitCount_0f7a4 : MethodName := ⟨RJ6, "bitCount", "(I)I"⟩
def RJ9 : String := "java/lang/Math"
abbrev cJ9_floorDiv_7cf53 : ByteArray := prog_20_method_47_code
def yJ9_floorDiv_7cf53 : MethodName := ⟨RJ9, "floorDiv", "(II)I"⟩
abbrev cJ9_max_7cf53 : ByteArray := prog_20_method_65_code
def yJ9_max_7cf53 : MethodName := ⟨RJ9, "max", "(II)I"⟩
abbrev cJ9_max_f86c9 : ByteArray := prog_20_method_66_code
def yJ9_max_f86c9 : MethodName := ⟨RJ9, "max", "(JJ)J"⟩
abbrev cJ9_min_7cf53 : ByteArray := prog_20_method_69_code
def yJ9_min_7cf53 : MethodName := ⟨RJ9, "min", "(II)I"⟩
abbrev cJ9_min_f86c9 : ByteArray := prog_20_method_70_code
def yJ9_min_f86c9 : MethodName := ⟨RJ9, "min", "(JJ)J"⟩
def RJ0 : String := "java/lang/String"
abbrev cJ0_length_8abf5 : ByteArray := prog_22_method_54_code
def yJ0_length_8abf5 : MethodName := ⟨RJ0, "length", "()I"⟩
abbrev cJ0_charAt_5068e : ByteArray := prog_22_method_56_code
def yJ0_charAt_5068e : MethodName := ⟨RJ0, "charAt", "(I)C"⟩
abbrev cJ0_coder_7d493 : ByteArray := prog_22_method_152_code
def yJ0_coder_7d493 : MethodName := ⟨RJ0, "coder", "()B"⟩
abbrev cJ0_isLatin1_aae02 : ByteArray := prog_22_method_154_code
def yJ0_isLatin1_aae02 : MethodName := ⟨RJ0, "isLatin1", "()Z"⟩
abbrev cJ0_checkIndex_df160 : ByteArray := prog_22_method_155_code
def yJ0_checkIndex_df160 : MethodName := ⟨RJ0, "checkIndex", "(II)V"⟩
def RJ1 : String := "java/lang/StringLatin1"
abbrev cJ1_charAt_3b067 : ByteArray := prog_23_method_2_code
def yJ1_charAt_3b067 : MethodName := ⟨RJ1, "charAt", "([BI)C"⟩
def RJ2 : String := "java/lang/StringUTF16"
abbrev cJ2_getChar_3b067 : ByteArray := prog_24_method_5_code
def yJ2_getChar_3b067 : MethodName := ⟨RJ2, "getChar", "([BI)C"⟩
abbrev cJ2_length_9d52b : ByteArray := prog_24_method_6_code
def yJ2_length_9d52b : MethodName := ⟨RJ2, "length", "([B)I"⟩
abbrev cJ2_charAt_3b067 : ByteArray := prog_24_method_83_code
def yJ2_charAt_3b067 : MethodName := ⟨RJ2, "charAt", "([BI)C"⟩
abbrev cJ2_checkIndex_2214a : ByteArray := prog_24_method_91_code
def yJ2_checkIndex_2214a : MethodName := ⟨RJ2, "checkIndex", "(I[B)V"⟩
def RJ10 : String := "java/lang/System"
def RJxfd54e : String := "java/lang/constant/Constable"
def RJx3cf43 : String := "java/lang/constant/ConstantDesc"
def RJ7 : String := "java/util/Arrays"
abbrev cJ7_fill_53178 : ByteArray := prog_29_method_103_code
def yJ7_fill_53178 : MethodName := ⟨RJ7, "fill", "([II)V"⟩
def RJ3 : String := "jdk/internal/util/Preconditions"
abbrev cJ3_checkIndex_8e157 : ByteArray := prog_31_method_11_code
def yJ3_checkIndex_8e157 : MethodName := ⟨RJ3, "checkIndex", "(IILjava/util/function/BiFunction;)I"⟩
def RL : String := "HalfDoneLaw"
abbrev cL_thing : ByteArray := method_3_code
def yL_thing : MethodName := ⟨RL, "thing", "(LHalfDone;II[J)I"⟩
abbrev cL_law : ByteArray := code
def yL_law : MethodName := ⟨RL, "law", "([I)Z"⟩
abbrev vwCl : List vw_C := [(RX0, TX0, 3), (RX1, TX1, 6), (RX2, TX2, 9), (RX3, TX3, 4), (RX4, TX4, 12), (RX5, TX5, 7), (RX6, TX6, 3), (RX7, TX7, 7), (RX8, TX8, 5), (RX9, TX9, 4), (RX10, TX10, 1), (RX11, TX11, 13), (RX12, TX12, 60)]
end
section
/-! THE PROGRAM as the abstract machine reads it: tables, methods, shapes; each row checked against the Statement by the kernel -/
/-- a class's tables: its name; fields (pool index, class, place, kind, word); calls (pool index, kind, method, parameters, four words); constants (pool index, value, word) -/
abbrev aCl : Type := String × List (Nat × Nat × Nat × Nat × Nat) × List (Nat × Nat × Nat × Nat × Nat × Nat × Nat × Nat) × List (Nat × Value × Nat)
/-- a method: name, bytes, number of locals, result, its class's tables, its code, its code's word -/
abbrev aM : Type := MethodName × ByteArray × Nat × Option FieldType × aCl × List (Nat × Instr × Nat) × Nat
/-- a cell's shape: an object of a class, or an array (0 int, 1 byte, 2 boolean, 3 long, 4 int[]) of a length -/
abbrev aSh : Type := Nat ⊕ (Nat × Nat)
def aY (M : aM) : MethodName := M.1
def aBy (M : aM) : ByteArray := M.2.1
def aML (M : aM) : Nat := M.2.2.1
def aRt (M : aM) : Option FieldType := M.2.2.2.1
def aCs (M : aM) : aCl := M.2.2.2.2.1
def aOwn (M : aM) : String := M.2.2.2.2.1.1
def aCo (M : aM) : List (Nat × Instr × Nat) := M.2.2.2.2.2.1
def aWi (M : aM) : Nat := M.2.2.2.2.2.2
def aFd {α : Type} : List (Nat × α) → Nat → Option α
  | [], _ => none
  | q :: r, i => match Nat.beq q.1 i with
    | true => some q.2
    | false => aFd r i
def aC_RX0 : aCl := (RX0, [(11, 0, 0, 9, 241), (16, 0, 1, 9, 243), (20, 0, 2, 0, 245), (37, 9, 2, 0, 160), (43, 9, 1, 0, 159)], [(24, 11, 111, 0, 677, 523, 524, 116), (29, 11, 112, 0, 678, 538, 539, 116), (33, 1, 117, 1, 679, 570, 0, 116), (40, 11, 113, 0, 680, 550, 551, 116)], [])
def aC_RX1 : aCl := (RX1, [(9, 1, 0, 9, 304), (15, 1, 1, 9, 306), (18, 1, 2, 9, 308), (21, 1, 3, 9, 309), (24, 1, 4, 9, 310), (27, 1, 5, 0, 311), (31, 4, 9, 0, 423), (47, 4, 0, 9, 395), (50, 4, 1, 9, 399), (81, 4, 10, 0, 429)], [(36, 6, 46, 1, 939, 769, 770, 126), (40, 3, 5, 2, 940, 942, 20, 123), (53, 6, 56, 2, 966, 773, 774, 126), (57, 6, 57, 2, 967, 794, 795, 126), (61, 3, 3, 0, 954, 955, 956, 123), (66, 0, 0, 2, 973, 814, 815, 133), (71, 3, 7, 3, 962, 964, 24, 123), (75, 3, 9, 2, 968, 970, 25, 123), (78, 3, 8, 0, 950, 952, 22, 123), (84, 3, 10, 2, 958, 960, 23, 123), (87, 3, 4, 1, 935, 936, 937, 123), (91, 3, 11, 2, 946, 948, 21, 123), (94, 0, 7, 2, 981, 982, 983, 133), (97, 1, 13, 1, 978, 979, 0, 123), (101, 6, 47, 2, 1005, 726, 727, 126), (104, 3, 16, 3, 1006, 1008, 27, 123), (108, 6, 48, 3, 1010, 605, 606, 126), (112, 3, 17, 1, 993, 995, 26, 123), (115, 3, 20, 3, 1073, 1075, 37, 123), (118, 3, 6, 1, 1077, 1058, 1059, 123)], [(65, .int (1000000), 972), (44, .ref 1001, 0)])
def aC_RX2 : aCl := (RX2, [(9, 2, 1, 9, 333), (15, 2, 2, 9, 334), (18, 2, 3, 9, 335), (21, 2, 4, 9, 336), (24, 2, 5, 9, 337), (27, 2, 6, 9, 338), (30, 2, 7, 9, 339), (33, 2, 8, 9, 340), (36, 2, 0, 9, 332), (54, 4, 9, 0, 422), (68, 1, 5, 0, 312), (71, 1, 0, 9, 305), (74, 4, 8, 9, 418), (77, 4, 2, 9, 404), (80, 4, 4, 9, 409), (91, 4, 10, 0, 427), (114, 1, 1, 9, 307)], [(40, 3, 4, 1, 1019, 936, 937, 123), (46, 4, 22, 2, 1020, 1022, 28, 124), (50, 4, 24, 2, 1024, 1026, 29, 124), (60, 3, 6, 1, 1057, 1058, 1059, 123), (64, 4, 23, 4, 1061, 1063, 36, 124), (83, 3, 3, 0, 1028, 955, 956, 123), (87, 4, 25, 1, 1029, 1031, 30, 124), (94, 4, 27, 2, 1038, 1040, 32, 124), (97, 4, 28, 2, 1043, 1045, 33, 124), (100, 4, 30, 2, 1053, 1055, 35, 124), (104, 4, 26, 4, 1033, 1035, 31, 124), (108, 0, 0, 2, 1037, 814, 815, 133), (117, 6, 55, 3, 1042, 777, 778, 126), (121, 4, 29, 3, 1047, 1049, 34, 124), (124, 6, 57, 2, 1052, 794, 795, 126), (128, 0, 1, 2, 1051, 863, 864, 133)], [])
def aC_RX3 : aCl := (RX3, [(9, 3, 0, 9, 260), (15, 3, 1, 9, 261), (18, 3, 2, 9, 262), (21, 3, 3, 0, 263), (25, 4, 2, 9, 403)], [(30, 5, 33, 3, 1251, 1253, 50, 121), (34, 6, 55, 3, 1255, 777, 778, 126)], [])
def aC_RX4 : aCl := (RX4, [(9, 4, 0, 9, 394), (15, 4, 1, 9, 398), (18, 4, 2, 9, 402), (21, 4, 3, 9, 406), (24, 4, 4, 9, 408), (27, 4, 5, 9, 411), (30, 4, 6, 9, 414), (33, 4, 7, 9, 416), (36, 4, 8, 9, 417), (39, 4, 9, 0, 421), (43, 4, 10, 0, 426), (46, 4, 11, 0, 431)], [(49, 1, 283, 2, 530, 531, 0, 128), (55, 6, 42, 1, 713, 714, 715, 126), (59, 6, 47, 2, 760, 726, 727, 126), (63, 1, 53, 2, 761, 762, 0, 126), (66, 6, 55, 3, 776, 777, 778, 126), (70, 6, 56, 2, 792, 773, 774, 126), (73, 6, 57, 2, 793, 794, 795, 126), (77, 6, 58, 2, 788, 789, 790, 126), (80, 0, 0, 2, 813, 814, 815, 133), (85, 6, 61, 0, 805, 807, 15, 126), (89, 6, 60, 2, 809, 811, 16, 126), (92, 1, 282, 1, 836, 837, 0, 139), (98, 6, 63, 2, 842, 825, 826, 126), (101, 6, 46, 1, 851, 769, 770, 126), (104, 6, 59, 1, 852, 785, 786, 126), (107, 6, 67, 1, 878, 880, 17, 126), (110, 6, 68, 2, 883, 885, 18, 126), (114, 6, 69, 1, 887, 889, 19, 126), (118, 6, 44, 2, 882, 710, 711, 126), (127, 0, 1, 2, 902, 863, 864, 133)], [(121, .long (6364136223846793005), 899), (123, .long (1442695040888963407), 900), (125, .long (10), 901)])
def aC_RX5 : aCl := (RX5, [(9, 5, 0, 9, 366), (15, 5, 1, 9, 367), (18, 5, 2, 9, 368), (21, 5, 3, 9, 369), (24, 5, 4, 9, 370), (33, 5, 5, 0, 371), (37, 5, 6, 0, 372)], [(27, 0, 1, 2, 1138, 863, 864, 133), (44, 7, 74, 1, 1183, 1185, 46, 125), (48, 7, 76, 0, 1158, 1160, 43, 125), (51, 1, 283, 2, 1162, 531, 0, 128), (57, 7, 77, 1, 1171, 1172, 1173, 125), (61, 7, 78, 1, 1167, 1169, 45, 125), (64, 7, 81, 1, 1153, 1155, 42, 125), (67, 7, 79, 0, 1163, 1165, 44, 125)], [(40, .int (1000000), 1148), (41, .ref 1001, 0)])
def aC_RX6 : aCl := (RX6, [(9, 6, 1, 9, 192), (15, 6, 0, 9, 191), (24, 6, 2, 0, 194), (32, 9, 3, 0, 163), (43, 9, 1, 0, 156)], [(19, 11, 111, 0, 624, 523, 524, 116), (28, 8, 84, 0, 625, 627, 5, 118), (35, 11, 112, 0, 630, 538, 539, 116), (39, 11, 115, 1, 629, 577, 578, 116), (44, 8, 89, 1, 631, 633, 6, 118), (47, 1, 92, 1, 654, 655, 0, 118), (51, 8, 85, 2, 657, 659, 10, 118), (57, 8, 83, 1, 647, 649, 9, 118), (61, 8, 86, 2, 661, 663, 11, 118), (64, 11, 113, 0, 644, 550, 551, 116), (67, 8, 87, 2, 665, 667, 12, 118), (70, 8, 88, 2, 669, 671, 13, 118), (74, 11, 114, 0, 643, 546, 547, 116), (77, 8, 90, 1, 635, 637, 7, 118), (80, 8, 91, 1, 639, 641, 8, 118), (83, 1, 117, 1, 645, 570, 0, 116), (86, 11, 116, 3, 646, 565, 566, 116), (90, 1, 93, 1, 651, 652, 0, 118)], [])
def aC_RX7 : aCl := (RX7, [(13, 7, 0, 9, 211), (16, 7, 1, 9, 212), (20, 7, 2, 9, 213), (23, 7, 3, 9, 214), (26, 7, 4, 9, 215), (29, 7, 6, 0, 217), (63, 7, 5, 0, 216)], [(33, 0, 4, 5, 697, 698, 699, 134), (39, 1, 283, 2, 700, 531, 0, 128), (45, 9, 94, 1, 1100, 749, 750, 119), (49, 9, 98, 3, 1208, 1210, 48, 119), (53, 9, 99, 1, 1212, 1097, 1098, 119), (57, 0, 1, 2, 1101, 863, 864, 133), (66, 9, 102, 1, 1102, 1104, 39, 119), (70, 9, 103, 0, 1106, 1108, 40, 119), (74, 1, 100, 3, 1110, 1111, 0, 119), (78, 0, 0, 2, 1124, 814, 815, 133), (81, 1, 101, 3, 1113, 1114, 0, 119), (88, 0, 3, 2, 1118, 1119, 1120, 133), (91, 0, 2, 2, 1121, 1122, 1123, 133)], [(84, .long (-1000000), 1116), (86, .long (1000000), 1117)])
def aC_RX8 : aCl := (RX8, [(11, 8, 0, 9, 281), (16, 8, 1, 9, 282), (20, 8, 3, 0, 284), (24, 8, 4, 1, 286), (28, 8, 2, 0, 283)], [(31, 0, 4, 5, 861, 698, 699, 134), (37, 0, 1, 2, 862, 863, 864, 133)], [])
def aC_RX9 : aCl := (RX9, [(9, 9, 0, 9, 154), (15, 9, 1, 0, 158), (19, 9, 2, 0, 161), (22, 9, 3, 0, 164)], [(25, 11, 112, 0, 568, 538, 539, 116), (29, 11, 114, 0, 580, 546, 547, 116), (33, 11, 113, 0, 572, 550, 551, 116), (36, 1, 117, 1, 569, 570, 0, 116)], [])
def aC_RX10 : aCl := (RX10, [(9, 10, 0, 9, 181), (29, 9, 3, 0, 162), (45, 9, 1, 0, 157), (60, 4, 9, 0, 424), (92, 4, 0, 9, 396), (95, 4, 1, 9, 400), (98, 4, 8, 9, 419), (112, 4, 10, 0, 428), (118, 4, 5, 9, 412), (124, 4, 11, 0, 432)], [(15, 11, 111, 0, 522, 523, 524, 116), (20, 6, 34, 0, 526, 527, 528, 126), (25, 12, 119, 1, 533, 535, 0, 117), (33, 11, 112, 0, 537, 538, 539, 116), (37, 11, 115, 1, 576, 577, 578, 116), (41, 6, 40, 0, 616, 617, 618, 126), (48, 12, 120, 1, 541, 543, 1, 117), (51, 12, 124, 1, 596, 598, 3, 117), (54, 12, 125, 1, 608, 610, 4, 117), (57, 11, 114, 0, 545, 546, 547, 116), (63, 11, 113, 0, 549, 550, 551, 116), (66, 6, 35, 0, 553, 554, 555, 126), (73, 1, 121, 1, 559, 560, 0, 117), (80, 11, 116, 3, 564, 565, 566, 116), (84, 1, 122, 4, 573, 574, 0, 117), (88, 12, 123, 2, 581, 583, 2, 117), (101, 1, 126, 1, 585, 586, 0, 117), (104, 6, 36, 3, 588, 589, 590, 126), (108, 6, 37, 1, 592, 593, 594, 126), (115, 6, 38, 0, 600, 601, 602, 126), (121, 6, 48, 3, 604, 605, 606, 126), (127, 6, 39, 1, 612, 613, 614, 126)], [(69, .ref 1002, 557), (77, .ref 1003, 562)])
def aC_RX11 : aCl := (RX11, [(10, 11, 0, 9, 459), (21, 11, 1, 9, 460), (28, 11, 2, 9, 461), (35, 11, 3, 9, 462), (42, 11, 4, 9, 463), (49, 11, 5, 9, 464), (56, 11, 6, 9, 465), (63, 11, 7, 9, 466), (72, 11, 8, 9, 467), (79, 11, 9, 9, 468), (86, 11, 10, 3, 469), (90, 11, 11, 3, 470), (93, 11, 12, 0, 471), (101, 9, 1, 0, 155), (121, 7, 6, 0, 218), (124, 6, 1, 9, 193), (128, 6, 2, 0, 195), (132, 0, 2, 0, 246), (135, 3, 3, 0, 264), (139, 4, 9, 0, 425), (153, 4, 0, 9, 397), (156, 4, 1, 9, 401), (159, 4, 8, 9, 420), (162, 4, 2, 9, 405), (171, 4, 3, 9, 407), (174, 4, 4, 9, 410), (184, 4, 5, 9, 413), (197, 4, 6, 9, 415), (235, 8, 3, 0, 285), (299, 4, 10, 0, 430), (350, 0, 1, 9, 244), (353, 0, 0, 9, 242), (365, 4, 11, 0, 433)], [(97, 1, 109, 1, 503, 504, 0, 116), (104, 11, 110, 1, 506, 507, 508, 116), (108, 12, 118, 1, 518, 519, 520, 117), (112, 8, 82, 0, 620, 621, 622, 118), (115, 2, 1, 1, 673, 674, 675, 120), (118, 13, 131, 0, 685, 687, 14, 115), (129, 9, 95, 2, 693, 694, 695, 119), (133, 2, 2, 0, 701, 702, 703, 120), (136, 10, 104, 0, 689, 690, 691, 122), (142, 6, 42, 1, 1082, 714, 715, 126), (167, 6, 44, 2, 709, 710, 711, 126), (177, 6, 43, 1, 721, 722, 723, 126), (180, 6, 47, 2, 725, 726, 727, 126), (187, 6, 50, 1, 729, 730, 731, 126), (190, 6, 41, 0, 737, 738, 739, 126), (194, 1, 171, 1, 741, 742, 0, 115), (200, 9, 94, 1, 748, 749, 750, 119), (203, 6, 54, 3, 756, 757, 758, 126), (207, 6, 46, 1, 768, 769, 770, 126), (210, 6, 56, 2, 772, 773, 774, 126), (213, 6, 59, 1, 784, 785, 786, 126), (216, 6, 62, 1, 801, 802, 803, 126), (219, 6, 45, 1, 820, 821, 822, 126), (222, 6, 63, 2, 824, 825, 826, 126), (225, 6, 64, 1, 832, 833, 834, 126), (228, 6, 65, 0, 847, 848, 849, 126), (231, 10, 105, 1, 857, 858, 859, 122), (236, 6, 48, 3, 869, 605, 606, 126), (240, 6, 66, 0, 874, 875, 876, 126), (243, 6, 70, 1, 895, 896, 897, 126), (247, 10, 106, 1, 907, 908, 909, 122), (251, 10, 107, 1, 915, 916, 917, 122), (254, 10, 108, 1, 923, 924, 925, 122), (257, 3, 12, 1, 931, 932, 933, 123), (260, 3, 14, 2, 974, 975, 976, 123), (264, 1, 13, 1, 984, 979, 0, 123), (267, 3, 18, 3, 989, 990, 991, 123), (271, 3, 15, 2, 1001, 1002, 1003, 123), (274, 4, 21, 3, 1015, 1016, 1017, 124), (277, 3, 19, 3, 1069, 1070, 1071, 123), (280, 13, 156, 2, 1083, 1085, 38, 115), (284, 6, 49, 1, 1087, 1088, 1089, 126), (287, 0, 0, 2, 1091, 814, 815, 133), (292, 9, 96, 5, 1092, 1093, 1094, 119), (296, 9, 99, 1, 1096, 1097, 1098, 119), (302, 13, 159, 0, 1130, 1132, 41, 115), (305, 7, 80, 1, 1149, 1150, 1151, 125), (308, 7, 75, 1, 1179, 1180, 1181, 125), (311, 7, 77, 1, 1187, 1172, 1173, 125), (314, 7, 71, 1, 1134, 1135, 1136, 125), (317, 7, 72, 1, 1139, 1140, 1141, 125), (320, 6, 58, 2, 1143, 789, 790, 126), (323, 7, 73, 4, 1144, 1145, 1146, 125), (327, 2, 0, 1, 1192, 1193, 1194, 120), (328, 1, 166, 1, 1196, 1197, 0, 115), (334, 13, 165, 4, 1200, 1202, 47, 115), (338, 13, 160, 4, 1217, 1189, 1190, 115), (342, 13, 164, 3, 1222, 1224, 49, 115), (345, 1, 282, 1, 1230, 837, 0, 139), (357, 9, 97, 4, 1204, 1205, 1206, 119), (360, 5, 31, 3, 1239, 1240, 1241, 121), (362, 5, 32, 2, 1247, 1248, 1249, 121), (368, 6, 51, 1, 1260, 1261, 1262, 126), (371, 6, 52, 0, 1264, 1265, 1266, 126)], [(283, .int (-1000000), 1125), (331, .ref 1001, 1199)])
def aC_RX12 : aCl := (RX12, [(9, 12, 1, 9, 1352), (13, 12, 2, 9, 1353), (16, 12, 3, 9, 1354), (20, 12, 4, 9, 1355), (23, 12, 5, 3, 1356), (28, 12, 15, 9, 1366), (34, 12, 16, 9, 1367), (37, 12, 18, 9, 1369), (40, 12, 19, 9, 1370), (43, 12, 20, 9, 1371), (46, 12, 21, 9, 1372), (49, 12, 22, 9, 1373), (52, 12, 23, 9, 1374), (55, 12, 24, 9, 1375), (58, 12, 25, 9, 1376), (61, 12, 32, 9, 1383), (64, 12, 33, 9, 1384), (67, 12, 35, 9, 1386), (70, 12, 36, 0, 1387), (74, 12, 37, 9, 1388), (77, 12, 39, 9, 1390), (80, 12, 41, 9, 1392), (83, 12, 42, 9, 1393), (87, 12, 43, 9, 1394), (90, 12, 44, 9, 1395), (93, 12, 46, 9, 1397), (96, 12, 47, 9, 1398), (99, 12, 48, 9, 1399), (102, 12, 50, 9, 1401), (105, 12, 54, 9, 1405), (108, 12, 55, 9, 1406), (111, 12, 56, 9, 1407), (114, 12, 58, 9, 1409), (117, 12, 0, 0, 1351), (130, 12, 6, 0, 1357), (140, 12, 10, 0, 1361), (143, 12, 9, 0, 1360), (146, 12, 8, 0, 1359), (149, 12, 11, 0, 1362), (152, 12, 12, 0, 1363), (218, 12, 17, 1, 1368), (222, 12, 13, 0, 1364), (225, 12, 14, 0, 1365), (256, 12, 29, 0, 1380), (268, 12, 30, 0, 1381), (271, 12, 31, 0, 1382), (293, 12, 7, 0, 1358), (296, 12, 34, 0, 1385), (301, 12, 26, 0, 1377), (304, 12, 27, 0, 1378), (307, 12, 28, 0, 1379), (313, 12, 57, 0, 1408), (316, 12, 38, 0, 1389), (319, 12, 59, 1, 1410), (385, 12, 40, 2, 1391), (405, 12, 45, 0, 1396), (426, 12, 49, 0, 1400), (450, 12, 53, 0, 1404), (456, 12, 51, 0, 1402), (459, 12, 52, 0, 1403)], [(120, 0, 5, 0, 1592, 0, 1595, 129), (126, 0, 6, 1, 1602, 0, 1605, 129), (132, 1, 176, 1, 1541, 1542, 0, 127), (136, 14, 177, 1, 1544, 1546, 52, 127), (155, 14, 181, 0, 1576, 1578, 57, 127), (159, 14, 180, 0, 1572, 1574, 56, 127), (166, 0, 3, 2, 1709, 1119, 1120, 133), (172, 0, 2, 2, 1710, 1122, 1123, 133), (175, 1, 175, 2, 1669, 1670, 0, 127), (179, 14, 182, 0, 1700, 1702, 73, 127), (182, 14, 188, 0, 1688, 1690, 70, 127), (185, 14, 183, 1, 1672, 1674, 66, 127), (189, 14, 184, 0, 1647, 1649, 61, 127), (192, 14, 186, 0, 1696, 1698, 72, 127), (195, 1, 185, 1, 1704, 1705, 0, 127), (199, 14, 187, 0, 1692, 1694, 71, 127), (202, 1, 189, 1, 1711, 1712, 0, 127), (205, 14, 191, 0, 1714, 1716, 74, 127), (208, 14, 193, 2, 1676, 1678, 67, 127), (212, 14, 190, 2, 1684, 1686, 69, 127), (215, 14, 192, 2, 1680, 1682, 68, 127), (228, 14, 195, 3, 1564, 1566, 54, 127), (232, 14, 194, 0, 1665, 1667, 65, 127), (235, 14, 197, 0, 1651, 1653, 62, 127), (238, 1, 173, 3, 1557, 1558, 0, 127), (242, 1, 198, 2, 1589, 1590, 0, 127), (246, 1, 174, 2, 1640, 1641, 0, 127), (250, 14, 199, 4, 1643, 1645, 60, 127), (261, 14, 200, 4, 1585, 1587, 59, 127), (265, 14, 201, 1, 1655, 1657, 63, 127), (274, 14, 202, 0, 1580, 1582, 58, 127), (279, 14, 203, 0, 1568, 1570, 55, 127), (284, 14, 204, 0, 1560, 1562, 53, 127), (287, 14, 196, 3, 1661, 1663, 64, 127), (290, 14, 205, 0, 1718, 1720, 75, 127), (299, 14, 206, 1, 1726, 1553, 1554, 127), (310, 14, 210, 1, 1727, 1729, 76, 127), (322, 14, 208, 1, 1735, 1737, 77, 127), (327, 14, 211, 1, 1740, 1742, 78, 127), (330, 14, 209, 1, 1752, 1754, 79, 127), (335, 14, 213, 2, 1757, 1759, 80, 127), (341, 14, 214, 2, 1778, 1780, 82, 127), (344, 14, 215, 2, 1782, 1784, 83, 127), (347, 14, 221, 3, 1774, 1776, 81, 127), (351, 14, 223, 3, 1798, 1800, 86, 127), (354, 14, 212, 1, 1790, 1792, 84, 127), (357, 14, 224, 2, 1794, 1796, 85, 127), (360, 14, 225, 2, 1810, 1812, 88, 127), (363, 14, 227, 1, 1806, 1808, 87, 127), (366, 14, 230, 2, 1822, 1824, 89, 127), (369, 1, 282, 1, 1830, 837, 0, 139), (374, 14, 233, 0, 1835, 1837, 90, 127), (377, 14, 236, 1, 1852, 1854, 92, 127), (382, 14, 237, 0, 1848, 1850, 91, 127), (393, 14, 239, 1, 1860, 1862, 93, 127), (396, 0, 1, 2, 1866, 863, 864, 133), (398, 14, 243, 1, 1883, 1885, 96, 127), (401, 14, 244, 3, 1887, 1889, 97, 127), (408, 14, 246, 2, 1891, 1893, 98, 127), (412, 14, 242, 0, 1875, 1877, 94, 127), (415, 14, 245, 0, 1879, 1881, 95, 127), (418, 0, 0, 2, 1907, 814, 815, 133), (420, 14, 249, 0, 1899, 1901, 99, 127), (423, 14, 248, 3, 1903, 1905, 100, 127), (429, 14, 252, 2, 1917, 1919, 101, 127), (434, 14, 254, 2, 1925, 1927, 102, 127), (437, 14, 256, 1, 1937, 1939, 104, 127), (440, 14, 257, 2, 1933, 1935, 103, 127), (444, 14, 260, 1, 1946, 1948, 105, 127), (447, 14, 259, 1, 1950, 1952, 106, 127), (453, 14, 262, 0, 1962, 1964, 108, 127), (462, 14, 263, 2, 1958, 1960, 107, 127), (465, 1, 267, 1, 1978, 1979, 0, 127), (468, 14, 265, 1, 1970, 1972, 109, 127), (471, 14, 266, 1, 1974, 1976, 110, 127), (474, 14, 268, 4, 1981, 1983, 111, 127), (478, 14, 271, 3, 1993, 1995, 112, 127), (483, 14, 280, 2, 2030, 2032, 113, 127)], [(443, .int (-1000000), 1941), (162, .long (-1000000), 1707), (164, .long (1000000), 1708), (282, .long (2), 1556), (325, .long (8), 1739), (333, .long (6), 1756), (339, .long (4), 1765), (380, .long (99), 1847), (389, .long (6364136223846793005), 1864), (391, .long (1442695040888963407), 1865), (432, .long (12), 1916), (481, .long (-1), 2005), (26, .ref 2000, 1349), (32, .ref 2001, 1350), (259, .ref 2002, 1584), (254, .ref 2003, 1659), (277, .ref 2004, 1660)])
def aC_RJ6 : aCl := (RJ6, [], [], [(265, .int (1431655765), 839), (266, .int (858993459), 840), (267, .int (252645135), 841)])
def aC_RJ7 : aCl := (RJ7, [], [], [])
def aC_RL : aCl := (R_law, [], [(19, 13, 127, 5, 499, 500, 501, 115), (23, 14, 178, 5, 1537, 1538, 1539, 127), (24, 13, 128, 1, 510, 511, 512, 115), (28, 14, 179, 1, 1548, 1549, 1550, 127), (29, 13, 129, 1, 514, 515, 516, 115), (33, 14, 206, 1, 1552, 1553, 1554, 127), (34, 13, 130, 1, 681, 682, 683, 115), (37, 14, 207, 1, 1722, 1723, 1724, 127), (43, 14, 216, 2, 1731, 1732, 1733, 127), (44, 14, 172, 0, 1533, 1534, 1535, 127), (48, 13, 132, 3, 705, 706, 707, 115), (52, 14, 217, 3, 1744, 1745, 1746, 127), (53, 13, 133, 2, 717, 718, 719, 115), (56, 14, 218, 2, 1748, 1749, 1750, 127), (57, 13, 134, 1, 733, 734, 735, 115), (60, 14, 219, 1, 1761, 1762, 1763, 127), (61, 13, 135, 1, 744, 745, 746, 115), (64, 14, 220, 1, 1766, 1767, 1768, 127), (65, 13, 136, 3, 752, 753, 754, 115), (68, 14, 222, 3, 1770, 1771, 1772, 127), (69, 13, 137, 2, 764, 765, 766, 115), (72, 14, 226, 2, 1786, 1787, 1788, 127), (73, 13, 138, 1, 780, 781, 782, 115), (76, 14, 228, 1, 1802, 1803, 1804, 127), (77, 13, 139, 1, 797, 798, 799, 115), (80, 14, 229, 1, 1814, 1815, 1816, 127), (81, 13, 140, 2, 816, 817, 818, 115), (84, 14, 231, 2, 1818, 1819, 1820, 127), (85, 13, 141, 1, 828, 829, 830, 115), (88, 14, 232, 1, 1826, 1827, 1828, 127), (89, 13, 143, 2, 853, 854, 855, 115), (92, 14, 234, 2, 1831, 1832, 1833, 127), (93, 13, 144, 2, 865, 866, 867, 115), (96, 14, 235, 2, 1839, 1840, 1841, 127), (97, 13, 145, 1, 870, 871, 872, 115), (100, 14, 238, 1, 1843, 1844, 1845, 127), (103, 13, 146, 1, 891, 892, 893, 115), (107, 14, 240, 1, 1856, 1857, 1858, 127), (108, 13, 147, 0, 903, 904, 905, 115), (111, 14, 241, 0, 1867, 1868, 1869, 127), (112, 13, 150, 1, 927, 928, 929, 115), (115, 14, 247, 1, 1871, 1872, 1873, 127), (116, 13, 151, 2, 985, 986, 987, 115), (119, 14, 250, 2, 1895, 1896, 1897, 127), (120, 13, 152, 1, 997, 998, 999, 115), (123, 14, 251, 1, 1908, 1909, 1910, 127), (124, 13, 153, 2, 1011, 1012, 1013, 115), (127, 14, 253, 2, 1912, 1913, 1914, 127), (128, 13, 154, 2, 1065, 1066, 1067, 115), (131, 14, 255, 2, 1921, 1922, 1923, 127), (132, 13, 155, 2, 1078, 1079, 1080, 115), (135, 14, 258, 2, 1929, 1930, 1931, 127), (136, 13, 157, 1, 1126, 1127, 1128, 115), (139, 14, 264, 1, 1954, 1955, 1956, 127), (140, 13, 158, 2, 1175, 1176, 1177, 115), (143, 14, 261, 2, 1942, 1943, 1944, 127), (144, 13, 160, 4, 1188, 1189, 1190, 115), (148, 14, 269, 4, 1966, 1967, 1968, 127), (149, 13, 161, 3, 1213, 1214, 1215, 115), (152, 14, 270, 3, 1985, 1986, 1987, 127), (153, 13, 162, 3, 1218, 1219, 1220, 115), (156, 14, 272, 3, 1989, 1990, 1991, 127), (157, 13, 163, 3, 1226, 1227, 1228, 115), (160, 14, 273, 3, 1997, 1998, 1999, 127), (161, 13, 168, 3, 1235, 1236, 1237, 115), (164, 14, 275, 3, 2006, 2007, 2008, 127), (165, 13, 169, 1, 1243, 1244, 1245, 115), (168, 14, 276, 1, 2010, 2011, 2012, 127), (169, 13, 142, 0, 843, 844, 845, 115), (172, 14, 277, 0, 2014, 2015, 2016, 127), (173, 13, 167, 2, 1231, 1232, 1233, 115), (176, 14, 274, 2, 2001, 2002, 2003, 127), (177, 13, 148, 0, 911, 912, 913, 115), (180, 14, 278, 0, 2018, 2019, 2020, 127), (181, 13, 149, 0, 919, 920, 921, 115), (184, 14, 279, 0, 2022, 2023, 2024, 127), (185, 13, 170, 1, 1256, 1257, 1258, 115), (188, 14, 281, 1, 2026, 2027, 2028, 127)], [(101, .long (4294967295), 2034)])
def aL_X0_has : List (Nat × Instr × Nat) := [(0, .iload_n 1, 1), (1, .ifCond .lt 15, 3), (4, .iload_n 1, 1), (5, .aload_n 0, 1), (6, .getfield 20, 3), (9, .if_icmp .ge 7, 3), (12, .iconst 1, 1), (13, .goto 4, 3), (16, .iconst 0, 1), (17, .ireturn, 1)]
def aM_X0_has : aM := (yX0_has, cX0_has, 2, (some .boolean), aC_RX0, aL_X0_has, 1195)
def aL_X0_read : List (Nat × Instr × Nat) := [(0, .aload_n 1, 1), (1, .invokevirtual 24, 3), (4, .iconst 0, 1), (5, .istore_n 2, 1), (6, .iconst 0, 1), (7, .istore_n 3, 1), (8, .iload_n 3, 1), (9, .sipush 240, 3), (12, .if_icmp .gt 66, 3), (15, .aload_n 1, 1), (16, .invokevirtual 29, 3), (19, .istore 4, 2), (21, .iload 4, 2), (23, .iconst (-1), 1), (24, .if_icmp .ne 6, 3), (27, .goto 51, 3), (30, .iload 4, 2), (32, .invokestatic 33, 3), (35, .ifCond .eq 9, 3), (38, .iload_n 2, 1), (39, .bipush 12, 2), (41, .if_icmp .lt 8, 3), (44, .aload_n 1, 1), (45, .getfield 37, 3), (48, .ireturn, 1), (49, .aload_n 0, 1), (50, .getfield 11, 3), (53, .aload_n 0, 1), (54, .getfield 20, 3), (57, .aaload, 1), (58, .iload_n 2, 1), (59, .iload 4, 2), (61, .bipush 48, 2), (63, .isub, 1), (64, .iastore, 1), (65, .iinc 2 1, 3), (68, .aload_n 1, 1), (69, .invokevirtual 40, 3), (72, .iinc 3 1, 3), (75, .goto (-67), 3), (78, .aload_n 0, 1), (79, .getfield 16, 3), (82, .aload_n 0, 1), (83, .getfield 20, 3), (86, .iload_n 2, 1), (87, .iastore, 1), (88, .iload_n 2, 1), (89, .ifCond .ne 10, 3), (92, .aload_n 1, 1), (93, .getfield 43, 3), (96, .goto 4, 3), (99, .iconst (-1), 1), (100, .ireturn, 1)]
def aM_X0_read : aM := (yX0_read, cX0_read, 5, (some .int), aC_RX0, aL_X0_read, 676)
def aL_X0_add : List (Nat × Instr × Nat) := [(0, .aload_n 0, 1), (1, .dup, 1), (2, .getfield 20, 3), (5, .iconst 1, 1), (6, .iadd, 1), (7, .putfield 20, 3), (10, .aload_n 0, 1), (11, .getfield 20, 3), (14, .iconst 1, 1), (15, .isub, 1), (16, .ireturn, 1)]
def aM_X0_add : aM := (yX0_add, cX0_add, 1, (some .int), aC_RX0, aL_X0_add, 704)
def aL_X1_full : List (Nat × Instr × Nat) := [(0, .iconst 1, 1), (1, .aload_n 0, 1), (2, .getfield 27, 3), (5, .ishl, 1), (6, .iconst 1, 1), (7, .isub, 1), (8, .ireturn, 1)]
def aM_X1_full : aM := (yX1_full, cX1_full, 1, (some .int), aC_RX1, aL_X1_full, 957)
def aL_X1_lineUp : List (Nat × Instr × Nat) := [(0, .aload_n 0, 1), (1, .iconst 0, 1), (2, .putfield 27, 3), (5, .iconst 0, 1), (6, .istore_n 2, 1), (7, .iload_n 2, 1), (8, .aload_n 1, 1), (9, .getfield 31, 3), (12, .if_icmp .ge 23, 3), (15, .aload_n 1, 1), (16, .iload_n 2, 1), (17, .invokevirtual 36, 3), (20, .ifCond .eq 9, 3), (23, .aload_n 0, 1), (24, .aload_n 1, 1), (25, .iload_n 2, 1), (26, .invokevirtual 40, 3), (29, .iinc 2 1, 3), (32, .goto (-25), 3), (35, .aload_n 0, 1), (36, .getfield 15, 3), (39, .iconst 0, 1), (40, .iconst 0, 1), (41, .iastore, 1), (42, .aload_n 0, 1), (43, .getfield 18, 3), (46, .iconst 0, 1), (47, .iconst 0, 1), (48, .iastore, 1), (49, .iconst 0, 1), (50, .istore_n 2, 1), (51, .iload_n 2, 1), (52, .aload_n 0, 1), (53, .getfield 27, 3), (56, .if_icmp .ge 94, 3), (59, .iconst 1, 1), (60, .iload_n 2, 1), (61, .ishl, 1), (62, .istore_n 3, 1), (63, .getstatic 44, 3), (66, .aload_n 1, 1), (67, .getfield 31, 3), (70, .iconst 1, 1), (71, .isub, 1), (72, .aload_n 0, 1), (73, .getfield 9, 3), (76, .iload_n 2, 1), (77, .iaload, 1), (78, .isub, 1), (79, .iaload, 1), (80, .istore 4, 2), (82, .iconst 0, 1), (83, .istore 5, 2), (85, .iload 5, 2), (87, .iload_n 3, 1), (88, .if_icmp .ge 56, 3), (91, .aload_n 0, 1), (92, .getfield 15, 3), (95, .iload_n 3, 1), (96, .iload 5, 2), (98, .iadd, 1), (99, .aload_n 0, 1), (100, .getfield 15, 3), (103, .iload 5, 2), (105, .iaload, 1), (106, .aload_n 1, 1), (107, .getfield 47, 3), (110, .aload_n 0, 1), (111, .getfield 9, 3), (114, .iload_n 2, 1), (115, .iaload, 1), (116, .iaload, 1), (117, .iadd, 1), (118, .iastore, 1), (119, .aload_n 0, 1), (120, .getfield 18, 3), (123, .iload_n 3, 1), (124, .iload 5, 2), (126, .iadd, 1), (127, .aload_n 0, 1), (128, .getfield 18, 3), (131, .iload 5, 2), (133, .iaload, 1), (134, .iload 4, 2), (136, .iadd, 1), (137, .iastore, 1), (138, .iinc 5 1, 3), (141, .goto (-56), 3), (144, .iinc 2 1, 3), (147, .goto (-96), 3), (150, .return_, 1)]
def aM_X1_lineUp : aM := (yX1_lineUp, cX1_lineUp, 6, none, aC_RX1, aL_X1_lineUp, 938)
def aL_X1_putInOrder : List (Nat × Instr × Nat) := [(0, .aload_n 0, 1), (1, .getfield 27, 3), (4, .istore_n 3, 1), (5, .iload_n 3, 1), (6, .ifCond .le 45, 3), (9, .aload_n 1, 1), (10, .getfield 50, 3), (13, .aload_n 0, 1), (14, .getfield 9, 3), (17, .iload_n 3, 1), (18, .iconst 1, 1), (19, .isub, 1), (20, .iaload, 1), (21, .iaload, 1), (22, .aload_n 1, 1), (23, .getfield 50, 3), (26, .iload_n 2, 1), (27, .iaload, 1), (28, .if_icmp .le 23, 3), (31, .aload_n 0, 1), (32, .getfield 9, 3), (35, .iload_n 3, 1), (36, .aload_n 0, 1), (37, .getfield 9, 3), (40, .iload_n 3, 1), (41, .iconst 1, 1), (42, .isub, 1), (43, .iaload, 1), (44, .iastore, 1), (45, .iinc 3 (-1), 3), (48, .goto (-43), 3), (51, .aload_n 0, 1), (52, .getfield 9, 3), (55, .iload_n 3, 1), (56, .iload_n 2, 1), (57, .iastore, 1), (58, .aload_n 0, 1), (59, .dup, 1), (60, .getfield 27, 3), (63, .iconst 1, 1), (64, .iadd, 1), (65, .putfield 27, 3), (68, .return_, 1)]
def aM_X1_putInOrder : aM := (yX1_putInOrder, cX1_putInOrder, 4, none, aC_RX1, aL_X1_putInOrder, 943)
def aL_X1_placeOf : List (Nat × Instr × Nat) := [(0, .iconst 0, 1), (1, .istore_n 2, 1), (2, .iload_n 2, 1), (3, .aload_n 0, 1), (4, .getfield 27, 3), (7, .if_icmp .ge 21, 3), (10, .aload_n 0, 1), (11, .getfield 9, 3), (14, .iload_n 2, 1), (15, .iaload, 1), (16, .iload_n 1, 1), (17, .if_icmp .ne 5, 3), (20, .iload_n 2, 1), (21, .ireturn, 1), (22, .iinc 2 1, 3), (25, .goto (-23), 3), (28, .iconst (-1), 1), (29, .ireturn, 1)]
def aM_X1_placeOf : aM := (yX1_placeOf, cX1_placeOf, 3, (some .int), aC_RX1, aL_X1_placeOf, 1060)
def aL_X1_spanSets : List (Nat × Instr × Nat) := [(0, .aload_n 0, 1), (1, .getfield 21, 3), (4, .iconst 0, 1), (5, .iload_n 3, 1), (6, .iastore, 1), (7, .iconst 0, 1), (8, .istore 4, 2), (10, .iload 4, 2), (12, .aload_n 0, 1), (13, .getfield 27, 3), (16, .if_icmp .ge 109, 3), (19, .aload_n 0, 1), (20, .getfield 9, 3), (23, .iload 4, 2), (25, .iaload, 1), (26, .istore 5, 2), (28, .aload_n 1, 1), (29, .iload_n 2, 1), (30, .iload 5, 2), (32, .invokevirtual 53, 3), (35, .istore 6, 2), (37, .iconst 1, 1), (38, .iload 4, 2), (40, .ishl, 1), (41, .istore 7, 2), (43, .iconst 0, 1), (44, .istore 8, 2), (46, .iload 8, 2), (48, .iload 7, 2), (50, .if_icmp .ge 69, 3), (53, .iload 6, 2), (55, .iconst (-1), 1), (56, .if_icmp .eq 14, 3), (59, .aload_n 0, 1), (60, .getfield 21, 3), (63, .iload 8, 2), (65, .iaload, 1), (66, .iconst (-1), 1), (67, .if_icmp .ne 7, 3), (70, .iconst (-1), 1), (71, .goto 13, 3), (74, .aload_n 0, 1), (75, .getfield 21, 3), (78, .iload 8, 2), (80, .iaload, 1), (81, .iload 6, 2), (83, .iadd, 1), (84, .istore 9, 2), (86, .aload_n 0, 1), (87, .getfield 21, 3), (90, .iload 7, 2), (92, .iload 8, 2), (94, .iadd, 1), (95, .aload_n 1, 1), (96, .iload 5, 2), (98, .iload 9, 2), (100, .invokevirtual 57, 3), (103, .ifCond .eq 8, 3), (106, .iload 9, 2), (108, .goto 4, 3), (111, .iconst (-1), 1), (112, .iastore, 1), (113, .iinc 8 1, 3), (116, .goto (-70), 3), (119, .iinc 4 1, 3), (122, .goto (-112), 3), (125, .return_, 1)]
def aM_X1_spanSets : aM := (yX1_spanSets, cX1_spanSets, 10, none, aC_RX1, aL_X1_spanSets, 965)
def aL_X1_dealNothing : List (Nat × Instr × Nat) := [(0, .iconst 0, 1), (1, .istore_n 1, 1), (2, .iload_n 1, 1), (3, .aload_n 0, 1), (4, .invokevirtual 61, 3), (7, .if_icmp .gt 24, 3), (10, .aload_n 0, 1), (11, .getfield 24, 3), (14, .iload_n 1, 1), (15, .bipush (-9), 2), (17, .aload_n 0, 1), (18, .getfield 18, 3), (21, .iload_n 1, 1), (22, .iaload, 1), (23, .imul, 1), (24, .iastore, 1), (25, .iinc 1 1, 3), (28, .goto (-26), 3), (31, .return_, 1)]
def aM_X1_dealNothing : aM := (yX1_dealNothing, cX1_dealNothing, 2, none, aC_RX1, aL_X1_dealNothing, 953)
def aL_X1_shareOf : List (Nat × Instr × Nat) := [(0, .aload_n 0, 1), (1, .getfield 24, 3), (4, .iload_n 2, 1), (5, .iaload, 1), (6, .istore_n 3, 1), (7, .iload_n 2, 1), (8, .istore 4, 2), (10, .iload 4, 2), (12, .ifCond .le 64, 3), (15, .aload_n 0, 1), (16, .getfield 21, 3), (19, .iload 4, 2), (21, .iaload, 1), (22, .iconst (-1), 1), (23, .if_icmp .eq 42, 3), (26, .aload_n 0, 1), (27, .getfield 15, 3), (30, .iload 4, 2), (32, .iaload, 1), (33, .ldc 65, 2), (35, .imul, 1), (36, .iload_n 1, 1), (37, .aload_n 0, 1), (38, .getfield 18, 3), (41, .iload 4, 2), (43, .iaload, 1), (44, .imul, 1), (45, .isub, 1), (46, .aload_n 0, 1), (47, .getfield 24, 3), (50, .iload_n 2, 1), (51, .iload 4, 2), (53, .ixor, 1), (54, .iaload, 1), (55, .iadd, 1), (56, .istore 5, 2), (58, .iload_n 3, 1), (59, .iload 5, 2), (61, .invokestatic 66, 3), (64, .istore_n 3, 1), (65, .iload 4, 2), (67, .iconst 1, 1), (68, .isub, 1), (69, .iload_n 2, 1), (70, .iand, 1), (71, .istore 4, 2), (73, .goto (-63), 3), (76, .iload_n 3, 1), (77, .ireturn, 1)]
def aM_X1_shareOf : aM := (yX1_shareOf, cX1_shareOf, 6, (some .int), aC_RX1, aL_X1_shareOf, 971)
def aL_X1_dealTo : List (Nat × Instr × Nat) := [(0, .aload_n 0, 1), (1, .aload_n 1, 1), (2, .iload_n 2, 1), (3, .iconst 0, 1), (4, .invokevirtual 71, 3), (7, .aload_n 0, 1), (8, .invokevirtual 61, 3), (11, .istore_n 3, 1), (12, .iload_n 3, 1), (13, .ifCond .le 21, 3), (16, .aload_n 0, 1), (17, .getfield 24, 3), (20, .iload_n 3, 1), (21, .aload_n 0, 1), (22, .iload_n 2, 1), (23, .iload_n 3, 1), (24, .invokevirtual 75, 3), (27, .iastore, 1), (28, .iinc 3 (-1), 3), (31, .goto (-19), 3), (34, .return_, 1)]
def aM_X1_dealTo : aM := (yX1_dealTo, cX1_dealTo, 4, none, aC_RX1, aL_X1_dealTo, 961)
def aL_X1_dealToAllBut : List (Nat × Instr × Nat) := [(0, .aload_n 0, 1), (1, .invokevirtual 78, 3), (4, .iconst 0, 1), (5, .istore_n 3, 1), (6, .iload_n 3, 1), (7, .aload_n 1, 1), (8, .getfield 81, 3), (11, .if_icmp .ge 20, 3), (14, .iload_n 3, 1), (15, .iload_n 2, 1), (16, .if_icmp .eq 9, 3), (19, .aload_n 0, 1), (20, .aload_n 1, 1), (21, .iload_n 3, 1), (22, .invokevirtual 84, 3), (25, .iinc 3 1, 3), (28, .goto (-22), 3), (31, .return_, 1)]
def aM_X1_dealToAllBut : aM := (yX1_dealToAllBut, cX1_dealToAllBut, 4, none, aC_RX1, aL_X1_dealToAllBut, 949)
def aL_X1_dealAll : List (Nat × Instr × Nat) := [(0, .aload_n 0, 1), (1, .aload_n 1, 1), (2, .invokevirtual 87, 3), (5, .aload_n 0, 1), (6, .aload_n 1, 1), (7, .iconst (-1), 1), (8, .invokevirtual 91, 3), (11, .aload_n 0, 1), (12, .getfield 24, 3), (15, .aload_n 0, 1), (16, .invokevirtual 61, 3), (19, .iaload, 1), (20, .ireturn, 1)]
def aM_X1_dealAll : aM := (yX1_dealAll, cX1_dealAll, 2, (some .int), aC_RX1, aL_X1_dealAll, 934)
def aL_X1_valuesOf : List (Nat × Instr × Nat) := [(0, .iload_n 0, 1), (1, .ldc 65, 2), (3, .iadd, 1), (4, .iconst 1, 1), (5, .isub, 1), (6, .ldc 65, 2), (8, .invokestatic 94, 3), (11, .ireturn, 1)]
def aM_X1_valuesOf : aM := (yX1_valuesOf, cX1_valuesOf, 1, (some .int), aC_RX1, aL_X1_valuesOf, 980)
def aL_X1_digitsOf : List (Nat × Instr × Nat) := [(0, .iload_n 2, 1), (1, .invokestatic 97, 3), (4, .ldc 65, 2), (6, .imul, 1), (7, .iload_n 2, 1), (8, .isub, 1), (9, .istore_n 3, 1), (10, .iconst 0, 1), (11, .istore 4, 2), (13, .iload 4, 2), (15, .aload_n 1, 1), (16, .getfield 31, 3), (19, .if_icmp .ge 37, 3), (22, .aload_n 1, 1), (23, .iload 4, 2), (25, .invokevirtual 36, 3), (28, .ifCond .ne 22, 3), (31, .iload_n 3, 1), (32, .bipush 9, 2), (34, .getstatic 44, 3), (37, .aload_n 1, 1), (38, .getfield 31, 3), (41, .iconst 1, 1), (42, .isub, 1), (43, .iload 4, 2), (45, .isub, 1), (46, .iaload, 1), (47, .imul, 1), (48, .iadd, 1), (49, .istore_n 3, 1), (50, .iinc 4 1, 3), (53, .goto (-40), 3), (56, .iload_n 3, 1), (57, .ireturn, 1)]
def aM_X1_digitsOf : aM := (yX1_digitsOf, cX1_digitsOf, 5, (some .int), aC_RX1, aL_X1_digitsOf, 977)
def aL_X1_learnBest : List (Nat × Instr × Nat) := [(0, .aload_n 0, 1), (1, .aload_n 1, 1), (2, .invokevirtual 87, 3), (5, .iconst (-1), 1), (6, .istore_n 3, 1), (7, .iconst (-1), 1), (8, .istore 4, 2), (10, .iconst 0, 1), (11, .istore 5, 2), (13, .iload 5, 2), (15, .aload_n 1, 1), (16, .getfield 81, 3), (19, .if_icmp .ge 74, 3), (22, .aload_n 0, 1), (23, .aload_n 1, 1), (24, .iload 5, 2), (26, .invokevirtual 91, 3), (29, .iconst 0, 1), (30, .istore 6, 2), (32, .iload 6, 2), (34, .iconst 5, 1), (35, .if_icmp .ge 52, 3), (38, .aload_n 1, 1), (39, .iload 5, 2), (41, .iload 6, 2), (43, .invokevirtual 101, 3), (46, .bipush 9, 2), (48, .if_icmp .ge 33, 3), (51, .aload_n 0, 1), (52, .aload_n 1, 1), (53, .iload 5, 2), (55, .iload 6, 2), (57, .invokevirtual 104, 3), (60, .istore 7, 2), (62, .iload 7, 2), (64, .iload_n 3, 1), (65, .if_icmp .le 16, 3), (68, .iload 7, 2), (70, .istore_n 3, 1), (71, .iload 5, 2), (73, .bipush 10, 2), (75, .imul, 1), (76, .iload 6, 2), (78, .iadd, 1), (79, .istore 4, 2), (81, .iinc 6 1, 3), (84, .goto (-52), 3), (87, .iinc 5 1, 3), (90, .goto (-77), 3), (93, .iload_n 2, 1), (94, .ifCond .ne 8, 3), (97, .iload 4, 2), (99, .goto 4, 3), (102, .iload_n 3, 1), (103, .ireturn, 1)]
def aM_X1_learnBest : aM := (yX1_learnBest, cX1_learnBest, 8, (some .int), aC_RX1, aL_X1_learnBest, 1004)
def aL_X1_valuesLearnt : List (Nat × Instr × Nat) := [(0, .aload_n 1, 1), (1, .iload_n 2, 1), (2, .iload_n 3, 1), (3, .iconst 1, 1), (4, .invokevirtual 108, 3), (7, .aload_n 0, 1), (8, .aload_n 1, 1), (9, .iload_n 2, 1), (10, .iconst 0, 1), (11, .invokevirtual 71, 3), (14, .aload_n 1, 1), (15, .iload_n 2, 1), (16, .iload_n 3, 1), (17, .iconst (-1), 1), (18, .invokevirtual 108, 3), (21, .aload_n 0, 1), (22, .iload_n 2, 1), (23, .aload_n 0, 1), (24, .invokevirtual 61, 3), (27, .invokevirtual 75, 3), (30, .invokestatic 97, 3), (33, .ireturn, 1)]
def aM_X1_valuesLearnt : aM := (yX1_valuesLearnt, cX1_valuesLearnt, 4, (some .int), aC_RX1, aL_X1_valuesLearnt, 1009)
def aL_X1_mostWithin : List (Nat × Instr × Nat) := [(0, .iconst 0, 1), (1, .istore_n 2, 1), (2, .iload_n 1, 1), (3, .istore_n 3, 1), (4, .iload_n 3, 1), (5, .ifCond .le 33, 3), (8, .aload_n 0, 1), (9, .getfield 21, 3), (12, .iload_n 3, 1), (13, .iaload, 1), (14, .iconst (-1), 1), (15, .if_icmp .eq 14, 3), (18, .iload_n 2, 1), (19, .aload_n 0, 1), (20, .getfield 15, 3), (23, .iload_n 3, 1), (24, .iaload, 1), (25, .invokestatic 66, 3), (28, .istore_n 2, 1), (29, .iload_n 3, 1), (30, .iconst 1, 1), (31, .isub, 1), (32, .iload_n 1, 1), (33, .iand, 1), (34, .istore_n 3, 1), (35, .goto (-31), 3), (38, .iload_n 2, 1), (39, .ireturn, 1)]
def aM_X1_mostWithin : aM := (yX1_mostWithin, cX1_mostWithin, 4, (some .int), aC_RX1, aL_X1_mostWithin, 996)
def aL_X1_mostAlone : List (Nat × Instr × Nat) := [(0, .aload_n 0, 1), (1, .aload_n 1, 1), (2, .invokevirtual 87, 3), (5, .aload_n 0, 1), (6, .aload_n 1, 1), (7, .iload_n 2, 1), (8, .iconst 0, 1), (9, .invokevirtual 71, 3), (12, .iconst 0, 1), (13, .istore 4, 2), (15, .iconst 0, 1), (16, .istore 5, 2), (18, .iload 5, 2), (20, .aload_n 0, 1), (21, .getfield 27, 3), (24, .if_icmp .ge 33, 3), (27, .iload_n 3, 1), (28, .aload_n 0, 1), (29, .getfield 9, 3), (32, .iload 5, 2), (34, .iaload, 1), (35, .ishr, 1), (36, .iconst 1, 1), (37, .iand, 1), (38, .iconst 1, 1), (39, .if_icmp .ne 12, 3), (42, .iload 4, 2), (44, .iconst 1, 1), (45, .iload 5, 2), (47, .ishl, 1), (48, .ior, 1), (49, .istore 4, 2), (51, .iinc 5 1, 3), (54, .goto (-36), 3), (57, .aload_n 0, 1), (58, .iload 4, 2), (60, .invokevirtual 112, 3), (63, .ireturn, 1)]
def aM_X1_mostAlone : aM := (yX1_mostAlone, cX1_mostAlone, 6, (some .int), aC_RX1, aL_X1_mostAlone, 992)
def aL_X1_spiteOn : List (Nat × Instr × Nat) := [(0, .aload_n 0, 1), (1, .aload_n 1, 1), (2, .invokevirtual 87, 3), (5, .iconst (-1), 1), (6, .istore 4, 2), (8, .iconst (-1), 1), (9, .istore 5, 2), (11, .iconst 0, 1), (12, .istore 6, 2), (14, .iload 6, 2), (16, .aload_n 1, 1), (17, .getfield 31, 3), (20, .if_icmp .ge 49, 3), (23, .aload_n 1, 1), (24, .iload 6, 2), (26, .invokevirtual 36, 3), (29, .ifCond .eq 34, 3), (32, .aload_n 0, 1), (33, .aload_n 1, 1), (34, .iload_n 2, 1), (35, .iload 6, 2), (37, .invokevirtual 115, 3), (40, .istore 7, 2), (42, .iload 5, 2), (44, .iconst (-1), 1), (45, .if_icmp .eq 10, 3), (48, .iload 7, 2), (50, .iload 4, 2), (52, .if_icmp .ge 11, 3), (55, .iload 7, 2), (57, .istore 4, 2), (59, .iload 6, 2), (61, .istore 5, 2), (63, .iinc 6 1, 3), (66, .goto (-52), 3), (69, .iload_n 3, 1), (70, .ifCond .ne 8, 3), (73, .iload 5, 2), (75, .goto 5, 3), (78, .iload 4, 2), (80, .ireturn, 1)]
def aM_X1_spiteOn : aM := (yX1_spiteOn, cX1_spiteOn, 8, (some .int), aC_RX1, aL_X1_spiteOn, 1072)
def aL_X1_valuesBehind : List (Nat × Instr × Nat) := [(0, .aload_n 1, 1), (1, .iload_n 2, 1), (2, .iload_n 3, 1), (3, .invokevirtual 53, 3), (6, .istore 4, 2), (8, .aload_n 0, 1), (9, .iload_n 3, 1), (10, .invokevirtual 118, 3), (13, .istore 5, 2), (15, .iload 4, 2), (17, .iconst (-1), 1), (18, .if_icmp .eq 9, 3), (21, .iload 5, 2), (23, .iconst (-1), 1), (24, .if_icmp .ne 5, 3), (27, .iconst 0, 1), (28, .ireturn, 1), (29, .aload_n 0, 1), (30, .aload_n 1, 1), (31, .iload_n 2, 1), (32, .iload 4, 2), (34, .invokevirtual 71, 3), (37, .aload_n 0, 1), (38, .aload_n 0, 1), (39, .invokevirtual 61, 3), (42, .iconst 1, 1), (43, .iload 5, 2), (45, .ishl, 1), (46, .iconst (-1), 1), (47, .ixor, 1), (48, .iand, 1), (49, .invokevirtual 112, 3), (52, .istore 6, 2), (54, .aload_n 1, 1), (55, .iload_n 3, 1), (56, .iload 4, 2), (58, .invokevirtual 57, 3), (61, .ifCond .eq 15, 3), (64, .iload 6, 2), (66, .aload_n 1, 1), (67, .getfield 47, 3), (70, .iload_n 3, 1), (71, .iaload, 1), (72, .iadd, 1), (73, .goto 5, 3), (76, .iload 6, 2), (78, .ireturn, 1)]
def aM_X1_valuesBehind : aM := (yX1_valuesBehind, cX1_valuesBehind, 7, (some .int), aC_RX1, aL_X1_valuesBehind, 1076)
def aL_X2_beginBest : List (Nat × Instr × Nat) := [(0, .aload_n 0, 1), (1, .getfield 36, 3), (4, .aload_n 1, 1), (5, .invokevirtual 40, 3), (8, .aload_n 0, 1), (9, .aload_n 1, 1), (10, .iload_n 2, 1), (11, .invokevirtual 46, 3), (14, .aload_n 0, 1), (15, .aload_n 1, 1), (16, .iload_n 2, 1), (17, .invokevirtual 50, 3), (20, .istore 4, 2), (22, .iload_n 3, 1), (23, .iconst 1, 1), (24, .if_icmp .eq 14, 3), (27, .aload_n 0, 1), (28, .aload_n 1, 1), (29, .iconst 0, 1), (30, .invokevirtual 50, 3), (33, .iload 4, 2), (35, .if_icmp .ne 15, 3), (38, .iload_n 3, 1), (39, .iconst 1, 1), (40, .if_icmp .ne 8, 3), (43, .iload 4, 2), (45, .goto 4, 3), (48, .iconst 0, 1), (49, .ireturn, 1), (50, .iconst 0, 1), (51, .istore 5, 2), (53, .iconst 0, 1), (54, .istore 6, 2), (56, .iload 6, 2), (58, .aload_n 1, 1), (59, .getfield 54, 3), (62, .if_icmp .ge 48, 3), (65, .aload_n 0, 1), (66, .getfield 36, 3), (69, .iload 6, 2), (71, .invokevirtual 60, 3), (74, .istore 7, 2), (76, .iload 5, 2), (78, .bipush 10, 2), (80, .imul, 1), (81, .iload 7, 2), (83, .iconst (-1), 1), (84, .if_icmp .ne 7, 3), (87, .iconst 0, 1), (88, .goto 13, 3), (91, .aload_n 0, 1), (92, .aload_n 1, 1), (93, .iload_n 2, 1), (94, .iload 7, 2), (96, .iload 4, 2), (98, .invokevirtual 64, 3), (101, .iadd, 1), (102, .istore 5, 2), (104, .iinc 6 1, 3), (107, .goto (-51), 3), (110, .iload 5, 2), (112, .ireturn, 1)]
def aM_X2_beginBest : aM := (yX2_beginBest, cX2_beginBest, 8, (some .int), aC_RX2, aL_X2_beginBest, 1018)
def aL_X2_openRanges : List (Nat × Instr × Nat) := [(0, .iconst 0, 1), (1, .istore_n 3, 1), (2, .iload_n 3, 1), (3, .aload_n 0, 1), (4, .getfield 36, 3), (7, .getfield 68, 3), (10, .if_icmp .ge 164, 3), (13, .aload_n 0, 1), (14, .getfield 36, 3), (17, .getfield 71, 3), (20, .iload_n 3, 1), (21, .iaload, 1), (22, .istore 4, 2), (24, .aload_n 1, 1), (25, .getfield 74, 3), (28, .iconst 0, 1), (29, .iload 4, 2), (31, .iadd, 1), (32, .iaload, 1), (33, .istore 5, 2), (35, .aload_n 0, 1), (36, .getfield 18, 3), (39, .iload_n 3, 1), (40, .aload_n 1, 1), (41, .getfield 77, 3), (44, .iload 4, 2), (46, .iaload, 1), (47, .iload 5, 2), (49, .isub, 1), (50, .iastore, 1), (51, .aload_n 0, 1), (52, .getfield 9, 3), (55, .iload_n 3, 1), (56, .iconst 0, 1), (57, .iastore, 1), (58, .aload_n 0, 1), (59, .getfield 15, 3), (62, .iload_n 3, 1), (63, .iconst 0, 1), (64, .iastore, 1), (65, .aload_n 0, 1), (66, .getfield 21, 3), (69, .iload_n 3, 1), (70, .bipush 9, 2), (72, .imul, 1), (73, .iconst 0, 1), (74, .iastore, 1), (75, .iconst 1, 1), (76, .istore 6, 2), (78, .iload 6, 2), (80, .aload_n 0, 1), (81, .getfield 18, 3), (84, .iload_n 3, 1), (85, .iaload, 1), (86, .if_icmp .gt 82, 3), (89, .aload_n 1, 1), (90, .getfield 80, 3), (93, .iload 4, 2), (95, .bipush 8, 2), (97, .imul, 1), (98, .iload 5, 2), (100, .iadd, 1), (101, .iload 6, 2), (103, .iadd, 1), (104, .iconst 1, 1), (105, .isub, 1), (106, .iaload, 1), (107, .istore 7, 2), (109, .aload_n 0, 1), (110, .getfield 21, 3), (113, .iload_n 3, 1), (114, .bipush 9, 2), (116, .imul, 1), (117, .iload 6, 2), (119, .iadd, 1), (120, .aload_n 0, 1), (121, .getfield 21, 3), (124, .iload_n 3, 1), (125, .bipush 9, 2), (127, .imul, 1), (128, .iload 6, 2), (130, .iadd, 1), (131, .iconst 1, 1), (132, .isub, 1), (133, .iaload, 1), (134, .iload 7, 2), (136, .iadd, 1), (137, .iastore, 1), (138, .aload_n 0, 1), (139, .getfield 21, 3), (142, .iload_n 3, 1), (143, .bipush 9, 2), (145, .imul, 1), (146, .iload 6, 2), (148, .iadd, 1), (149, .iaload, 1), (150, .iload_n 2, 1), (151, .if_icmp .gt 11, 3), (154, .aload_n 0, 1), (155, .getfield 15, 3), (158, .iload_n 3, 1), (159, .iload 6, 2), (161, .iastore, 1), (162, .iinc 6 1, 3), (165, .goto (-87), 3), (168, .iinc 3 1, 3), (171, .goto (-169), 3), (174, .return_, 1)]
def aM_X2_openRanges : aM := (yX2_openRanges, cX2_openRanges, 8, none, aC_RX2, aL_X2_openRanges, 1023)
def aL_X2_cutRange : List (Nat × Instr × Nat) := [(0, .aload_n 0, 1), (1, .getfield 15, 3), (4, .iload_n 3, 1), (5, .iaload, 1), (6, .istore 5, 2), (8, .aload_n 0, 1), (9, .getfield 9, 3), (12, .iload_n 3, 1), (13, .iaload, 1), (14, .istore 6, 2), (16, .iload 6, 2), (18, .iload 5, 2), (20, .if_icmp .ge 39, 3), (23, .aload_n 0, 1), (24, .getfield 9, 3), (27, .iload_n 3, 1), (28, .iload 6, 2), (30, .iastore, 1), (31, .aload_n 0, 1), (32, .getfield 15, 3), (35, .iload_n 3, 1), (36, .iload 6, 2), (38, .iastore, 1), (39, .aload_n 0, 1), (40, .aload_n 1, 1), (41, .iload_n 2, 1), (42, .invokevirtual 50, 3), (45, .iload 4, 2), (47, .if_icmp .ne 6, 3), (50, .iload 6, 2), (52, .ireturn, 1), (53, .iinc 6 1, 3), (56, .goto (-40), 3), (59, .aload_n 0, 1), (60, .getfield 9, 3), (63, .iload_n 3, 1), (64, .iload 5, 2), (66, .iastore, 1), (67, .aload_n 0, 1), (68, .getfield 15, 3), (71, .iload_n 3, 1), (72, .iload 5, 2), (74, .iastore, 1), (75, .iload 5, 2), (77, .ireturn, 1)]
def aM_X2_cutRange : aM := (yX2_cutRange, cX2_cutRange, 7, (some .int), aC_RX2, aL_X2_cutRange, 1064)
def aL_X2_mostBegun : List (Nat × Instr × Nat) := [(0, .aload_n 0, 1), (1, .getfield 36, 3), (4, .invokevirtual 83, 3), (7, .istore_n 3, 1), (8, .aload_n 0, 1), (9, .iload_n 2, 1), (10, .invokevirtual 87, 3), (13, .iconst 0, 1), (14, .istore 4, 2), (16, .iload 4, 2), (18, .aload_n 1, 1), (19, .getfield 91, 3), (22, .if_icmp .ge 63, 3), (25, .aload_n 0, 1), (26, .aload_n 1, 1), (27, .iload 4, 2), (29, .invokevirtual 94, 3), (32, .aload_n 0, 1), (33, .aload_n 1, 1), (34, .iload_n 2, 1), (35, .invokevirtual 97, 3), (38, .iload 4, 2), (40, .aload_n 1, 1), (41, .getfield 91, 3), (44, .iconst 1, 1), (45, .isub, 1), (46, .if_icmp .ne 7, 3), (49, .iload_n 3, 1), (50, .goto 4, 3), (53, .iconst 1, 1), (54, .istore 5, 2), (56, .iload_n 3, 1), (57, .istore 6, 2), (59, .iload 6, 2), (61, .iload 5, 2), (63, .if_icmp .lt 16, 3), (66, .aload_n 0, 1), (67, .iload 6, 2), (69, .iload_n 2, 1), (70, .invokevirtual 100, 3), (73, .iinc 6 (-1), 3), (76, .goto (-17), 3), (79, .iinc 4 1, 3), (82, .goto (-66), 3), (85, .aload_n 0, 1), (86, .getfield 33, 3), (89, .iload_n 3, 1), (90, .bipush 13, 2), (92, .imul, 1), (93, .iload_n 2, 1), (94, .iadd, 1), (95, .iaload, 1), (96, .ireturn, 1)]
def aM_X2_mostBegun : aM := (yX2_mostBegun, cX2_mostBegun, 7, (some .int), aC_RX2, aL_X2_mostBegun, 1027)
def aL_X2_dealNothing : List (Nat × Instr × Nat) := [(0, .iconst 0, 1), (1, .istore_n 2, 1), (2, .iload_n 2, 1), (3, .iload_n 1, 1), (4, .if_icmp .gt 16, 3), (7, .aload_n 0, 1), (8, .getfield 33, 3), (11, .iload_n 2, 1), (12, .iconst 0, 1), (13, .iastore, 1), (14, .iinc 2 1, 3), (17, .goto (-15), 3), (20, .iconst 0, 1), (21, .istore_n 2, 1), (22, .iload_n 2, 1), (23, .aload_n 0, 1), (24, .getfield 36, 3), (27, .getfield 68, 3), (30, .if_icmp .ge 118, 3), (33, .iconst 1, 1), (34, .iload_n 2, 1), (35, .ishl, 1), (36, .istore_n 3, 1), (37, .iconst 0, 1), (38, .istore 4, 2), (40, .iload 4, 2), (42, .iload_n 3, 1), (43, .if_icmp .ge 99, 3), (46, .iconst 0, 1), (47, .istore 5, 2), (49, .iload 5, 2), (51, .iload_n 1, 1), (52, .if_icmp .gt 84, 3), (55, .aload_n 0, 1), (56, .iload_n 2, 1), (57, .aload_n 0, 1), (58, .getfield 9, 3), (61, .iload_n 2, 1), (62, .iaload, 1), (63, .iload 4, 2), (65, .iload 5, 2), (67, .invokevirtual 104, 3), (70, .istore 6, 2), (72, .aload_n 0, 1), (73, .getfield 15, 3), (76, .iload_n 2, 1), (77, .iaload, 1), (78, .aload_n 0, 1), (79, .getfield 18, 3), (82, .iload_n 2, 1), (83, .iaload, 1), (84, .if_icmp .ne 21, 3), (87, .aload_n 0, 1), (88, .iload_n 2, 1), (89, .aload_n 0, 1), (90, .getfield 18, 3), (93, .iload_n 2, 1), (94, .iaload, 1), (95, .iload 4, 2), (97, .iload 5, 2), (99, .invokevirtual 104, 3), (102, .goto 4, 3), (105, .iconst (-1), 1), (106, .istore 7, 2), (108, .aload_n 0, 1), (109, .getfield 33, 3), (112, .iload_n 3, 1), (113, .iload 4, 2), (115, .iadd, 1), (116, .bipush 13, 2), (118, .imul, 1), (119, .iload 5, 2), (121, .iadd, 1), (122, .iload 6, 2), (124, .iload 7, 2), (126, .invokestatic 108, 3), (129, .iastore, 1), (130, .iinc 5 1, 3), (133, .goto (-84), 3), (136, .iinc 4 1, 3), (139, .goto (-99), 3), (142, .iinc 2 1, 3), (145, .goto (-123), 3), (148, .return_, 1)]
def aM_X2_dealNothing : aM := (yX2_dealNothing, cX2_dealNothing, 8, none, aC_RX2, aL_X2_dealNothing, 1032)
def aL_X2_undealt : List (Nat × Instr × Nat) := [(0, .iload 4, 2), (2, .aload_n 0, 1), (3, .getfield 21, 3), (6, .iload_n 1, 1), (7, .bipush 9, 2), (9, .imul, 1), (10, .iload_n 2, 1), (11, .iadd, 1), (12, .iaload, 1), (13, .isub, 1), (14, .istore 5, 2), (16, .iload 5, 2), (18, .ifCond .lt 19, 3), (21, .aload_n 0, 1), (22, .getfield 33, 3), (25, .iload_n 3, 1), (26, .bipush 13, 2), (28, .imul, 1), (29, .iload 5, 2), (31, .iadd, 1), (32, .iaload, 1), (33, .iconst (-1), 1), (34, .if_icmp .ne 5, 3), (37, .iconst (-1), 1), (38, .ireturn, 1), (39, .aload_n 0, 1), (40, .getfield 33, 3), (43, .iload_n 3, 1), (44, .bipush 13, 2), (46, .imul, 1), (47, .iload 5, 2), (49, .iadd, 1), (50, .iaload, 1), (51, .iload_n 2, 1), (52, .aload_n 0, 1), (53, .getfield 18, 3), (56, .iload_n 1, 1), (57, .iaload, 1), (58, .if_icmp .ne 17, 3), (61, .aload_n 0, 1), (62, .getfield 36, 3), (65, .getfield 114, 3), (68, .iconst 1, 1), (69, .iload_n 1, 1), (70, .ishl, 1), (71, .iaload, 1), (72, .goto 4, 3), (75, .iconst 0, 1), (76, .iadd, 1), (77, .ireturn, 1)]
def aM_X2_undealt : aM := (yX2_undealt, cX2_undealt, 6, (some .int), aC_RX2, aL_X2_undealt, 1036)
def aL_X2_findDays : List (Nat × Instr × Nat) := [(0, .iconst 0, 1), (1, .istore_n 3, 1), (2, .iload_n 3, 1), (3, .aload_n 0, 1), (4, .getfield 36, 3), (7, .getfield 68, 3), (10, .if_icmp .ge 107, 3), (13, .aload_n 0, 1), (14, .getfield 36, 3), (17, .getfield 71, 3), (20, .iload_n 3, 1), (21, .iaload, 1), (22, .istore 4, 2), (24, .aload_n 1, 1), (25, .getfield 74, 3), (28, .iconst 0, 1), (29, .iload 4, 2), (31, .iadd, 1), (32, .iaload, 1), (33, .istore 5, 2), (35, .aload_n 0, 1), (36, .getfield 9, 3), (39, .iload_n 3, 1), (40, .iaload, 1), (41, .istore 6, 2), (43, .iload 6, 2), (45, .aload_n 0, 1), (46, .getfield 15, 3), (49, .iload_n 3, 1), (50, .iaload, 1), (51, .if_icmp .gt 60, 3), (54, .iload 6, 2), (56, .aload_n 0, 1), (57, .getfield 18, 3), (60, .iload_n 3, 1), (61, .iaload, 1), (62, .if_icmp .ne 7, 3), (65, .iconst 1, 1), (66, .goto 4, 3), (69, .iconst 0, 1), (70, .istore 7, 2), (72, .aload_n 0, 1), (73, .getfield 24, 3), (76, .iload_n 3, 1), (77, .bipush 9, 2), (79, .imul, 1), (80, .iload 6, 2), (82, .iadd, 1), (83, .iload 7, 2), (85, .ifCond .eq 7, 3), (88, .iconst (-1), 1), (89, .goto 15, 3), (92, .aload_n 1, 1), (93, .iload_n 2, 1), (94, .iload 4, 2), (96, .iload 5, 2), (98, .iload 6, 2), (100, .iadd, 1), (101, .invokevirtual 117, 3), (104, .iastore, 1), (105, .iinc 6 1, 3), (108, .goto (-65), 3), (111, .iinc 3 1, 3), (114, .goto (-112), 3), (117, .return_, 1)]
def aM_X2_findDays : aM := (yX2_findDays, cX2_findDays, 8, none, aC_RX2, aL_X2_findDays, 1041)
def aL_X2_findPrices : List (Nat × Instr × Nat) := [(0, .iconst 0, 1), (1, .istore_n 3, 1), (2, .iload_n 3, 1), (3, .iload_n 2, 1), (4, .if_icmp .gt 16, 3), (7, .aload_n 0, 1), (8, .getfield 27, 3), (11, .iload_n 3, 1), (12, .iconst 0, 1), (13, .iastore, 1), (14, .iinc 3 1, 3), (17, .goto (-15), 3), (20, .aload_n 0, 1), (21, .getfield 30, 3), (24, .iconst 0, 1), (25, .iconst 0, 1), (26, .iastore, 1), (27, .iconst 0, 1), (28, .istore_n 3, 1), (29, .iload_n 3, 1), (30, .aload_n 0, 1), (31, .getfield 36, 3), (34, .getfield 68, 3), (37, .if_icmp .ge 162, 3), (40, .iconst 1, 1), (41, .iload_n 3, 1), (42, .ishl, 1), (43, .istore 4, 2), (45, .iconst 0, 1), (46, .istore 5, 2), (48, .iload 5, 2), (50, .iload 4, 2), (52, .if_icmp .ge 141, 3), (55, .iload 4, 2), (57, .iload 5, 2), (59, .iadd, 1), (60, .istore 6, 2), (62, .aload_n 0, 1), (63, .getfield 30, 3), (66, .iload 6, 2), (68, .iconst (-1), 1), (69, .iastore, 1), (70, .aload_n 0, 1), (71, .getfield 30, 3), (74, .iload 5, 2), (76, .iaload, 1), (77, .iconst (-1), 1), (78, .if_icmp .eq 7, 3), (81, .iconst 1, 1), (82, .goto 4, 3), (85, .iconst 0, 1), (86, .istore 7, 2), (88, .iload_n 2, 1), (89, .istore 8, 2), (91, .iload 8, 2), (93, .ifCond .lt 94, 3), (96, .iload 7, 2), (98, .ifCond .eq 15, 3), (101, .aload_n 0, 1), (102, .iload_n 3, 1), (103, .iload 5, 2), (105, .iload 8, 2), (107, .invokevirtual 121, 3), (110, .goto 4, 3), (113, .iconst (-1), 1), (114, .istore 9, 2), (116, .aload_n 1, 1), (117, .aload_n 0, 1), (118, .getfield 36, 3), (121, .getfield 71, 3), (124, .iload_n 3, 1), (125, .iaload, 1), (126, .iload 9, 2), (128, .invokevirtual 124, 3), (131, .istore 7, 2), (133, .aload_n 0, 1), (134, .getfield 27, 3), (137, .iload 6, 2), (139, .bipush 13, 2), (141, .imul, 1), (142, .iload 8, 2), (144, .iadd, 1), (145, .iload 7, 2), (147, .ifCond .eq 8, 3), (150, .iload 9, 2), (152, .goto 4, 3), (155, .iconst (-1), 1), (156, .iastore, 1), (157, .aload_n 0, 1), (158, .getfield 30, 3), (161, .iload 6, 2), (163, .iload 7, 2), (165, .ifCond .eq 8, 3), (168, .iload 8, 2), (170, .goto 10, 3), (173, .aload_n 0, 1), (174, .getfield 30, 3), (177, .iload 6, 2), (179, .iaload, 1), (180, .iastore, 1), (181, .iinc 8 (-1), 3), (184, .goto (-93), 3), (187, .iinc 5 1, 3), (190, .goto (-142), 3), (193, .iinc 3 1, 3), (196, .goto (-167), 3), (199, .return_, 1)]
def aM_X2_findPrices : aM := (yX2_findPrices, cX2_findPrices, 10, none, aC_RX2, aL_X2_findPrices, 1046)
def aL_X2_quickestBy : List (Nat × Instr × Nat) := [(0, .iconst (-1), 1), (1, .istore 4, 2), (3, .aload_n 0, 1), (4, .getfield 9, 3), (7, .iload_n 1, 1), (8, .iaload, 1), (9, .istore 5, 2), (11, .iload 5, 2), (13, .aload_n 0, 1), (14, .getfield 15, 3), (17, .iload_n 1, 1), (18, .iaload, 1), (19, .if_icmp .gt 103, 3), (22, .iload_n 3, 1), (23, .aload_n 0, 1), (24, .getfield 21, 3), (27, .iload_n 1, 1), (28, .bipush 9, 2), (30, .imul, 1), (31, .iload 5, 2), (33, .iadd, 1), (34, .iaload, 1), (35, .isub, 1), (36, .istore 6, 2), (38, .aload_n 0, 1), (39, .getfield 24, 3), (42, .iload_n 1, 1), (43, .bipush 9, 2), (45, .imul, 1), (46, .iload 5, 2), (48, .iadd, 1), (49, .iaload, 1), (50, .istore 7, 2), (52, .iload 6, 2), (54, .ifCond .lt 62, 3), (57, .iload 7, 2), (59, .iconst (-1), 1), (60, .if_icmp .eq 56, 3), (63, .aload_n 0, 1), (64, .getfield 27, 3), (67, .iload_n 2, 1), (68, .bipush 13, 2), (70, .imul, 1), (71, .iload 6, 2), (73, .iadd, 1), (74, .iaload, 1), (75, .iconst (-1), 1), (76, .if_icmp .eq 40, 3), (79, .aload_n 0, 1), (80, .getfield 27, 3), (83, .iload_n 2, 1), (84, .bipush 13, 2), (86, .imul, 1), (87, .iload 6, 2), (89, .iadd, 1), (90, .iaload, 1), (91, .iload 7, 2), (93, .iadd, 1), (94, .istore 8, 2), (96, .iload 4, 2), (98, .iconst (-1), 1), (99, .if_icmp .ne 8, 3), (102, .iload 8, 2), (104, .goto 10, 3), (107, .iload 4, 2), (109, .iload 8, 2), (111, .invokestatic 128, 3), (114, .istore 4, 2), (116, .iinc 5 1, 3), (119, .goto (-108), 3), (122, .iload 4, 2), (124, .ireturn, 1)]
def aM_X2_quickestBy : aM := (yX2_quickestBy, cX2_quickestBy, 9, (some .int), aC_RX2, aL_X2_quickestBy, 1050)
def aL_X2_shareOut : List (Nat × Instr × Nat) := [(0, .iload_n 1, 1), (1, .istore_n 3, 1), (2, .iload_n 3, 1), (3, .ifCond .le 120, 3), (6, .aload_n 0, 1), (7, .getfield 30, 3), (10, .iload_n 3, 1), (11, .iaload, 1), (12, .iconst (-1), 1), (13, .if_icmp .eq 101, 3), (16, .iload_n 1, 1), (17, .bipush 13, 2), (19, .imul, 1), (20, .istore 4, 2), (22, .iload_n 1, 1), (23, .iload_n 3, 1), (24, .ixor, 1), (25, .bipush 13, 2), (27, .imul, 1), (28, .aload_n 0, 1), (29, .getfield 30, 3), (32, .iload_n 3, 1), (33, .iaload, 1), (34, .isub, 1), (35, .istore 5, 2), (37, .aload_n 0, 1), (38, .getfield 30, 3), (41, .iload_n 3, 1), (42, .iaload, 1), (43, .istore 6, 2), (45, .iload 6, 2), (47, .iload_n 2, 1), (48, .if_icmp .gt 66, 3), (51, .aload_n 0, 1), (52, .getfield 33, 3), (55, .iload 5, 2), (57, .iload 6, 2), (59, .iadd, 1), (60, .iaload, 1), (61, .iconst (-1), 1), (62, .if_icmp .eq 46, 3), (65, .aload_n 0, 1), (66, .getfield 33, 3), (69, .iload 4, 2), (71, .iload 6, 2), (73, .iadd, 1), (74, .aload_n 0, 1), (75, .getfield 33, 3), (78, .iload 4, 2), (80, .iload 6, 2), (82, .iadd, 1), (83, .iaload, 1), (84, .aload_n 0, 1), (85, .getfield 33, 3), (88, .iload 5, 2), (90, .iload 6, 2), (92, .iadd, 1), (93, .iaload, 1), (94, .aload_n 0, 1), (95, .getfield 36, 3), (98, .getfield 114, 3), (101, .iload_n 3, 1), (102, .iaload, 1), (103, .iadd, 1), (104, .invokestatic 108, 3), (107, .iastore, 1), (108, .iinc 6 1, 3), (111, .goto (-66), 3), (114, .iload_n 3, 1), (115, .iconst 1, 1), (116, .isub, 1), (117, .iload_n 1, 1), (118, .iand, 1), (119, .istore_n 3, 1), (120, .goto (-118), 3), (123, .return_, 1)]
def aM_X2_shareOut : aM := (yX2_shareOut, cX2_shareOut, 7, none, aC_RX2, aL_X2_shareOut, 1056)
def aL_X3_add : List (Nat × Instr × Nat) := [(0, .aload_n 0, 1), (1, .getfield 21, 3), (4, .bipush 12, 2), (6, .if_icmp .lt 5, 3), (9, .iconst (-1), 1), (10, .ireturn, 1), (11, .aload_n 0, 1), (12, .getfield 9, 3), (15, .aload_n 0, 1), (16, .getfield 21, 3), (19, .iload_n 1, 1), (20, .iastore, 1), (21, .aload_n 0, 1), (22, .getfield 15, 3), (25, .aload_n 0, 1), (26, .getfield 21, 3), (29, .iload_n 2, 1), (30, .iastore, 1), (31, .aload_n 0, 1), (32, .getfield 18, 3), (35, .aload_n 0, 1), (36, .getfield 21, 3), (39, .iload_n 3, 1), (40, .iastore, 1), (41, .aload_n 0, 1), (42, .dup, 1), (43, .getfield 21, 3), (46, .iconst 1, 1), (47, .iadd, 1), (48, .putfield 21, 3), (51, .aload_n 0, 1), (52, .getfield 21, 3), (55, .ireturn, 1)]
def aM_X3_add : aM := (yX3_add, cX3_add, 4, (some .int), aC_RX3, aL_X3_add, 1242)
def aL_X3_doneOf : List (Nat × Instr × Nat) := [(0, .iconst 0, 1), (1, .istore_n 3, 1), (2, .iconst 0, 1), (3, .istore 4, 2), (5, .iload 4, 2), (7, .aload_n 1, 1), (8, .getfield 25, 3), (11, .iload_n 2, 1), (12, .iaload, 1), (13, .if_icmp .gt 27, 3), (16, .aload_n 0, 1), (17, .aload_n 1, 1), (18, .iload_n 2, 1), (19, .iload 4, 2), (21, .invokevirtual 30, 3), (24, .ifCond .eq 10, 3), (27, .iload_n 3, 1), (28, .iconst 1, 1), (29, .iload 4, 2), (31, .ishl, 1), (32, .ior, 1), (33, .istore_n 3, 1), (34, .iinc 4 1, 3), (37, .goto (-32), 3), (40, .iload_n 3, 1), (41, .ireturn, 1)]
def aM_X3_doneOf : aM := (yX3_doneOf, cX3_doneOf, 5, (some .int), aC_RX3, aL_X3_doneOf, 1250)
def aL_X3_isSo : List (Nat × Instr × Nat) := [(0, .iconst 0, 1), (1, .istore 4, 2), (3, .iload 4, 2), (5, .aload_n 0, 1), (6, .getfield 21, 3), (9, .if_icmp .ge 45, 3), (12, .aload_n 0, 1), (13, .getfield 9, 3), (16, .iload 4, 2), (18, .iaload, 1), (19, .iload_n 2, 1), (20, .if_icmp .ne 28, 3), (23, .aload_n 1, 1), (24, .aload_n 0, 1), (25, .getfield 15, 3), (28, .iload 4, 2), (30, .iaload, 1), (31, .iload_n 2, 1), (32, .iload_n 3, 1), (33, .invokevirtual 34, 3), (36, .aload_n 0, 1), (37, .getfield 18, 3), (40, .iload 4, 2), (42, .iaload, 1), (43, .if_icmp .eq 5, 3), (46, .iconst 0, 1), (47, .ireturn, 1), (48, .iinc 4 1, 3), (51, .goto (-48), 3), (54, .iconst 1, 1), (55, .ireturn, 1)]
def aM_X3_isSo : aM := (yX3_isSo, cX3_isSo, 5, (some .boolean), aC_RX3, aL_X3_isSo, 1254)
def aL_X4_clear : List (Nat × Instr × Nat) := [(0, .aload_n 0, 1), (1, .iconst 0, 1), (2, .putfield 39, 3), (5, .aload_n 0, 1), (6, .iconst 0, 1), (7, .putfield 43, 3), (10, .aload_n 0, 1), (11, .iconst 0, 1), (12, .putfield 46, 3), (15, .aload_n 0, 1), (16, .getfield 30, 3), (19, .iconst 0, 1), (20, .invokestatic 49, 3), (23, .aload_n 0, 1), (24, .getfield 36, 3), (27, .iconst 0, 1), (28, .invokestatic 49, 3), (31, .return_, 1)]
def aM_X4_clear : aM := (yX4_clear, cX4_clear, 1, none, aC_RX4, aL_X4_clear, 529)
def aL_X4_addThing : List (Nat × Instr × Nat) := [(0, .aload_n 0, 1), (1, .getfield 39, 3), (4, .istore_n 1, 1), (5, .aload_n 0, 1), (6, .dup, 1), (7, .getfield 39, 3), (10, .iconst 1, 1), (11, .iadd, 1), (12, .putfield 39, 3), (15, .aload_n 0, 1), (16, .getfield 9, 3), (19, .iload_n 1, 1), (20, .bipush 10, 2), (22, .iastore, 1), (23, .aload_n 0, 1), (24, .getfield 15, 3), (27, .iload_n 1, 1), (28, .bipush 30, 2), (30, .iastore, 1), (31, .aload_n 0, 1), (32, .getfield 18, 3), (35, .iload_n 1, 1), (36, .iconst 0, 1), (37, .iastore, 1), (38, .aload_n 0, 1), (39, .getfield 36, 3), (42, .bipush 12, 2), (44, .iload_n 1, 1), (45, .iadd, 1), (46, .iconst (-1), 1), (47, .iastore, 1), (48, .aload_n 0, 1), (49, .getfield 36, 3), (52, .bipush 24, 2), (54, .iload_n 1, 1), (55, .iadd, 1), (56, .iconst (-1), 1), (57, .iastore, 1), (58, .aload_n 0, 1), (59, .getfield 36, 3), (62, .bipush 30, 2), (64, .iload_n 1, 1), (65, .iadd, 1), (66, .iconst (-1), 1), (67, .iastore, 1), (68, .iload_n 1, 1), (69, .ireturn, 1)]
def aM_X4_addThing : aM := (yX4_addThing, cX4_addThing, 2, (some .int), aC_RX4, aL_X4_addThing, 556)
def aL_X4_addStep : List (Nat × Instr × Nat) := [(0, .iload_n 1, 1), (1, .bipush 8, 2), (3, .imul, 1), (4, .aload_n 0, 1), (5, .getfield 18, 3), (8, .iload_n 1, 1), (9, .iaload, 1), (10, .iadd, 1), (11, .istore 4, 2), (13, .aload_n 0, 1), (14, .getfield 21, 3), (17, .iload 4, 2), (19, .iload_n 2, 1), (20, .iastore, 1), (21, .aload_n 0, 1), (22, .getfield 24, 3), (25, .iload 4, 2), (27, .iload_n 3, 1), (28, .iastore, 1), (29, .aload_n 0, 1), (30, .getfield 18, 3), (33, .iload_n 1, 1), (34, .dup2, 1), (35, .iaload, 1), (36, .iconst 1, 1), (37, .iadd, 1), (38, .iastore, 1), (39, .return_, 1)]
def aM_X4_addStep : aM := (yX4_addStep, cX4_addStep, 5, none, aC_RX4, aL_X4_addStep, 591)
def aL_X4_settle : List (Nat × Instr × Nat) := [(0, .aload_n 0, 1), (1, .getfield 36, 3), (4, .iconst 0, 1), (5, .iload_n 1, 1), (6, .iadd, 1), (7, .iaload, 1), (8, .aload_n 0, 1), (9, .getfield 18, 3), (12, .iload_n 1, 1), (13, .iaload, 1), (14, .if_icmp .ne 23, 3), (17, .aload_n 0, 1), (18, .getfield 36, 3), (21, .bipush 18, 2), (23, .iload_n 1, 1), (24, .iadd, 1), (25, .iconst 1, 1), (26, .iastore, 1), (27, .aload_n 0, 1), (28, .getfield 36, 3), (31, .bipush 24, 2), (33, .iload_n 1, 1), (34, .iadd, 1), (35, .iconst 0, 1), (36, .iastore, 1), (37, .return_, 1)]
def aM_X4_settle : aM := (yX4_settle, cX4_settle, 2, none, aC_RX4, aL_X4_settle, 595)
def aL_X4_addHeir : List (Nat × Instr × Nat) := [(0, .aload_n 0, 1), (1, .getfield 43, 3), (4, .istore_n 1, 1), (5, .aload_n 0, 1), (6, .dup, 1), (7, .getfield 43, 3), (10, .iconst 1, 1), (11, .iadd, 1), (12, .putfield 43, 3), (15, .aload_n 0, 1), (16, .getfield 27, 3), (19, .iload_n 1, 1), (20, .iconst 0, 1), (21, .iastore, 1), (22, .iload_n 1, 1), (23, .ireturn, 1)]
def aM_X4_addHeir : aM := (yX4_addHeir, cX4_addHeir, 2, (some .int), aC_RX4, aL_X4_addHeir, 603)
def aL_X4_addTool : List (Nat × Instr × Nat) := [(0, .aload_n 0, 1), (1, .getfield 30, 3), (4, .iload_n 1, 1), (5, .dup2, 1), (6, .iaload, 1), (7, .iconst 1, 1), (8, .iadd, 1), (9, .iastore, 1), (10, .aload_n 0, 1), (11, .dup, 1), (12, .getfield 46, 3), (15, .iconst 1, 1), (16, .iadd, 1), (17, .putfield 46, 3), (20, .return_, 1)]
def aM_X4_addTool : aM := (yX4_addTool, cX4_addTool, 2, none, aC_RX4, aL_X4_addTool, 615)
def aL_X4_isWhole : List (Nat × Instr × Nat) := [(0, .iconst 0, 1), (1, .istore_n 1, 1), (2, .iload_n 1, 1), (3, .aload_n 0, 1), (4, .getfield 39, 3), (7, .if_icmp .ge 28, 3), (10, .aload_n 0, 1), (11, .getfield 36, 3), (14, .iconst 0, 1), (15, .iload_n 1, 1), (16, .iadd, 1), (17, .iaload, 1), (18, .aload_n 0, 1), (19, .getfield 18, 3), (22, .iload_n 1, 1), (23, .iaload, 1), (24, .if_icmp .le 5, 3), (27, .iconst 0, 1), (28, .ireturn, 1), (29, .iinc 1 1, 3), (32, .goto (-30), 3), (35, .aload_n 0, 1), (36, .getfield 39, 3), (39, .ifCond .le 14, 3), (42, .aload_n 0, 1), (43, .getfield 43, 3), (46, .ifCond .le 7, 3), (49, .iconst 1, 1), (50, .goto 4, 3), (53, .iconst 0, 1), (54, .ireturn, 1)]
def aM_X4_isWhole : aM := (yX4_isWhole, cX4_isWhole, 2, (some .boolean), aC_RX4, aL_X4_isWhole, 619)
def aL_X4_isTold : List (Nat × Instr × Nat) := [(0, .aload_n 0, 1), (1, .getfield 39, 3), (4, .ifCond .le 7, 3), (7, .iconst 1, 1), (8, .goto 4, 3), (11, .iconst 0, 1), (12, .ireturn, 1)]
def aM_X4_isTold : aM := (yX4_isTold, cX4_isTold, 1, (some .boolean), aC_RX4, aL_X4_isTold, 740)
def aL_X4_hasThing : List (Nat × Instr × Nat) := [(0, .iload_n 1, 1), (1, .ifCond .lt 15, 3), (4, .iload_n 1, 1), (5, .aload_n 0, 1), (6, .getfield 39, 3), (9, .if_icmp .ge 7, 3), (12, .iconst 1, 1), (13, .goto 4, 3), (16, .iconst 0, 1), (17, .ireturn, 1)]
def aM_X4_hasThing : aM := (yX4_hasThing, cX4_hasThing, 2, (some .boolean), aC_RX4, aL_X4_hasThing, 716)
def aL_X4_hasHeir : List (Nat × Instr × Nat) := [(0, .iload_n 1, 1), (1, .ifCond .lt 15, 3), (4, .iload_n 1, 1), (5, .aload_n 0, 1), (6, .getfield 43, 3), (9, .if_icmp .ge 7, 3), (12, .iconst 1, 1), (13, .goto 4, 3), (16, .iconst 0, 1), (17, .ireturn, 1)]
def aM_X4_hasHeir : aM := (yX4_hasHeir, cX4_hasHeir, 2, (some .boolean), aC_RX4, aL_X4_hasHeir, 724)
def aL_X4_hasStep : List (Nat × Instr × Nat) := [(0, .aload_n 0, 1), (1, .iload_n 1, 1), (2, .invokevirtual 55, 3), (5, .ifCond .eq 21, 3), (8, .iload_n 2, 1), (9, .ifCond .lt 17, 3), (12, .iload_n 2, 1), (13, .aload_n 0, 1), (14, .getfield 18, 3), (17, .iload_n 1, 1), (18, .iaload, 1), (19, .if_icmp .ge 7, 3), (22, .iconst 1, 1), (23, .goto 4, 3), (26, .iconst 0, 1), (27, .ireturn, 1)]
def aM_X4_hasStep : aM := (yX4_hasStep, cX4_hasStep, 3, (some .boolean), aC_RX4, aL_X4_hasStep, 712)
def aL_X4_hasSet : List (Nat × Instr × Nat) := [(0, .iload_n 1, 1), (1, .ifCond .le 17, 3), (4, .iload_n 1, 1), (5, .iconst 1, 1), (6, .aload_n 0, 1), (7, .getfield 43, 3), (10, .ishl, 1), (11, .if_icmp .ge 7, 3), (14, .iconst 1, 1), (15, .goto 4, 3), (18, .iconst 0, 1), (19, .ireturn, 1)]
def aM_X4_hasSet : aM := (yX4_hasSet, cX4_hasSet, 2, (some .boolean), aC_RX4, aL_X4_hasSet, 823)
def aL_X4_isOpen : List (Nat × Instr × Nat) := [(0, .aload_n 0, 1), (1, .iload_n 1, 1), (2, .invokevirtual 55, 3), (5, .ifCond .eq 19, 3), (8, .aload_n 0, 1), (9, .getfield 36, 3), (12, .bipush 18, 2), (14, .iload_n 1, 1), (15, .iadd, 1), (16, .iaload, 1), (17, .ifCond .ne 7, 3), (20, .iconst 1, 1), (21, .goto 4, 3), (24, .iconst 0, 1), (25, .ireturn, 1)]
def aM_X4_isOpen : aM := (yX4_isOpen, cX4_isOpen, 2, (some .boolean), aC_RX4, aL_X4_isOpen, 771)
def aL_X4_skill : List (Nat × Instr × Nat) := [(0, .aload_n 0, 1), (1, .getfield 36, 3), (4, .bipush 36, 2), (6, .iload_n 1, 1), (7, .iconst 5, 1), (8, .imul, 1), (9, .iadd, 1), (10, .iload_n 2, 1), (11, .iadd, 1), (12, .iaload, 1), (13, .ireturn, 1)]
def aM_X4_skill : aM := (yX4_skill, cX4_skill, 3, (some .int), aC_RX4, aL_X4_skill, 728)
def aL_X4_addSkill : List (Nat × Instr × Nat) := [(0, .aload_n 0, 1), (1, .getfield 36, 3), (4, .bipush 36, 2), (6, .iload_n 1, 1), (7, .iconst 5, 1), (8, .imul, 1), (9, .iadd, 1), (10, .iload_n 2, 1), (11, .iadd, 1), (12, .dup2, 1), (13, .iaload, 1), (14, .iload_n 3, 1), (15, .iadd, 1), (16, .iastore, 1), (17, .return_, 1)]
def aM_X4_addSkill : aM := (yX4_addSkill, cX4_addSkill, 4, none, aC_RX4, aL_X4_addSkill, 607)
def aL_X4_allSkills : List (Nat × Instr × Nat) := [(0, .iconst 0, 1), (1, .istore_n 2, 1), (2, .iconst 0, 1), (3, .istore_n 3, 1), (4, .iload_n 3, 1), (5, .iconst 5, 1), (6, .if_icmp .ge 18, 3), (9, .iload_n 2, 1), (10, .aload_n 0, 1), (11, .iload_n 1, 1), (12, .iload_n 3, 1), (13, .invokevirtual 59, 3), (16, .iadd, 1), (17, .istore_n 2, 1), (18, .iinc 3 1, 3), (21, .goto (-17), 3), (24, .iload_n 2, 1), (25, .ireturn, 1)]
def aM_X4_allSkills : aM := (yX4_allSkills, cX4_allSkills, 4, (some .int), aC_RX4, aL_X4_allSkills, 1090)
def aL_X4_heldBy : List (Nat × Instr × Nat) := [(0, .iconst 0, 1), (1, .istore_n 2, 1), (2, .iconst 0, 1), (3, .istore_n 3, 1), (4, .iload_n 3, 1), (5, .aload_n 0, 1), (6, .getfield 39, 3), (9, .if_icmp .ge 28, 3), (12, .aload_n 0, 1), (13, .getfield 36, 3), (16, .bipush 12, 2), (18, .iload_n 3, 1), (19, .iadd, 1), (20, .iaload, 1), (21, .iload_n 1, 1), (22, .if_icmp .ne 9, 3), (25, .iload_n 2, 1), (26, .iconst 1, 1), (27, .iload_n 3, 1), (28, .ishl, 1), (29, .ior, 1), (30, .istore_n 2, 1), (31, .iinc 3 1, 3), (34, .goto (-30), 3), (37, .iload_n 2, 1), (38, .ireturn, 1)]
def aM_X4_heldBy : aM := (yX4_heldBy, cX4_heldBy, 4, (some .int), aC_RX4, aL_X4_heldBy, 732)
def aL_X4_countOf : List (Nat × Instr × Nat) := [(0, .iconst 0, 1), (1, .istore_n 2, 1), (2, .iconst 0, 1), (3, .istore_n 3, 1), (4, .iload_n 3, 1), (5, .aload_n 0, 1), (6, .getfield 39, 3), (9, .if_icmp .ge 25, 3), (12, .aload_n 0, 1), (13, .getfield 36, 3), (16, .bipush 18, 2), (18, .iload_n 3, 1), (19, .iadd, 1), (20, .iaload, 1), (21, .iload_n 1, 1), (22, .if_icmp .ne 6, 3), (25, .iinc 2 1, 3), (28, .iinc 3 1, 3), (31, .goto (-27), 3), (34, .iload_n 2, 1), (35, .ireturn, 1)]
def aM_X4_countOf : aM := (yX4_countOf, cX4_countOf, 4, (some .int), aC_RX4, aL_X4_countOf, 1263)
def aL_X4_finishedValues : List (Nat × Instr × Nat) := [(0, .iconst 0, 1), (1, .istore_n 1, 1), (2, .iconst 0, 1), (3, .istore_n 2, 1), (4, .iload_n 2, 1), (5, .aload_n 0, 1), (6, .getfield 39, 3), (9, .if_icmp .ge 31, 3), (12, .aload_n 0, 1), (13, .getfield 36, 3), (16, .bipush 18, 2), (18, .iload_n 2, 1), (19, .iadd, 1), (20, .iaload, 1), (21, .iconst 1, 1), (22, .if_icmp .ne 12, 3), (25, .iload_n 1, 1), (26, .aload_n 0, 1), (27, .getfield 9, 3), (30, .iload_n 2, 1), (31, .iaload, 1), (32, .iadd, 1), (33, .istore_n 1, 1), (34, .iinc 2 1, 3), (37, .goto (-33), 3), (40, .iload_n 1, 1), (41, .ireturn, 1)]
def aM_X4_finishedValues : aM := (yX4_finishedValues, cX4_finishedValues, 3, (some .int), aC_RX4, aL_X4_finishedValues, 1267)
def aL_X4_daysFor : List (Nat × Instr × Nat) := [(0, .iload_n 1, 1), (1, .ifCond .gt 7, 3), (4, .iconst (-1), 1), (5, .goto 12, 3), (8, .iconst 3, 1), (9, .iload_n 0, 1), (10, .imul, 1), (11, .iload_n 1, 1), (12, .iadd, 1), (13, .iconst 1, 1), (14, .isub, 1), (15, .iload_n 1, 1), (16, .idiv, 1), (17, .ireturn, 1)]
def aM_X4_daysFor : aM := (yX4_daysFor, cX4_daysFor, 2, (some .int), aC_RX4, aL_X4_daysFor, 763)
def aL_X4_stepDays : List (Nat × Instr × Nat) := [(0, .iload_n 2, 1), (1, .bipush 8, 2), (3, .imul, 1), (4, .iload_n 3, 1), (5, .iadd, 1), (6, .istore 4, 2), (8, .aload_n 0, 1), (9, .getfield 24, 3), (12, .iload 4, 2), (14, .iaload, 1), (15, .aload_n 0, 1), (16, .iload_n 1, 1), (17, .aload_n 0, 1), (18, .getfield 21, 3), (21, .iload 4, 2), (23, .iaload, 1), (24, .invokevirtual 59, 3), (27, .invokestatic 63, 3), (30, .ireturn, 1)]
def aM_X4_stepDays : aM := (yX4_stepDays, cX4_stepDays, 5, (some .int), aC_RX4, aL_X4_stepDays, 759)
def aL_X4_daysFrom : List (Nat × Instr × Nat) := [(0, .iconst 0, 1), (1, .istore 4, 2), (3, .iload_n 2, 1), (4, .bipush 8, 2), (6, .imul, 1), (7, .iload_n 3, 1), (8, .iadd, 1), (9, .istore 5, 2), (11, .iload 5, 2), (13, .iload_n 2, 1), (14, .bipush 8, 2), (16, .imul, 1), (17, .aload_n 0, 1), (18, .getfield 18, 3), (21, .iload_n 2, 1), (22, .iaload, 1), (23, .iadd, 1), (24, .if_icmp .ge 55, 3), (27, .aload_n 0, 1), (28, .getfield 24, 3), (31, .iload 5, 2), (33, .iaload, 1), (34, .aload_n 0, 1), (35, .getfield 36, 3), (38, .bipush 36, 2), (40, .iload_n 1, 1), (41, .iconst 5, 1), (42, .imul, 1), (43, .iadd, 1), (44, .aload_n 0, 1), (45, .getfield 21, 3), (48, .iload 5, 2), (50, .iaload, 1), (51, .iadd, 1), (52, .iaload, 1), (53, .invokestatic 63, 3), (56, .istore 6, 2), (58, .iload 6, 2), (60, .iconst (-1), 1), (61, .if_icmp .ne 5, 3), (64, .iconst (-1), 1), (65, .ireturn, 1), (66, .iload 4, 2), (68, .iload 6, 2), (70, .iadd, 1), (71, .istore 4, 2), (73, .iinc 5 1, 3), (76, .goto (-65), 3), (79, .iload 4, 2), (81, .ireturn, 1)]
def aM_X4_daysFrom : aM := (yX4_daysFrom, cX4_daysFrom, 7, (some .int), aC_RX4, aL_X4_daysFrom, 779)
def aL_X4_aloneDays : List (Nat × Instr × Nat) := [(0, .aload_n 0, 1), (1, .iload_n 1, 1), (2, .iload_n 2, 1), (3, .aload_n 0, 1), (4, .getfield 36, 3), (7, .iconst 0, 1), (8, .iload_n 2, 1), (9, .iadd, 1), (10, .iaload, 1), (11, .invokevirtual 66, 3), (14, .ireturn, 1)]
def aM_X4_aloneDays : aM := (yX4_aloneDays, cX4_aloneDays, 3, (some .int), aC_RX4, aL_X4_aloneDays, 775)
def aL_X4_isInTime : List (Nat × Instr × Nat) := [(0, .iload_n 2, 1), (1, .iconst (-1), 1), (2, .if_icmp .eq 25, 3), (5, .aload_n 0, 1), (6, .getfield 36, 3), (9, .bipush 66, 2), (11, .iaload, 1), (12, .iload_n 2, 1), (13, .iadd, 1), (14, .aload_n 0, 1), (15, .getfield 15, 3), (18, .iload_n 1, 1), (19, .iaload, 1), (20, .if_icmp .gt 7, 3), (23, .iconst 1, 1), (24, .goto 4, 3), (27, .iconst 0, 1), (28, .ireturn, 1)]
def aM_X4_isInTime : aM := (yX4_isInTime, cX4_isInTime, 3, (some .boolean), aC_RX4, aL_X4_isInTime, 796)
def aL_X4_daysInTime : List (Nat × Instr × Nat) := [(0, .aload_n 0, 1), (1, .iload_n 1, 1), (2, .iload_n 2, 1), (3, .invokevirtual 70, 3), (6, .istore_n 3, 1), (7, .aload_n 0, 1), (8, .iload_n 2, 1), (9, .iload_n 3, 1), (10, .invokevirtual 73, 3), (13, .ifCond .eq 7, 3), (16, .iload_n 3, 1), (17, .goto 4, 3), (20, .iconst (-1), 1), (21, .ireturn, 1)]
def aM_X4_daysInTime : aM := (yX4_daysInTime, cX4_daysInTime, 4, (some .int), aC_RX4, aL_X4_daysInTime, 791)
def aL_X4_aloneInTime : List (Nat × Instr × Nat) := [(0, .iconst 0, 1), (1, .istore_n 2, 1), (2, .iconst 0, 1), (3, .istore_n 3, 1), (4, .iload_n 3, 1), (5, .aload_n 0, 1), (6, .getfield 43, 3), (9, .if_icmp .ge 25, 3), (12, .aload_n 0, 1), (13, .iload_n 3, 1), (14, .iload_n 1, 1), (15, .invokevirtual 77, 3), (18, .iconst (-1), 1), (19, .if_icmp .eq 9, 3), (22, .iload_n 2, 1), (23, .iconst 1, 1), (24, .iload_n 3, 1), (25, .ishl, 1), (26, .ior, 1), (27, .istore_n 2, 1), (28, .iinc 3 1, 3), (31, .goto (-27), 3), (34, .iload_n 2, 1), (35, .ireturn, 1)]
def aM_X4_aloneInTime : aM := (yX4_aloneInTime, cX4_aloneInTime, 4, (some .int), aC_RX4, aL_X4_aloneInTime, 787)
def aL_X4_bestSkill : List (Nat × Instr × Nat) := [(0, .iconst 0, 1), (1, .istore_n 3, 1), (2, .iconst 0, 1), (3, .istore 4, 2), (5, .iload 4, 2), (7, .aload_n 0, 1), (8, .getfield 43, 3), (11, .if_icmp .ge 31, 3), (14, .iload_n 1, 1), (15, .iload 4, 2), (17, .ishr, 1), (18, .iconst 1, 1), (19, .iand, 1), (20, .iconst 1, 1), (21, .if_icmp .ne 15, 3), (24, .iload_n 3, 1), (25, .aload_n 0, 1), (26, .iload 4, 2), (28, .iload_n 2, 1), (29, .invokevirtual 59, 3), (32, .invokestatic 80, 3), (35, .istore_n 3, 1), (36, .iinc 4 1, 3), (39, .goto (-34), 3), (42, .iload_n 3, 1), (43, .ireturn, 1)]
def aM_X4_bestSkill : aM := (yX4_bestSkill, cX4_bestSkill, 5, (some .int), aC_RX4, aL_X4_bestSkill, 812)
def aL_X4_everyone : List (Nat × Instr × Nat) := [(0, .iconst 1, 1), (1, .aload_n 0, 1), (2, .getfield 43, 3), (5, .ishl, 1), (6, .iconst 1, 1), (7, .isub, 1), (8, .ireturn, 1)]
def aM_X4_everyone : aM := (yX4_everyone, cX4_everyone, 1, (some .int), aC_RX4, aL_X4_everyone, 808)
def aL_X4_firstStuck : List (Nat × Instr × Nat) := [(0, .aload_n 0, 1), (1, .getfield 36, 3), (4, .iconst 0, 1), (5, .iload_n 1, 1), (6, .iadd, 1), (7, .iaload, 1), (8, .istore_n 2, 1), (9, .iload_n 2, 1), (10, .aload_n 0, 1), (11, .getfield 18, 3), (14, .iload_n 1, 1), (15, .iaload, 1), (16, .if_icmp .ge 33, 3), (19, .aload_n 0, 1), (20, .aload_n 0, 1), (21, .invokevirtual 85, 3), (24, .aload_n 0, 1), (25, .getfield 21, 3), (28, .iload_n 1, 1), (29, .bipush 8, 2), (31, .imul, 1), (32, .iload_n 2, 1), (33, .iadd, 1), (34, .iaload, 1), (35, .invokevirtual 89, 3), (38, .ifCond .ne 5, 3), (41, .iload_n 2, 1), (42, .ireturn, 1), (43, .iinc 2 1, 3), (46, .goto (-37), 3), (49, .iconst (-1), 1), (50, .ireturn, 1)]
def aM_X4_firstStuck : aM := (yX4_firstStuck, cX4_firstStuck, 3, (some .int), aC_RX4, aL_X4_firstStuck, 804)
def aL_X4_teamDays : List (Nat × Instr × Nat) := [(0, .iconst 0, 1), (1, .istore_n 3, 1), (2, .aload_n 0, 1), (3, .getfield 36, 3), (6, .iconst 0, 1), (7, .iload_n 1, 1), (8, .iadd, 1), (9, .iaload, 1), (10, .istore 4, 2), (12, .iload 4, 2), (14, .aload_n 0, 1), (15, .getfield 18, 3), (18, .iload_n 1, 1), (19, .iaload, 1), (20, .if_icmp .ge 55, 3), (23, .iload_n 1, 1), (24, .bipush 8, 2), (26, .imul, 1), (27, .iload 4, 2), (29, .iadd, 1), (30, .istore 5, 2), (32, .aload_n 0, 1), (33, .getfield 24, 3), (36, .iload 5, 2), (38, .iaload, 1), (39, .aload_n 0, 1), (40, .iload_n 2, 1), (41, .aload_n 0, 1), (42, .getfield 21, 3), (45, .iload 5, 2), (47, .iaload, 1), (48, .invokevirtual 89, 3), (51, .invokestatic 63, 3), (54, .istore 6, 2), (56, .iload 6, 2), (58, .iconst (-1), 1), (59, .if_icmp .ne 5, 3), (62, .iconst (-1), 1), (63, .ireturn, 1), (64, .iload_n 3, 1), (65, .iload 6, 2), (67, .iadd, 1), (68, .istore_n 3, 1), (69, .iinc 4 1, 3), (72, .goto (-60), 3), (75, .iload_n 3, 1), (76, .ireturn, 1)]
def aM_X4_teamDays : aM := (yX4_teamDays, cX4_teamDays, 7, (some .int), aC_RX4, aL_X4_teamDays, 827)
def aL_X4_fewestInTime : List (Nat × Instr × Nat) := [(0, .iconst (-1), 1), (1, .istore_n 2, 1), (2, .iconst 1, 1), (3, .istore_n 3, 1), (4, .iload_n 3, 1), (5, .aload_n 0, 1), (6, .invokevirtual 85, 3), (9, .if_icmp .gt 53, 3), (12, .iload_n 2, 1), (13, .iconst (-1), 1), (14, .if_icmp .eq 14, 3), (17, .iload_n 3, 1), (18, .invokestatic 92, 3), (21, .iload_n 2, 1), (22, .invokestatic 92, 3), (25, .if_icmp .ge 7, 3), (28, .iconst 1, 1), (29, .goto 4, 3), (32, .iconst 0, 1), (33, .istore 4, 2), (35, .iload 4, 2), (37, .ifCond .eq 19, 3), (40, .aload_n 0, 1), (41, .iload_n 1, 1), (42, .aload_n 0, 1), (43, .iload_n 1, 1), (44, .iload_n 3, 1), (45, .invokevirtual 98, 3), (48, .invokevirtual 73, 3), (51, .ifCond .eq 5, 3), (54, .iload_n 3, 1), (55, .istore_n 2, 1), (56, .iinc 3 1, 3), (59, .goto (-55), 3), (62, .iload_n 2, 1), (63, .ireturn, 1)]
def aM_X4_fewestInTime : aM := (yX4_fewestInTime, cX4_fewestInTime, 5, (some .int), aC_RX4, aL_X4_fewestInTime, 835)
def aL_X4_paidByGuilds : List (Nat × Instr × Nat) := [(0, .iconst 0, 1), (1, .istore_n 1, 1), (2, .iconst 0, 1), (3, .istore_n 2, 1), (4, .iload_n 2, 1), (5, .aload_n 0, 1), (6, .getfield 39, 3), (9, .if_icmp .ge 51, 3), (12, .aload_n 0, 1), (13, .iload_n 2, 1), (14, .invokevirtual 101, 3), (17, .ifCond .eq 37, 3), (20, .aload_n 0, 1), (21, .iload_n 2, 1), (22, .invokevirtual 104, 3), (25, .ifCond .ne 29, 3), (28, .aload_n 0, 1), (29, .iload_n 2, 1), (30, .aload_n 0, 1), (31, .iload_n 2, 1), (32, .aload_n 0, 1), (33, .invokevirtual 85, 3), (36, .invokevirtual 98, 3), (39, .invokevirtual 73, 3), (42, .ifCond .eq 12, 3), (45, .iload_n 1, 1), (46, .aload_n 0, 1), (47, .getfield 9, 3), (50, .iload_n 2, 1), (51, .iaload, 1), (52, .iadd, 1), (53, .istore_n 1, 1), (54, .iinc 2 1, 3), (57, .goto (-53), 3), (60, .iload_n 1, 1), (61, .ireturn, 1)]
def aM_X4_paidByGuilds : aM := (yX4_paidByGuilds, cX4_paidByGuilds, 3, (some .int), aC_RX4, aL_X4_paidByGuilds, 850)
def aL_X4_passDay : List (Nat × Instr × Nat) := [(0, .aload_n 0, 1), (1, .getfield 33, 3), (4, .iconst 0, 1), (5, .invokestatic 49, 3), (8, .iconst 0, 1), (9, .istore_n 1, 1), (10, .iload_n 1, 1), (11, .aload_n 0, 1), (12, .getfield 43, 3), (15, .if_icmp .ge 26, 3), (18, .aload_n 0, 1), (19, .iload_n 1, 1), (20, .invokevirtual 107, 3), (23, .istore_n 2, 1), (24, .iload_n 2, 1), (25, .iconst (-1), 1), (26, .if_icmp .eq 9, 3), (29, .aload_n 0, 1), (30, .iload_n 2, 1), (31, .iload_n 1, 1), (32, .invokevirtual 110, 3), (35, .iinc 1 1, 3), (38, .goto (-28), 3), (41, .aload_n 0, 1), (42, .getfield 36, 3), (45, .bipush 66, 2), (47, .dup2, 1), (48, .iaload, 1), (49, .iconst 1, 1), (50, .iadd, 1), (51, .iastore, 1), (52, .iconst 0, 1), (53, .istore_n 1, 1), (54, .iload_n 1, 1), (55, .aload_n 0, 1), (56, .getfield 39, 3), (59, .if_icmp .ge 26, 3), (62, .aload_n 0, 1), (63, .getfield 36, 3), (66, .bipush 18, 2), (68, .iload_n 1, 1), (69, .iadd, 1), (70, .iaload, 1), (71, .ifCond .ne 8, 3), (74, .aload_n 0, 1), (75, .iload_n 1, 1), (76, .invokevirtual 114, 3), (79, .iinc 1 1, 3), (82, .goto (-28), 3), (85, .return_, 1)]
def aM_X4_passDay : aM := (yX4_passDay, cX4_passDay, 3, none, aC_RX4, aL_X4_passDay, 877)
def aL_X4_workOf : List (Nat × Instr × Nat) := [(0, .iconst 0, 1), (1, .istore_n 2, 1), (2, .iload_n 2, 1), (3, .aload_n 0, 1), (4, .getfield 39, 3), (7, .if_icmp .ge 69, 3), (10, .aload_n 0, 1), (11, .getfield 36, 3), (14, .iconst 0, 1), (15, .iload_n 2, 1), (16, .iadd, 1), (17, .iaload, 1), (18, .istore_n 3, 1), (19, .aload_n 0, 1), (20, .getfield 36, 3), (23, .bipush 12, 2), (25, .iload_n 2, 1), (26, .iadd, 1), (27, .iaload, 1), (28, .iload_n 1, 1), (29, .if_icmp .ne 41, 3), (32, .aload_n 0, 1), (33, .iload_n 2, 1), (34, .invokevirtual 101, 3), (37, .ifCond .eq 33, 3), (40, .aload_n 0, 1), (41, .iload_n 2, 1), (42, .iload_n 3, 1), (43, .invokevirtual 118, 3), (46, .ifCond .eq 24, 3), (49, .aload_n 0, 1), (50, .iload_n 1, 1), (51, .aload_n 0, 1), (52, .getfield 21, 3), (55, .iload_n 2, 1), (56, .bipush 8, 2), (58, .imul, 1), (59, .iload_n 3, 1), (60, .iadd, 1), (61, .iaload, 1), (62, .invokevirtual 59, 3), (65, .ifCond .le 5, 3), (68, .iload_n 2, 1), (69, .ireturn, 1), (70, .iinc 2 1, 3), (73, .goto (-71), 3), (76, .iconst (-1), 1), (77, .ireturn, 1)]
def aM_X4_workOf : aM := (yX4_workOf, cX4_workOf, 4, (some .int), aC_RX4, aL_X4_workOf, 881)
def aL_X4_workAt : List (Nat × Instr × Nat) := [(0, .iload_n 1, 1), (1, .bipush 8, 2), (3, .imul, 1), (4, .aload_n 0, 1), (5, .getfield 36, 3), (8, .iconst 0, 1), (9, .iload_n 1, 1), (10, .iadd, 1), (11, .iaload, 1), (12, .iadd, 1), (13, .istore_n 3, 1), (14, .aload_n 0, 1), (15, .getfield 21, 3), (18, .iload_n 3, 1), (19, .iaload, 1), (20, .istore 4, 2), (22, .aload_n 0, 1), (23, .getfield 30, 3), (26, .iload 4, 2), (28, .iaload, 1), (29, .ifCond .le 21, 3), (32, .aload_n 0, 1), (33, .getfield 33, 3), (36, .iload 4, 2), (38, .iaload, 1), (39, .aload_n 0, 1), (40, .getfield 30, 3), (43, .iload 4, 2), (45, .iaload, 1), (46, .if_icmp .lt 4, 3), (49, .return_, 1), (50, .aload_n 0, 1), (51, .getfield 33, 3), (54, .iload 4, 2), (56, .dup2, 1), (57, .iaload, 1), (58, .iconst 1, 1), (59, .iadd, 1), (60, .iastore, 1), (61, .aload_n 0, 1), (62, .getfield 36, 3), (65, .bipush 6, 2), (67, .iload_n 1, 1), (68, .iadd, 1), (69, .dup2, 1), (70, .iaload, 1), (71, .aload_n 0, 1), (72, .iload_n 2, 1), (73, .iload 4, 2), (75, .invokevirtual 59, 3), (78, .iadd, 1), (79, .iastore, 1), (80, .aload_n 0, 1), (81, .getfield 36, 3), (84, .bipush 6, 2), (86, .iload_n 1, 1), (87, .iadd, 1), (88, .iaload, 1), (89, .iconst 3, 1), (90, .aload_n 0, 1), (91, .getfield 24, 3), (94, .iload_n 3, 1), (95, .iaload, 1), (96, .imul, 1), (97, .if_icmp .lt 25, 3), (100, .aload_n 0, 1), (101, .getfield 36, 3), (104, .bipush 6, 2), (106, .iload_n 1, 1), (107, .iadd, 1), (108, .iconst 0, 1), (109, .iastore, 1), (110, .aload_n 0, 1), (111, .getfield 36, 3), (114, .iconst 0, 1), (115, .iload_n 1, 1), (116, .iadd, 1), (117, .dup2, 1), (118, .iaload, 1), (119, .iconst 1, 1), (120, .iadd, 1), (121, .iastore, 1), (122, .return_, 1)]
def aM_X4_workAt : aM := (yX4_workAt, cX4_workAt, 5, none, aC_RX4, aL_X4_workAt, 886)
def aL_X4_closeDay : List (Nat × Instr × Nat) := [(0, .aload_n 0, 1), (1, .getfield 36, 3), (4, .iconst 0, 1), (5, .iload_n 1, 1), (6, .iadd, 1), (7, .iaload, 1), (8, .aload_n 0, 1), (9, .getfield 18, 3), (12, .iload_n 1, 1), (13, .iaload, 1), (14, .if_icmp .lt 50, 3), (17, .aload_n 0, 1), (18, .getfield 36, 3), (21, .bipush 18, 2), (23, .iload_n 1, 1), (24, .iadd, 1), (25, .iconst 1, 1), (26, .iastore, 1), (27, .aload_n 0, 1), (28, .getfield 36, 3), (31, .bipush 24, 2), (33, .iload_n 1, 1), (34, .iadd, 1), (35, .aload_n 0, 1), (36, .getfield 36, 3), (39, .bipush 66, 2), (41, .iaload, 1), (42, .iastore, 1), (43, .aload_n 0, 1), (44, .getfield 36, 3), (47, .bipush 30, 2), (49, .iload_n 1, 1), (50, .iadd, 1), (51, .aload_n 0, 1), (52, .getfield 36, 3), (55, .bipush 12, 2), (57, .iload_n 1, 1), (58, .iadd, 1), (59, .iaload, 1), (60, .iastore, 1), (61, .goto 29, 3), (64, .aload_n 0, 1), (65, .getfield 15, 3), (68, .iload_n 1, 1), (69, .iaload, 1), (70, .aload_n 0, 1), (71, .getfield 36, 3), (74, .bipush 66, 2), (76, .iaload, 1), (77, .if_icmp .gt 13, 3), (80, .aload_n 0, 1), (81, .getfield 36, 3), (84, .bipush 18, 2), (86, .iload_n 1, 1), (87, .iadd, 1), (88, .iconst 2, 1), (89, .iastore, 1), (90, .return_, 1)]
def aM_X4_closeDay : aM := (yX4_closeDay, cX4_closeDay, 2, none, aC_RX4, aL_X4_closeDay, 890)
def aL_X4_raiseHeirs : List (Nat × Instr × Nat) := [(0, .lload_n 1, 1), (1, .lstore_n 3, 1), (2, .iconst 0, 1), (3, .istore 5, 2), (5, .bipush 36, 2), (7, .istore 6, 2), (9, .iload 6, 2), (11, .bipush 36, 2), (13, .aload_n 0, 1), (14, .getfield 43, 3), (17, .iconst 5, 1), (18, .imul, 1), (19, .iadd, 1), (20, .if_icmp .ge 88, 3), (23, .lload_n 3, 1), (24, .ldc2_w 121, 3), (27, .lmul, 1), (28, .ldc2_w 123, 3), (31, .ladd, 1), (32, .lstore_n 3, 1), (33, .lload_n 3, 1), (34, .bipush 33, 2), (36, .lushr, 1), (37, .ldc2_w 125, 3), (40, .lrem, 1), (41, .lstore 7, 2), (43, .lload 7, 2), (45, .lconst 0, 1), (46, .lcmp, 1), (47, .ifCond .ne 14, 3), (50, .aload_n 0, 1), (51, .getfield 36, 3), (54, .iload 6, 2), (56, .iconst 0, 1), (57, .iastore, 1), (58, .goto 31, 3), (61, .lload 7, 2), (63, .lconst 1, 1), (64, .lcmp, 1), (65, .ifCond .ne 24, 3), (68, .aload_n 0, 1), (69, .getfield 36, 3), (72, .iload 6, 2), (74, .aload_n 0, 1), (75, .getfield 36, 3), (78, .iload 6, 2), (80, .iaload, 1), (81, .iconst 1, 1), (82, .iadd, 1), (83, .bipush 9, 2), (85, .invokestatic 127, 3), (88, .iastore, 1), (89, .aload_n 0, 1), (90, .getfield 36, 3), (93, .iload 6, 2), (95, .iaload, 1), (96, .ifCond .le 6, 3), (99, .iinc 5 1, 3), (102, .iinc 6 1, 3), (105, .goto (-96), 3), (108, .iconst 0, 1), (109, .istore 6, 2), (111, .iload 6, 2), (113, .aload_n 0, 1), (114, .getfield 39, 3), (117, .if_icmp .ge 20, 3), (120, .aload_n 0, 1), (121, .getfield 36, 3), (124, .bipush 12, 2), (126, .iload 6, 2), (128, .iadd, 1), (129, .iconst (-1), 1), (130, .iastore, 1), (131, .iinc 6 1, 3), (134, .goto (-23), 3), (137, .iload 5, 2), (139, .ireturn, 1)]
def aM_X4_raiseHeirs : aM := (yX4_raiseHeirs, cX4_raiseHeirs, 9, (some .int), aC_RX4, aL_X4_raiseHeirs, 898)
def aL_X5_open : List (Nat × Instr × Nat) := [(0, .aload_n 0, 1), (1, .iload_n 1, 1), (2, .iconst 4, 1), (3, .invokestatic 27, 3), (6, .putfield 33, 3), (9, .aload_n 0, 1), (10, .iconst 0, 1), (11, .putfield 37, 3), (14, .aload_n 0, 1), (15, .getfield 9, 3), (18, .iconst 0, 1), (19, .bipush 9, 2), (21, .iastore, 1), (22, .return_, 1)]
def aM_X5_open : aM := (yX5_open, cX5_open, 2, none, aC_RX5, aL_X5_open, 1137)
def aL_X5_addThing : List (Nat × Instr × Nat) := [(0, .aload_n 0, 1), (1, .getfield 9, 3), (4, .aload_n 0, 1), (5, .getfield 37, 3), (8, .iload_n 1, 1), (9, .iastore, 1), (10, .aload_n 0, 1), (11, .dup, 1), (12, .getfield 37, 3), (15, .iconst 1, 1), (16, .iadd, 1), (17, .putfield 37, 3), (20, .aload_n 0, 1), (21, .getfield 9, 3), (24, .aload_n 0, 1), (25, .getfield 37, 3), (28, .bipush 9, 2), (30, .iastore, 1), (31, .return_, 1)]
def aM_X5_addThing : aM := (yX5_addThing, cX5_addThing, 2, none, aC_RX5, aL_X5_addThing, 1142)
def aL_X5_tellOf : List (Nat × Instr × Nat) := [(0, .aload_n 0, 1), (1, .getfield 18, 3), (4, .iload_n 1, 1), (5, .bipush 6, 2), (7, .imul, 1), (8, .iload_n 2, 1), (9, .iadd, 1), (10, .iload_n 3, 1), (11, .iconst (-1), 1), (12, .if_icmp .ne 8, 3), (15, .ldc 40, 2), (17, .goto 8, 3), (20, .iload_n 3, 1), (21, .iconst 4, 1), (22, .imul, 1), (23, .iload_n 1, 1), (24, .iadd, 1), (25, .iastore, 1), (26, .aload_n 0, 1), (27, .getfield 21, 3), (30, .iload_n 1, 1), (31, .bipush 6, 2), (33, .imul, 1), (34, .iload_n 2, 1), (35, .iadd, 1), (36, .iload 4, 2), (38, .iastore, 1), (39, .return_, 1)]
def aM_X5_tellOf : aM := (yX5_tellOf, cX5_tellOf, 5, none, aC_RX5, aL_X5_tellOf, 1147)
def aL_X5_isChoice : List (Nat × Instr × Nat) := [(0, .iconst 0, 1), (1, .istore_n 2, 1), (2, .iload_n 2, 1), (3, .aload_n 0, 1), (4, .getfield 37, 3), (7, .if_icmp .gt 21, 3), (10, .aload_n 0, 1), (11, .getfield 9, 3), (14, .iload_n 2, 1), (15, .iaload, 1), (16, .iload_n 1, 1), (17, .if_icmp .ne 5, 3), (20, .iconst 1, 1), (21, .ireturn, 1), (22, .iinc 2 1, 3), (25, .goto (-23), 3), (28, .iconst 0, 1), (29, .ireturn, 1)]
def aM_X5_isChoice : aM := (yX5_isChoice, cX5_isChoice, 3, (some .boolean), aC_RX5, aL_X5_isChoice, 1186)
def aL_X5_takeRow : List (Nat × Instr × Nat) := [(0, .iload_n 1, 1), (1, .ifCond .lt 15, 3), (4, .iload_n 1, 1), (5, .getstatic 41, 3), (8, .aload_n 0, 1), (9, .getfield 33, 3), (12, .iaload, 1), (13, .if_icmp .lt 5, 3), (16, .iconst 0, 1), (17, .ireturn, 1), (18, .iconst 0, 1), (19, .istore_n 2, 1), (20, .iload_n 2, 1), (21, .aload_n 0, 1), (22, .getfield 33, 3), (25, .if_icmp .ge 47, 3), (28, .aload_n 0, 1), (29, .getfield 15, 3), (32, .iload_n 2, 1), (33, .iload_n 1, 1), (34, .getstatic 41, 3), (37, .aload_n 0, 1), (38, .getfield 33, 3), (41, .iconst 1, 1), (42, .isub, 1), (43, .iload_n 2, 1), (44, .isub, 1), (45, .iaload, 1), (46, .idiv, 1), (47, .bipush 10, 2), (49, .irem, 1), (50, .iastore, 1), (51, .aload_n 0, 1), (52, .aload_n 0, 1), (53, .getfield 15, 3), (56, .iload_n 2, 1), (57, .iaload, 1), (58, .invokevirtual 44, 3), (61, .ifCond .ne 5, 3), (64, .iconst 0, 1), (65, .ireturn, 1), (66, .iinc 2 1, 3), (69, .goto (-49), 3), (72, .aload_n 0, 1), (73, .invokevirtual 48, 3), (76, .iconst 1, 1), (77, .ireturn, 1)]
def aM_X5_takeRow : aM := (yX5_takeRow, cX5_takeRow, 3, (some .boolean), aC_RX5, aL_X5_takeRow, 1182)
def aL_X5_findLeads : List (Nat × Instr × Nat) := [(0, .aload_n 0, 1), (1, .getfield 24, 3), (4, .ldc 40, 2), (6, .invokestatic 51, 3), (9, .iconst 0, 1), (10, .istore_n 1, 1), (11, .iload_n 1, 1), (12, .aload_n 0, 1), (13, .getfield 33, 3), (16, .if_icmp .ge 48, 3), (19, .aload_n 0, 1), (20, .getfield 15, 3), (23, .iload_n 1, 1), (24, .iaload, 1), (25, .istore_n 2, 1), (26, .iload_n 2, 1), (27, .bipush 9, 2), (29, .if_icmp .eq 29, 3), (32, .aload_n 0, 1), (33, .getfield 24, 3), (36, .iload_n 2, 1), (37, .aload_n 0, 1), (38, .getfield 24, 3), (41, .iload_n 2, 1), (42, .iaload, 1), (43, .aload_n 0, 1), (44, .getfield 18, 3), (47, .iload_n 1, 1), (48, .bipush 6, 2), (50, .imul, 1), (51, .iload_n 2, 1), (52, .iadd, 1), (53, .iaload, 1), (54, .invokestatic 27, 3), (57, .iastore, 1), (58, .iinc 1 1, 3), (61, .goto (-50), 3), (64, .return_, 1)]
def aM_X5_findLeads : aM := (yX5_findLeads, cX5_findLeads, 3, none, aC_RX5, aL_X5_findLeads, 1161)
def aL_X5_gainOf : List (Nat × Instr × Nat) := [(0, .aload_n 0, 1), (1, .getfield 15, 3), (4, .iload_n 1, 1), (5, .iaload, 1), (6, .istore_n 2, 1), (7, .iload_n 2, 1), (8, .bipush 9, 2), (10, .if_icmp .ne 5, 3), (13, .iconst 0, 1), (14, .ireturn, 1), (15, .aload_n 0, 1), (16, .getfield 18, 3), (19, .iload_n 1, 1), (20, .bipush 6, 2), (22, .imul, 1), (23, .iload_n 2, 1), (24, .iadd, 1), (25, .iaload, 1), (26, .istore_n 3, 1), (27, .iload_n 3, 1), (28, .ldc 40, 2), (30, .if_icmp .eq 27, 3), (33, .iload_n 3, 1), (34, .aload_n 0, 1), (35, .getfield 24, 3), (38, .iload_n 2, 1), (39, .iaload, 1), (40, .if_icmp .ne 17, 3), (43, .aload_n 0, 1), (44, .getfield 21, 3), (47, .iload_n 1, 1), (48, .bipush 6, 2), (50, .imul, 1), (51, .iload_n 2, 1), (52, .iadd, 1), (53, .iaload, 1), (54, .goto 4, 3), (57, .iconst 0, 1), (58, .ireturn, 1)]
def aM_X5_gainOf : aM := (yX5_gainOf, cX5_gainOf, 4, (some .int), aC_RX5, aL_X5_gainOf, 1174)
def aL_X5_isContent : List (Nat × Instr × Nat) := [(0, .aload_n 0, 1), (1, .iload_n 1, 1), (2, .invokevirtual 57, 3), (5, .istore_n 2, 1), (6, .iload_n 2, 1), (7, .ifCond .ge 5, 3), (10, .iconst 0, 1), (11, .ireturn, 1), (12, .iconst 0, 1), (13, .istore_n 3, 1), (14, .iload_n 3, 1), (15, .aload_n 0, 1), (16, .getfield 37, 3), (19, .if_icmp .ge 71, 3), (22, .iload_n 1, 1), (23, .bipush 6, 2), (25, .imul, 1), (26, .aload_n 0, 1), (27, .getfield 9, 3), (30, .iload_n 3, 1), (31, .iaload, 1), (32, .iadd, 1), (33, .istore 4, 2), (35, .aload_n 0, 1), (36, .getfield 9, 3), (39, .iload_n 3, 1), (40, .iaload, 1), (41, .aload_n 0, 1), (42, .getfield 15, 3), (45, .iload_n 1, 1), (46, .iaload, 1), (47, .if_icmp .eq 37, 3), (50, .aload_n 0, 1), (51, .getfield 18, 3), (54, .iload 4, 2), (56, .iaload, 1), (57, .aload_n 0, 1), (58, .getfield 24, 3), (61, .aload_n 0, 1), (62, .getfield 9, 3), (65, .iload_n 3, 1), (66, .iaload, 1), (67, .iaload, 1), (68, .if_icmp .ge 16, 3), (71, .aload_n 0, 1), (72, .getfield 21, 3), (75, .iload 4, 2), (77, .iaload, 1), (78, .iload_n 2, 1), (79, .if_icmp .le 5, 3), (82, .iconst 0, 1), (83, .ireturn, 1), (84, .iinc 3 1, 3), (87, .goto (-73), 3), (90, .iconst 1, 1), (91, .ireturn, 1)]
def aM_X5_isContent : aM := (yX5_isContent, cX5_isContent, 5, (some .boolean), aC_RX5, aL_X5_isContent, 1170)
def aL_X5_areContent : List (Nat × Instr × Nat) := [(0, .iconst 0, 1), (1, .istore_n 1, 1), (2, .iload_n 1, 1), (3, .aload_n 0, 1), (4, .getfield 33, 3), (7, .if_icmp .ge 19, 3), (10, .aload_n 0, 1), (11, .iload_n 1, 1), (12, .invokevirtual 61, 3), (15, .ifCond .ne 5, 3), (18, .iconst 0, 1), (19, .ireturn, 1), (20, .iinc 1 1, 3), (23, .goto (-21), 3), (26, .iconst 1, 1), (27, .ireturn, 1)]
def aM_X5_areContent : aM := (yX5_areContent, cX5_areContent, 2, (some .boolean), aC_RX5, aL_X5_areContent, 1166)
def aL_X5_restingRow : List (Nat × Instr × Nat) := [(0, .iconst 1, 1), (1, .istore_n 2, 1), (2, .iconst 0, 1), (3, .istore_n 3, 1), (4, .iload_n 3, 1), (5, .aload_n 0, 1), (6, .getfield 33, 3), (9, .if_icmp .ge 18, 3), (12, .iload_n 2, 1), (13, .aload_n 0, 1), (14, .getfield 37, 3), (17, .iconst 1, 1), (18, .iadd, 1), (19, .imul, 1), (20, .istore_n 2, 1), (21, .iinc 3 1, 3), (24, .goto (-20), 3), (27, .iconst 0, 1), (28, .istore_n 3, 1), (29, .iconst 0, 1), (30, .istore 4, 2), (32, .iload 4, 2), (34, .iload_n 2, 1), (35, .if_icmp .ge 35, 3), (38, .aload_n 0, 1), (39, .iload 4, 2), (41, .invokevirtual 64, 3), (44, .istore 5, 2), (46, .aload_n 0, 1), (47, .invokevirtual 67, 3), (50, .ifCond .eq 14, 3), (53, .iload_n 3, 1), (54, .iload_n 1, 1), (55, .if_icmp .ne 6, 3), (58, .iload 5, 2), (60, .ireturn, 1), (61, .iinc 3 1, 3), (64, .iinc 4 1, 3), (67, .goto (-35), 3), (70, .iload_n 1, 1), (71, .iconst (-1), 1), (72, .if_icmp .ne 7, 3), (75, .iload_n 3, 1), (76, .goto 4, 3), (79, .iconst (-1), 1), (80, .ireturn, 1)]
def aM_X5_restingRow : aM := (yX5_restingRow, cX5_restingRow, 6, (some .int), aC_RX5, aL_X5_restingRow, 1152)
def aL_X5_pickBy : List (Nat × Instr × Nat) := [(0, .iload_n 1, 1), (1, .istore_n 2, 1), (2, .iconst 0, 1), (3, .istore_n 3, 1), (4, .aload_n 0, 1), (5, .getfield 33, 3), (8, .iconst 1, 1), (9, .isub, 1), (10, .istore 4, 2), (12, .iload 4, 2), (14, .ifCond .lt 62, 3), (17, .aload_n 0, 1), (18, .getfield 15, 3), (21, .iload 4, 2), (23, .aload_n 0, 1), (24, .getfield 9, 3), (27, .iload_n 2, 1), (28, .aload_n 0, 1), (29, .getfield 37, 3), (32, .iconst 1, 1), (33, .iadd, 1), (34, .irem, 1), (35, .iaload, 1), (36, .iastore, 1), (37, .iload_n 2, 1), (38, .aload_n 0, 1), (39, .getfield 37, 3), (42, .iconst 1, 1), (43, .iadd, 1), (44, .idiv, 1), (45, .istore_n 2, 1), (46, .iload_n 3, 1), (47, .aload_n 0, 1), (48, .getfield 15, 3), (51, .iload 4, 2), (53, .iaload, 1), (54, .getstatic 41, 3), (57, .aload_n 0, 1), (58, .getfield 33, 3), (61, .iconst 1, 1), (62, .isub, 1), (63, .iload 4, 2), (65, .isub, 1), (66, .iaload, 1), (67, .imul, 1), (68, .iadd, 1), (69, .istore_n 3, 1), (70, .iinc 4 (-1), 3), (73, .goto (-61), 3), (76, .aload_n 0, 1), (77, .invokevirtual 48, 3), (80, .iload_n 3, 1), (81, .ireturn, 1)]
def aM_X5_pickBy : aM := (yX5_pickBy, cX5_pickBy, 5, (some .int), aC_RX5, aL_X5_pickBy, 1156)
def aL_X6_read : List (Nat × Instr × Nat) := [(0, .aload_n 0, 1), (1, .getfield 15, 3), (4, .invokevirtual 19, 3), (7, .aload_n 0, 1), (8, .iconst 0, 1), (9, .putfield 24, 3), (12, .iconst 0, 1), (13, .istore_n 1, 1), (14, .iload_n 1, 1), (15, .sipush 240, 3), (18, .if_icmp .ge 57, 3), (21, .aload_n 0, 1), (22, .invokevirtual 28, 3), (25, .ifCond .ne 11, 3), (28, .aload_n 0, 1), (29, .getfield 15, 3), (32, .getfield 32, 3), (35, .ireturn, 1), (36, .aload_n 0, 1), (37, .getfield 15, 3), (40, .invokevirtual 35, 3), (43, .iconst (-1), 1), (44, .if_icmp .ne 5, 3), (47, .iconst (-1), 1), (48, .ireturn, 1), (49, .aload_n 0, 1), (50, .getfield 15, 3), (53, .bipush 59, 2), (55, .invokevirtual 39, 3), (58, .ifCond .ne 11, 3), (61, .aload_n 0, 1), (62, .getfield 15, 3), (65, .getfield 32, 3), (68, .ireturn, 1), (69, .iinc 1 1, 3), (72, .goto (-58), 3), (75, .aload_n 0, 1), (76, .getfield 15, 3), (79, .getfield 43, 3), (82, .ireturn, 1)]
def aM_X6_read : aM := (yX6_read, cX6_read, 2, (some .int), aC_RX6, aL_X6_read, 623)
def aL_X6_emit : List (Nat × Instr × Nat) := [(0, .aload_n 0, 1), (1, .getfield 24, 3), (4, .sipush 240, 3), (7, .if_icmp .ge 23, 3), (10, .aload_n 0, 1), (11, .getfield 9, 3), (14, .aload_n 0, 1), (15, .getfield 24, 3), (18, .iload_n 1, 1), (19, .iastore, 1), (20, .aload_n 0, 1), (21, .dup, 1), (22, .getfield 24, 3), (25, .iconst 1, 1), (26, .iadd, 1), (27, .putfield 24, 3), (30, .return_, 1)]
def aM_X6_emit : aM := (yX6_emit, cX6_emit, 2, none, aC_RX6, aL_X6_emit, 650)
def aL_X6_readClause : List (Nat × Instr × Nat) := [(0, .aload_n 0, 1), (1, .getfield 15, 3), (4, .bipush 121, 2), (6, .invokevirtual 39, 3), (9, .ifCond .eq 15, 3), (12, .aload_n 0, 1), (13, .getfield 15, 3), (16, .bipush 58, 2), (18, .invokevirtual 39, 3), (21, .ifCond .ne 5, 3), (24, .iconst 0, 1), (25, .ireturn, 1), (26, .aload_n 0, 1), (27, .getfield 15, 3), (30, .invokevirtual 35, 3), (33, .istore_n 1, 1), (34, .iload_n 1, 1), (35, .bipush 33, 2), (37, .if_icmp .eq 13, 3), (40, .iload_n 1, 1), (41, .bipush 40, 2), (43, .if_icmp .eq 7, 3), (46, .iconst 1, 1), (47, .goto 4, 3), (50, .iconst 0, 1), (51, .istore_n 2, 1), (52, .iload_n 2, 1), (53, .ifCond .eq 13, 3), (56, .aload_n 0, 1), (57, .iconst 0, 1), (58, .invokevirtual 44, 3), (61, .ifCond .ne 5, 3), (64, .iconst 0, 1), (65, .ireturn, 1), (66, .iconst (-1), 1), (67, .istore_n 3, 1), (68, .iload_n 2, 1), (69, .ifCond .eq 17, 3), (72, .aload_n 0, 1), (73, .getfield 15, 3), (76, .invokevirtual 35, 3), (79, .invokestatic 47, 3), (82, .iconst (-1), 1), (83, .if_icmp .eq 47, 3), (86, .aload_n 0, 1), (87, .iconst 0, 1), (88, .iload_n 2, 1), (89, .invokevirtual 51, 3), (92, .ifCond .eq 15, 3), (95, .aload_n 0, 1), (96, .getfield 15, 3), (99, .bipush 63, 2), (101, .invokevirtual 39, 3), (104, .ifCond .ne 5, 3), (107, .iconst 0, 1), (108, .ireturn, 1), (109, .aload_n 0, 1), (110, .getfield 24, 3), (113, .istore_n 3, 1), (114, .aload_n 0, 1), (115, .bipush (-100), 2), (117, .invokevirtual 57, 3), (120, .aload_n 0, 1), (121, .iconst 0, 1), (122, .invokevirtual 44, 3), (125, .ifCond .ne 5, 3), (128, .iconst 0, 1), (129, .ireturn, 1), (130, .aload_n 0, 1), (131, .bipush (-20), 2), (133, .invokevirtual 57, 3), (136, .iload_n 3, 1), (137, .ifCond .lt 23, 3), (140, .iload_n 3, 1), (141, .sipush 240, 3), (144, .if_icmp .ge 16, 3), (147, .aload_n 0, 1), (148, .getfield 9, 3), (151, .iload_n 3, 1), (152, .bipush (-100), 2), (154, .aload_n 0, 1), (155, .getfield 24, 3), (158, .isub, 1), (159, .iastore, 1), (160, .iconst 1, 1), (161, .ireturn, 1)]
def aM_X6_readClause : aM := (yX6_readClause, cX6_readClause, 4, (some .boolean), aC_RX6, aL_X6_readClause, 628)
def aL_X6_readCondition : List (Nat × Instr × Nat) := [(0, .aload_n 0, 1), (1, .iload_n 1, 1), (2, .iload_n 2, 1), (3, .invokevirtual 61, 3), (6, .ifCond .ne 5, 3), (9, .iconst 0, 1), (10, .ireturn, 1), (11, .iconst 0, 1), (12, .istore_n 3, 1), (13, .iload_n 3, 1), (14, .sipush 240, 3), (17, .if_icmp .ge 45, 3), (20, .aload_n 0, 1), (21, .getfield 15, 3), (24, .invokevirtual 35, 3), (27, .bipush 124, 2), (29, .if_icmp .ne 33, 3), (32, .aload_n 0, 1), (33, .getfield 15, 3), (36, .invokevirtual 64, 3), (39, .aload_n 0, 1), (40, .iload_n 1, 1), (41, .iconst 0, 1), (42, .invokevirtual 61, 3), (45, .ifCond .ne 5, 3), (48, .iconst 0, 1), (49, .ireturn, 1), (50, .aload_n 0, 1), (51, .bipush (-18), 2), (53, .invokevirtual 57, 3), (56, .iinc 3 1, 3), (59, .goto (-46), 3), (62, .iconst 1, 1), (63, .ireturn, 1)]
def aM_X6_readCondition : aM := (yX6_readCondition, cX6_readCondition, 4, (some .boolean), aC_RX6, aL_X6_readCondition, 660)
def aL_X6_readTruth : List (Nat × Instr × Nat) := [(0, .aload_n 0, 1), (1, .iload_n 1, 1), (2, .iload_n 2, 1), (3, .invokevirtual 67, 3), (6, .ifCond .ne 5, 3), (9, .iconst 0, 1), (10, .ireturn, 1), (11, .iconst 0, 1), (12, .istore_n 3, 1), (13, .iload_n 3, 1), (14, .sipush 240, 3), (17, .if_icmp .ge 45, 3), (20, .aload_n 0, 1), (21, .getfield 15, 3), (24, .invokevirtual 35, 3), (27, .bipush 38, 2), (29, .if_icmp .ne 33, 3), (32, .aload_n 0, 1), (33, .getfield 15, 3), (36, .invokevirtual 64, 3), (39, .aload_n 0, 1), (40, .iload_n 1, 1), (41, .iconst 0, 1), (42, .invokevirtual 67, 3), (45, .ifCond .ne 5, 3), (48, .iconst 0, 1), (49, .ireturn, 1), (50, .aload_n 0, 1), (51, .bipush (-17), 2), (53, .invokevirtual 57, 3), (56, .iinc 3 1, 3), (59, .goto (-46), 3), (62, .iconst 1, 1), (63, .ireturn, 1)]
def aM_X6_readTruth : aM := (yX6_readTruth, cX6_readTruth, 4, (some .boolean), aC_RX6, aL_X6_readTruth, 664)
def aL_X6_readUnit : List (Nat × Instr × Nat) := [(0, .iload_n 2, 1), (1, .ifCond .eq 7, 3), (4, .iconst (-1), 1), (5, .goto 10, 3), (8, .aload_n 0, 1), (9, .getfield 15, 3), (12, .invokevirtual 35, 3), (15, .istore_n 3, 1), (16, .iload_n 3, 1), (17, .bipush 33, 2), (19, .if_icmp .eq 9, 3), (22, .iload_n 3, 1), (23, .bipush 40, 2), (25, .if_icmp .ne 10, 3), (28, .aload_n 0, 1), (29, .iload_n 1, 1), (30, .iload_n 3, 1), (31, .invokevirtual 70, 3), (34, .ireturn, 1), (35, .iload_n 2, 1), (36, .ifCond .ne 13, 3), (39, .aload_n 0, 1), (40, .iload_n 1, 1), (41, .invokevirtual 44, 3), (44, .ifCond .ne 5, 3), (47, .iconst 0, 1), (48, .ireturn, 1), (49, .aload_n 0, 1), (50, .getfield 15, 3), (53, .invokevirtual 35, 3), (56, .invokestatic 47, 3), (59, .istore 4, 2), (61, .iload 4, 2), (63, .iconst (-1), 1), (64, .if_icmp .ne 11, 3), (67, .aload_n 0, 1), (68, .getfield 15, 3), (71, .invokevirtual 74, 3), (74, .ireturn, 1), (75, .aload_n 0, 1), (76, .getfield 15, 3), (79, .invokevirtual 64, 3), (82, .aload_n 0, 1), (83, .iload_n 1, 1), (84, .invokevirtual 44, 3), (87, .ifCond .ne 5, 3), (90, .iconst 0, 1), (91, .ireturn, 1), (92, .aload_n 0, 1), (93, .iload 4, 2), (95, .invokevirtual 57, 3), (98, .iconst 1, 1), (99, .ireturn, 1)]
def aM_X6_readUnit : aM := (yX6_readUnit, cX6_readUnit, 5, (some .boolean), aC_RX6, aL_X6_readUnit, 668)
def aL_X6_readNested : List (Nat × Instr × Nat) := [(0, .iload_n 1, 1), (1, .bipush 6, 2), (3, .if_icmp .lt 11, 3), (6, .aload_n 0, 1), (7, .getfield 15, 3), (10, .invokevirtual 74, 3), (13, .ireturn, 1), (14, .aload_n 0, 1), (15, .getfield 15, 3), (18, .invokevirtual 64, 3), (21, .iload_n 2, 1), (22, .bipush 40, 2), (24, .if_icmp .ne 32, 3), (27, .aload_n 0, 1), (28, .iload_n 1, 1), (29, .iconst 1, 1), (30, .iadd, 1), (31, .iconst 0, 1), (32, .invokevirtual 51, 3), (35, .ifCond .eq 19, 3), (38, .aload_n 0, 1), (39, .getfield 15, 3), (42, .bipush 41, 2), (44, .invokevirtual 39, 3), (47, .ifCond .eq 7, 3), (50, .iconst 1, 1), (51, .goto 4, 3), (54, .iconst 0, 1), (55, .ireturn, 1), (56, .aload_n 0, 1), (57, .iload_n 1, 1), (58, .iconst 1, 1), (59, .iadd, 1), (60, .iconst 0, 1), (61, .invokevirtual 67, 3), (64, .ifCond .ne 5, 3), (67, .iconst 0, 1), (68, .ireturn, 1), (69, .aload_n 0, 1), (70, .bipush (-19), 2), (72, .invokevirtual 57, 3), (75, .iconst 1, 1), (76, .ireturn, 1)]
def aM_X6_readNested : aM := (yX6_readNested, cX6_readNested, 3, (some .boolean), aC_RX6, aL_X6_readNested, 672)
def aL_X6_readSum : List (Nat × Instr × Nat) := [(0, .aload_n 0, 1), (1, .iload_n 1, 1), (2, .invokevirtual 77, 3), (5, .ifCond .ne 5, 3), (8, .iconst 0, 1), (9, .ireturn, 1), (10, .iconst 0, 1), (11, .istore_n 2, 1), (12, .iload_n 2, 1), (13, .sipush 240, 3), (16, .if_icmp .ge 66, 3), (19, .aload_n 0, 1), (20, .getfield 15, 3), (23, .invokevirtual 35, 3), (26, .istore_n 3, 1), (27, .iload_n 3, 1), (28, .bipush 43, 2), (30, .if_icmp .eq 12, 3), (33, .iload_n 3, 1), (34, .bipush 45, 2), (36, .if_icmp .eq 6, 3), (39, .goto 43, 3), (42, .aload_n 0, 1), (43, .getfield 15, 3), (46, .invokevirtual 64, 3), (49, .aload_n 0, 1), (50, .iload_n 1, 1), (51, .invokevirtual 77, 3), (54, .ifCond .ne 5, 3), (57, .iconst 0, 1), (58, .ireturn, 1), (59, .aload_n 0, 1), (60, .iload_n 3, 1), (61, .bipush 43, 2), (63, .if_icmp .ne 8, 3), (66, .bipush (-10), 2), (68, .goto 5, 3), (71, .bipush (-11), 2), (73, .invokevirtual 57, 3), (76, .iinc 2 1, 3), (79, .goto (-67), 3), (82, .iconst 1, 1), (83, .ireturn, 1)]
def aM_X6_readSum : aM := (yX6_readSum, cX6_readSum, 4, (some .boolean), aC_RX6, aL_X6_readSum, 634)
def aL_X6_readTerm : List (Nat × Instr × Nat) := [(0, .aload_n 0, 1), (1, .iload_n 1, 1), (2, .invokevirtual 80, 3), (5, .ifCond .ne 5, 3), (8, .iconst 0, 1), (9, .ireturn, 1), (10, .iconst 0, 1), (11, .istore_n 2, 1), (12, .iload_n 2, 1), (13, .sipush 240, 3), (16, .if_icmp .ge 66, 3), (19, .aload_n 0, 1), (20, .getfield 15, 3), (23, .invokevirtual 35, 3), (26, .istore_n 3, 1), (27, .iload_n 3, 1), (28, .bipush 42, 2), (30, .if_icmp .eq 12, 3), (33, .iload_n 3, 1), (34, .bipush 47, 2), (36, .if_icmp .eq 6, 3), (39, .goto 43, 3), (42, .aload_n 0, 1), (43, .getfield 15, 3), (46, .invokevirtual 64, 3), (49, .aload_n 0, 1), (50, .iload_n 1, 1), (51, .invokevirtual 80, 3), (54, .ifCond .ne 5, 3), (57, .iconst 0, 1), (58, .ireturn, 1), (59, .aload_n 0, 1), (60, .iload_n 3, 1), (61, .bipush 42, 2), (63, .if_icmp .ne 8, 3), (66, .bipush (-12), 2), (68, .goto 5, 3), (71, .bipush (-13), 2), (73, .invokevirtual 57, 3), (76, .iinc 2 1, 3), (79, .goto (-67), 3), (82, .iconst 1, 1), (83, .ireturn, 1)]
def aM_X6_readTerm : aM := (yX6_readTerm, cX6_readTerm, 4, (some .boolean), aC_RX6, aL_X6_readTerm, 638)
def aL_X6_readAtom : List (Nat × Instr × Nat) := [(0, .aload_n 0, 1), (1, .getfield 15, 3), (4, .invokevirtual 35, 3), (7, .istore_n 2, 1), (8, .iload_n 2, 1), (9, .bipush 91, 2), (11, .if_icmp .ne 52, 3), (14, .iload_n 1, 1), (15, .bipush 6, 2), (17, .if_icmp .lt 11, 3), (20, .aload_n 0, 1), (21, .getfield 15, 3), (24, .invokevirtual 74, 3), (27, .ireturn, 1), (28, .aload_n 0, 1), (29, .getfield 15, 3), (32, .invokevirtual 64, 3), (35, .aload_n 0, 1), (36, .iload_n 1, 1), (37, .iconst 1, 1), (38, .iadd, 1), (39, .invokevirtual 44, 3), (42, .ifCond .eq 19, 3), (45, .aload_n 0, 1), (46, .getfield 15, 3), (49, .bipush 93, 2), (51, .invokevirtual 39, 3), (54, .ifCond .eq 7, 3), (57, .iconst 1, 1), (58, .goto 4, 3), (61, .iconst 0, 1), (62, .ireturn, 1), (63, .iload_n 2, 1), (64, .invokestatic 83, 3), (67, .ifCond .eq 32, 3), (70, .aload_n 0, 1), (71, .getfield 15, 3), (74, .iconst 4, 1), (75, .iconst 0, 1), (76, .sipush 9999, 3), (79, .invokevirtual 86, 3), (82, .istore_n 3, 1), (83, .aload_n 0, 1), (84, .iload_n 3, 1), (85, .invokevirtual 57, 3), (88, .iload_n 3, 1), (89, .iconst (-1), 1), (90, .if_icmp .eq 7, 3), (93, .iconst 1, 1), (94, .goto 4, 3), (97, .iconst 0, 1), (98, .ireturn, 1), (99, .iload_n 2, 1), (100, .invokestatic 90, 3), (103, .istore_n 3, 1), (104, .iload_n 3, 1), (105, .iconst (-1), 1), (106, .if_icmp .ne 11, 3), (109, .aload_n 0, 1), (110, .getfield 15, 3), (113, .invokevirtual 74, 3), (116, .ireturn, 1), (117, .aload_n 0, 1), (118, .getfield 15, 3), (121, .invokevirtual 64, 3), (124, .aload_n 0, 1), (125, .bipush (-2), 2), (127, .iload_n 3, 1), (128, .isub, 1), (129, .invokevirtual 57, 3), (132, .iconst 1, 1), (133, .ireturn, 1)]
def aM_X6_readAtom : aM := (yX6_readAtom, cX6_readAtom, 4, (some .boolean), aC_RX6, aL_X6_readAtom, 642)
def aL_X6_comparison : List (Nat × Instr × Nat) := [(0, .iload_n 0, 1), (1, .tableswitch 36 60 62 #[30, 27, 33], 27), (28, .bipush (-14), 2), (30, .ireturn, 1), (31, .bipush (-15), 2), (33, .ireturn, 1), (34, .bipush (-16), 2), (36, .ireturn, 1), (37, .iconst (-1), 1), (38, .ireturn, 1)]
def aM_X6_comparison : aM := (yX6_comparison, cX6_comparison, 1, (some .int), aC_RX6, aL_X6_comparison, 656)
def aL_X6_letterOf : List (Nat × Instr × Nat) := [(0, .iload_n 0, 1), (1, .tableswitch 113 99 118 #[107, 101, 113, 113, 113, 113, 110, 113, 97, 113, 113, 103, 113, 105, 113, 113, 99, 113, 113, 95], 95), (96, .iconst 0, 1), (97, .ireturn, 1), (98, .iconst 1, 1), (99, .ireturn, 1), (100, .iconst 2, 1), (101, .ireturn, 1), (102, .iconst 3, 1), (103, .ireturn, 1), (104, .iconst 4, 1), (105, .ireturn, 1), (106, .iconst 5, 1), (107, .ireturn, 1), (108, .bipush 6, 2), (110, .ireturn, 1), (111, .bipush 7, 2), (113, .ireturn, 1), (114, .iconst (-1), 1), (115, .ireturn, 1)]
def aM_X6_letterOf : aM := (yX6_letterOf, cX6_letterOf, 1, (some .int), aC_RX6, aL_X6_letterOf, 653)
def aL_X7_has : List (Nat × Instr × Nat) := [(0, .iload_n 1, 1), (1, .ifCond .lt 15, 3), (4, .iload_n 1, 1), (5, .aload_n 0, 1), (6, .getfield 29, 3), (9, .if_icmp .ge 7, 3), (12, .iconst 1, 1), (13, .goto 4, 3), (16, .iconst 0, 1), (17, .ireturn, 1)]
def aM_X7_has : aM := (yX7_has, cX7_has, 2, (some .boolean), aC_RX7, aL_X7_has, 751)
def aL_X7_add : List (Nat × Instr × Nat) := [(0, .aload_n 1, 1), (1, .iconst 0, 1), (2, .aload_n 0, 1), (3, .getfield 13, 3), (6, .aload_n 0, 1), (7, .getfield 29, 3), (10, .aaload, 1), (11, .iconst 0, 1), (12, .iload_n 2, 1), (13, .invokestatic 33, 3), (16, .aload_n 0, 1), (17, .getfield 16, 3), (20, .aload_n 0, 1), (21, .getfield 29, 3), (24, .iload_n 2, 1), (25, .iastore, 1), (26, .aload_n 0, 1), (27, .getfield 26, 3), (30, .aload_n 0, 1), (31, .getfield 29, 3), (34, .aaload, 1), (35, .iconst (-1), 1), (36, .invokestatic 39, 3), (39, .aload_n 0, 1), (40, .dup, 1), (41, .getfield 29, 3), (44, .iconst 1, 1), (45, .iadd, 1), (46, .putfield 29, 3), (49, .aload_n 0, 1), (50, .getfield 29, 3), (53, .iconst 1, 1), (54, .isub, 1), (55, .ireturn, 1)]
def aM_X7_add : aM := (yX7_add, cX7_add, 3, (some .int), aC_RX7, aL_X7_add, 696)
def aL_X7_tellOfWish : List (Nat × Instr × Nat) := [(0, .aload_n 0, 1), (1, .getfield 20, 3), (4, .iconst 0, 1), (5, .invokestatic 39, 3), (8, .aload_n 0, 1), (9, .getfield 20, 3), (12, .iconst 0, 1), (13, .iload_n 1, 1), (14, .iastore, 1), (15, .aload_n 0, 1), (16, .getfield 20, 3), (19, .iconst 1, 1), (20, .iload_n 2, 1), (21, .iastore, 1), (22, .aload_n 0, 1), (23, .getfield 20, 3), (26, .iconst 2, 1), (27, .iload_n 3, 1), (28, .iastore, 1), (29, .aload_n 0, 1), (30, .getfield 20, 3), (33, .iconst 3, 1), (34, .iload 4, 2), (36, .iastore, 1), (37, .aload_n 0, 1), (38, .getfield 20, 3), (41, .iconst 4, 1), (42, .iload 5, 2), (44, .iastore, 1), (45, .return_, 1)]
def aM_X7_tellOfWish : aM := (yX7_tellOfWish, cX7_tellOfWish, 6, none, aC_RX7, aL_X7_tellOfWish, 1095)
def aL_X7_likes : List (Nat × Instr × Nat) := [(0, .aload_n 0, 1), (1, .iload_n 1, 1), (2, .invokevirtual 45, 3), (5, .ifCond .eq 23, 3), (8, .iload_n 2, 1), (9, .ifCond .lt 19, 3), (12, .iload_n 2, 1), (13, .bipush 16, 2), (15, .if_icmp .ge 13, 3), (18, .iload_n 3, 1), (19, .ifCond .lt 9, 3), (22, .iload_n 3, 1), (23, .bipush 9, 2), (25, .if_icmp .le 5, 3), (28, .iconst 0, 1), (29, .ireturn, 1), (30, .iload_n 2, 1), (31, .bipush 10, 2), (33, .imul, 1), (34, .iload_n 3, 1), (35, .iadd, 1), (36, .istore 5, 2), (38, .aload_n 0, 1), (39, .getfield 26, 3), (42, .iload_n 1, 1), (43, .aaload, 1), (44, .iload 5, 2), (46, .iaload, 1), (47, .iconst (-1), 1), (48, .if_icmp .ne 19, 3), (51, .aload_n 0, 1), (52, .getfield 26, 3), (55, .iload_n 1, 1), (56, .aaload, 1), (57, .iload 5, 2), (59, .aload_n 0, 1), (60, .iload_n 1, 1), (61, .iload_n 2, 1), (62, .iload_n 3, 1), (63, .invokevirtual 49, 3), (66, .iastore, 1), (67, .aload_n 0, 1), (68, .getfield 26, 3), (71, .iload_n 1, 1), (72, .aaload, 1), (73, .iload 5, 2), (75, .iaload, 1), (76, .iload 4, 2), (78, .ishr, 1), (79, .iconst 1, 1), (80, .iand, 1), (81, .iconst 1, 1), (82, .if_icmp .ne 7, 3), (85, .iconst 1, 1), (86, .goto 4, 3), (89, .iconst 0, 1), (90, .ireturn, 1)]
def aM_X7_likes : aM := (yX7_likes, cX7_likes, 6, (some .boolean), aC_RX7, aL_X7_likes, 1207)
def aL_X7_signsLiked : List (Nat × Instr × Nat) := [(0, .aload_n 0, 1), (1, .getfield 20, 3), (4, .iconst 0, 1), (5, .invokestatic 39, 3), (8, .aload_n 0, 1), (9, .getfield 20, 3), (12, .iconst 5, 1), (13, .iload_n 3, 1), (14, .iastore, 1), (15, .aload_n 0, 1), (16, .getfield 20, 3), (19, .bipush 7, 2), (21, .iload_n 2, 1), (22, .iastore, 1), (23, .iconst 0, 1), (24, .istore 4, 2), (26, .iconst 0, 1), (27, .istore 5, 2), (29, .iload 5, 2), (31, .bipush 9, 2), (33, .if_icmp .gt 35, 3), (36, .aload_n 0, 1), (37, .getfield 20, 3), (40, .bipush 6, 2), (42, .iload 5, 2), (44, .iastore, 1), (45, .aload_n 0, 1), (46, .iload_n 1, 1), (47, .invokevirtual 53, 3), (50, .ifCond .le 12, 3), (53, .iload 4, 2), (55, .iconst 1, 1), (56, .iload 5, 2), (58, .ishl, 1), (59, .ior, 1), (60, .istore 4, 2), (62, .iinc 5 1, 3), (65, .goto (-36), 3), (68, .iload 4, 2), (70, .ireturn, 1)]
def aM_X7_signsLiked : aM := (yX7_signsLiked, cX7_signsLiked, 6, (some .int), aC_RX7, aL_X7_signsLiked, 1211)
def aL_X7_worth : List (Nat × Instr × Nat) := [(0, .aload_n 0, 1), (1, .iload_n 1, 1), (2, .invokevirtual 45, 3), (5, .ifCond .ne 5, 3), (8, .iconst 0, 1), (9, .ireturn, 1), (10, .aload_n 0, 1), (11, .getfield 13, 3), (14, .iload_n 1, 1), (15, .aaload, 1), (16, .astore_n 2, 1), (17, .aload_n 0, 1), (18, .getfield 16, 3), (21, .iload_n 1, 1), (22, .iaload, 1), (23, .aload_n 2, 1), (24, .arraylength, 1), (25, .invokestatic 57, 3), (28, .istore_n 3, 1), (29, .aload_n 0, 1), (30, .iconst 0, 1), (31, .putfield 63, 3), (34, .iconst 0, 1), (35, .istore 4, 2), (37, .iload 4, 2), (39, .iload_n 3, 1), (40, .if_icmp .ge 146, 3), (43, .aload_n 2, 1), (44, .iload 4, 2), (46, .iaload, 1), (47, .istore 5, 2), (49, .iload 5, 2), (51, .ifCond .lt 12, 3), (54, .aload_n 0, 1), (55, .iload 5, 2), (57, .invokevirtual 66, 3), (60, .goto 120, 3), (63, .iload 5, 2), (65, .bipush (-2), 2), (67, .if_icmp .gt 27, 3), (70, .iload 5, 2), (72, .bipush (-9), 2), (74, .if_icmp .lt 20, 3), (77, .aload_n 0, 1), (78, .aload_n 0, 1), (79, .getfield 20, 3), (82, .bipush (-2), 2), (84, .iload 5, 2), (86, .isub, 1), (87, .iaload, 1), (88, .invokevirtual 66, 3), (91, .goto 89, 3), (94, .iload 5, 2), (96, .bipush (-20), 2), (98, .if_icmp .ne 8, 3), (101, .aload_n 0, 1), (102, .invokevirtual 70, 3), (105, .ireturn, 1), (106, .iload 5, 2), (108, .bipush (-19), 2), (110, .if_icmp .ne 16, 3), (113, .aload_n 0, 1), (114, .iconst 1, 1), (115, .aload_n 0, 1), (116, .invokevirtual 70, 3), (119, .isub, 1), (120, .invokevirtual 66, 3), (123, .goto 57, 3), (126, .iload 5, 2), (128, .bipush (-100), 2), (130, .if_icmp .le 29, 3), (133, .aload_n 0, 1), (134, .invokevirtual 70, 3), (137, .istore 6, 2), (139, .aload_n 0, 1), (140, .iload 5, 2), (142, .aload_n 0, 1), (143, .invokevirtual 70, 3), (146, .i2l, 1), (147, .iload 6, 2), (149, .i2l, 1), (150, .invokestatic 74, 3), (153, .invokevirtual 66, 3), (156, .goto 24, 3), (159, .aload_n 0, 1), (160, .invokevirtual 70, 3), (163, .ifCond .ne 17, 3), (166, .iload 4, 2), (168, .bipush (-100), 2), (170, .iload 5, 2), (172, .isub, 1), (173, .iconst 1, 1), (174, .isub, 1), (175, .invokestatic 78, 3), (178, .istore 4, 2), (180, .iinc 4 1, 3), (183, .goto (-146), 3), (186, .iconst 0, 1), (187, .ireturn, 1)]
def aM_X7_worth : aM := (yX7_worth, cX7_worth, 7, (some .int), aC_RX7, aL_X7_worth, 1099)
def aL_X7_joined : List (Nat × Instr × Nat) := [(0, .iload_n 0, 1), (1, .tableswitch 81 (-18) (-14) #[76, 71, 59, 47, 35], 35), (36, .lload_n 1, 1), (37, .lload_n 3, 1), (38, .lcmp, 1), (39, .ifCond .ne 7, 3), (42, .iconst 1, 1), (43, .goto 4, 3), (46, .iconst 0, 1), (47, .ireturn, 1), (48, .lload_n 1, 1), (49, .lload_n 3, 1), (50, .lcmp, 1), (51, .ifCond .ge 7, 3), (54, .iconst 1, 1), (55, .goto 4, 3), (58, .iconst 0, 1), (59, .ireturn, 1), (60, .lload_n 1, 1), (61, .lload_n 3, 1), (62, .lcmp, 1), (63, .ifCond .le 7, 3), (66, .iconst 1, 1), (67, .goto 4, 3), (70, .iconst 0, 1), (71, .ireturn, 1), (72, .lload_n 1, 1), (73, .lload_n 3, 1), (74, .land, 1), (75, .l2i, 1), (76, .ireturn, 1), (77, .lload_n 1, 1), (78, .lload_n 3, 1), (79, .lor, 1), (80, .l2i, 1), (81, .ireturn, 1), (82, .iload_n 0, 1), (83, .lload_n 1, 1), (84, .lload_n 3, 1), (85, .invokestatic 81, 3), (88, .ireturn, 1)]
def aM_X7_joined : aM := (yX7_joined, cX7_joined, 5, (some .int), aC_RX7, aL_X7_joined, 1112)
def aL_X7_reckoned : List (Nat × Instr × Nat) := [(0, .lconst 0, 1), (1, .lstore 5, 2), (3, .iload_n 0, 1), (4, .bipush (-10), 2), (6, .if_icmp .ne 11, 3), (9, .lload_n 1, 1), (10, .lload_n 3, 1), (11, .ladd, 1), (12, .lstore 5, 2), (14, .goto 42, 3), (17, .iload_n 0, 1), (18, .bipush (-11), 2), (20, .if_icmp .ne 11, 3), (23, .lload_n 1, 1), (24, .lload_n 3, 1), (25, .lsub, 1), (26, .lstore 5, 2), (28, .goto 28, 3), (31, .iload_n 0, 1), (32, .bipush (-12), 2), (34, .if_icmp .ne 11, 3), (37, .lload_n 1, 1), (38, .lload_n 3, 1), (39, .lmul, 1), (40, .lstore 5, 2), (42, .goto 14, 3), (45, .lload_n 3, 1), (46, .lconst 0, 1), (47, .lcmp, 1), (48, .ifCond .eq 8, 3), (51, .lload_n 1, 1), (52, .lload_n 3, 1), (53, .ldiv, 1), (54, .lstore 5, 2), (56, .ldc2_w 84, 3), (59, .ldc2_w 86, 3), (62, .lload 5, 2), (64, .invokestatic 88, 3), (67, .invokestatic 91, 3), (70, .l2i, 1), (71, .ireturn, 1)]
def aM_X7_reckoned : aM := (yX7_reckoned, cX7_reckoned, 7, (some .int), aC_RX7, aL_X7_reckoned, 1115)
def aL_X7_push : List (Nat × Instr × Nat) := [(0, .aload_n 0, 1), (1, .getfield 63, 3), (4, .aload_n 0, 1), (5, .getfield 23, 3), (8, .arraylength, 1), (9, .if_icmp .ge 23, 3), (12, .aload_n 0, 1), (13, .getfield 23, 3), (16, .aload_n 0, 1), (17, .getfield 63, 3), (20, .iload_n 1, 1), (21, .iastore, 1), (22, .aload_n 0, 1), (23, .dup, 1), (24, .getfield 63, 3), (27, .iconst 1, 1), (28, .iadd, 1), (29, .putfield 63, 3), (32, .return_, 1)]
def aM_X7_push : aM := (yX7_push, cX7_push, 2, none, aC_RX7, aL_X7_push, 1105)
def aL_X7_pop : List (Nat × Instr × Nat) := [(0, .aload_n 0, 1), (1, .getfield 63, 3), (4, .ifCond .gt 5, 3), (7, .iconst 0, 1), (8, .ireturn, 1), (9, .aload_n 0, 1), (10, .dup, 1), (11, .getfield 63, 3), (14, .iconst 1, 1), (15, .isub, 1), (16, .putfield 63, 3), (19, .aload_n 0, 1), (20, .getfield 23, 3), (23, .aload_n 0, 1), (24, .getfield 63, 3), (27, .iaload, 1), (28, .ireturn, 1)]
def aM_X7_pop : aM := (yX7_pop, cX7_pop, 1, (some .int), aC_RX7, aL_X7_pop, 1109)
def aL_X8_forget : List (Nat × Instr × Nat) := [(0, .aload_n 0, 1), (1, .iconst 0, 1), (2, .putfield 20, 3), (5, .aload_n 0, 1), (6, .iconst 0, 1), (7, .putfield 24, 3), (10, .return_, 1)]
def aM_X8_forget : aM := (yX8_forget, cX8_forget, 1, none, aC_RX8, aL_X8_forget, 692)
def aL_X8_keep : List (Nat × Instr × Nat) := [(0, .aload_n 1, 1), (1, .iconst 0, 1), (2, .aload_n 0, 1), (3, .getfield 11, 3), (6, .aload_n 0, 1), (7, .getfield 28, 3), (10, .aaload, 1), (11, .iconst 0, 1), (12, .bipush 67, 2), (14, .invokestatic 31, 3), (17, .aload_n 0, 1), (18, .aload_n 0, 1), (19, .getfield 28, 3), (22, .iconst 1, 1), (23, .iadd, 1), (24, .bipush 40, 2), (26, .irem, 1), (27, .putfield 28, 3), (30, .aload_n 0, 1), (31, .aload_n 0, 1), (32, .getfield 20, 3), (35, .iconst 1, 1), (36, .iadd, 1), (37, .bipush 40, 2), (39, .invokestatic 37, 3), (42, .putfield 20, 3), (45, .return_, 1)]
def aM_X8_keep : aM := (yX8_keep, cX8_keep, 2, none, aC_RX8, aL_X8_keep, 860)
def aL_X8_takeBack : List (Nat × Instr × Nat) := [(0, .aload_n 0, 1), (1, .getfield 20, 3), (4, .ifCond .ne 5, 3), (7, .iconst 0, 1), (8, .ireturn, 1), (9, .aload_n 0, 1), (10, .aload_n 0, 1), (11, .getfield 28, 3), (14, .bipush 40, 2), (16, .iadd, 1), (17, .iconst 1, 1), (18, .isub, 1), (19, .bipush 40, 2), (21, .irem, 1), (22, .putfield 28, 3), (25, .aload_n 0, 1), (26, .dup, 1), (27, .getfield 20, 3), (30, .iconst 1, 1), (31, .isub, 1), (32, .putfield 20, 3), (35, .aload_n 0, 1), (36, .getfield 11, 3), (39, .aload_n 0, 1), (40, .getfield 28, 3), (43, .aaload, 1), (44, .iconst 0, 1), (45, .aload_n 1, 1), (46, .iconst 0, 1), (47, .bipush 67, 2), (49, .invokestatic 31, 3), (52, .iconst 1, 1), (53, .ireturn, 1)]
def aM_X8_takeBack : aM := (yX8_takeBack, cX8_takeBack, 2, (some .boolean), aC_RX8, aL_X8_takeBack, 910)
def aL_X8_keepImage : List (Nat × Instr × Nat) := [(0, .aload_n 1, 1), (1, .iconst 0, 1), (2, .aload_n 0, 1), (3, .getfield 16, 3), (6, .iconst 0, 1), (7, .bipush 67, 2), (9, .invokestatic 31, 3), (12, .aload_n 0, 1), (13, .iconst 1, 1), (14, .putfield 24, 3), (17, .return_, 1)]
def aM_X8_keepImage : aM := (yX8_keepImage, cX8_keepImage, 2, none, aC_RX8, aL_X8_keepImage, 918)
def aL_X8_bringBack : List (Nat × Instr × Nat) := [(0, .aload_n 0, 1), (1, .getfield 24, 3), (4, .ifCond .ne 5, 3), (7, .iconst 0, 1), (8, .ireturn, 1), (9, .aload_n 0, 1), (10, .getfield 16, 3), (13, .iconst 0, 1), (14, .aload_n 1, 1), (15, .iconst 0, 1), (16, .bipush 67, 2), (18, .invokestatic 31, 3), (21, .aload_n 0, 1), (22, .iconst 0, 1), (23, .putfield 20, 3), (26, .iconst 1, 1), (27, .ireturn, 1)]
def aM_X8_bringBack : aM := (yX8_bringBack, cX8_bringBack, 2, (some .boolean), aC_RX8, aL_X8_bringBack, 926)
def aL_X9_bytesOf : List (Nat × Instr × Nat) := [(0, .iconst 0, 1), (1, .istore_n 1, 1), (2, .bipush 24, 2), (4, .istore_n 2, 1), (5, .iload_n 2, 1), (6, .ifCond .lt 22, 3), (9, .iload_n 0, 1), (10, .iload_n 2, 1), (11, .iushr, 1), (12, .sipush 255, 3), (15, .iand, 1), (16, .ifCond .eq 6, 3), (19, .iinc 1 1, 3), (22, .iinc 2 (-8), 3), (25, .goto (-20), 3), (28, .iload_n 1, 1), (29, .ireturn, 1)]
def aM_X9_bytesOf : aM := (yX9_bytesOf, cX9_bytesOf, 3, (some .int), aC_RX9, aL_X9_bytesOf, 505)
def aL_X9_add : List (Nat × Instr × Nat) := [(0, .bipush 24, 2), (2, .istore_n 2, 1), (3, .iload_n 2, 1), (4, .ifCond .lt 51, 3), (7, .iload_n 1, 1), (8, .iload_n 2, 1), (9, .iushr, 1), (10, .sipush 255, 3), (13, .iand, 1), (14, .istore_n 3, 1), (15, .iload_n 3, 1), (16, .ifCond .eq 33, 3), (19, .aload_n 0, 1), (20, .getfield 15, 3), (23, .sipush 240, 3), (26, .if_icmp .ge 23, 3), (29, .aload_n 0, 1), (30, .getfield 9, 3), (33, .aload_n 0, 1), (34, .getfield 15, 3), (37, .iload_n 3, 1), (38, .iastore, 1), (39, .aload_n 0, 1), (40, .dup, 1), (41, .getfield 15, 3), (44, .iconst 1, 1), (45, .iadd, 1), (46, .putfield 15, 3), (49, .iinc 2 (-8), 3), (52, .goto (-49), 3), (55, .return_, 1)]
def aM_X9_add : aM := (yX9_add, cX9_add, 4, none, aC_RX9, aL_X9_add, 509)
def aL_X9_rewind : List (Nat × Instr × Nat) := [(0, .aload_n 0, 1), (1, .iconst 0, 1), (2, .putfield 19, 3), (5, .aload_n 0, 1), (6, .iconst (-1), 1), (7, .putfield 22, 3), (10, .return_, 1)]
def aM_X9_rewind : aM := (yX9_rewind, cX9_rewind, 1, none, aC_RX9, aL_X9_rewind, 525)
def aL_X9_peek : List (Nat × Instr × Nat) := [(0, .aload_n 0, 1), (1, .getfield 19, 3), (4, .aload_n 0, 1), (5, .getfield 15, 3), (8, .if_icmp .ge 40, 3), (11, .aload_n 0, 1), (12, .getfield 19, 3), (15, .sipush 240, 3), (18, .if_icmp .ge 30, 3), (21, .aload_n 0, 1), (22, .getfield 9, 3), (25, .aload_n 0, 1), (26, .getfield 19, 3), (29, .iaload, 1), (30, .bipush 32, 2), (32, .if_icmp .ne 16, 3), (35, .aload_n 0, 1), (36, .dup, 1), (37, .getfield 19, 3), (40, .iconst 1, 1), (41, .iadd, 1), (42, .putfield 19, 3), (45, .goto (-45), 3), (48, .aload_n 0, 1), (49, .getfield 19, 3), (52, .aload_n 0, 1), (53, .getfield 15, 3), (56, .if_icmp .ge 25, 3), (59, .aload_n 0, 1), (60, .getfield 19, 3), (63, .sipush 240, 3), (66, .if_icmp .ge 15, 3), (69, .aload_n 0, 1), (70, .getfield 9, 3), (73, .aload_n 0, 1), (74, .getfield 19, 3), (77, .iaload, 1), (78, .goto 4, 3), (81, .iconst (-1), 1), (82, .ireturn, 1)]
def aM_X9_peek : aM := (yX9_peek, cX9_peek, 1, (some .int), aC_RX9, aL_X9_peek, 540)
def aL_X9_skip : List (Nat × Instr × Nat) := [(0, .aload_n 0, 1), (1, .dup, 1), (2, .getfield 19, 3), (5, .iconst 1, 1), (6, .iadd, 1), (7, .putfield 19, 3), (10, .return_, 1)]
def aM_X9_skip : aM := (yX9_skip, cX9_skip, 1, none, aC_RX9, aL_X9_skip, 552)
def aL_X9_fails : List (Nat × Instr × Nat) := [(0, .aload_n 0, 1), (1, .aload_n 0, 1), (2, .getfield 19, 3), (5, .putfield 22, 3), (8, .iconst 0, 1), (9, .ireturn, 1)]
def aM_X9_fails : aM := (yX9_fails, cX9_fails, 1, (some .boolean), aC_RX9, aL_X9_fails, 548)
def aL_X9_must : List (Nat × Instr × Nat) := [(0, .aload_n 0, 1), (1, .invokevirtual 25, 3), (4, .iload_n 1, 1), (5, .if_icmp .eq 8, 3), (8, .aload_n 0, 1), (9, .invokevirtual 29, 3), (12, .ireturn, 1), (13, .aload_n 0, 1), (14, .invokevirtual 33, 3), (17, .iconst 1, 1), (18, .ireturn, 1)]
def aM_X9_must : aM := (yX9_must, cX9_must, 2, (some .boolean), aC_RX9, aL_X9_must, 579)
def aL_X9_number : List (Nat × Instr × Nat) := [(0, .iconst 0, 1), (1, .istore 4, 2), (3, .iconst 0, 1), (4, .istore 5, 2), (6, .aload_n 0, 1), (7, .invokevirtual 25, 3), (10, .istore 6, 2), (12, .iload 6, 2), (14, .invokestatic 36, 3), (17, .ifCond .eq 68, 3), (20, .iload 5, 2), (22, .iload_n 1, 1), (23, .if_icmp .ge 62, 3), (26, .iload 4, 2), (28, .bipush 10, 2), (30, .imul, 1), (31, .iload 6, 2), (33, .iadd, 1), (34, .bipush 48, 2), (36, .isub, 1), (37, .istore 4, 2), (39, .iinc 5 1, 3), (42, .aload_n 0, 1), (43, .invokevirtual 33, 3), (46, .aload_n 0, 1), (47, .getfield 19, 3), (50, .aload_n 0, 1), (51, .getfield 15, 3), (54, .if_icmp .ge 25, 3), (57, .aload_n 0, 1), (58, .getfield 19, 3), (61, .sipush 240, 3), (64, .if_icmp .ge 15, 3), (67, .aload_n 0, 1), (68, .getfield 9, 3), (71, .aload_n 0, 1), (72, .getfield 19, 3), (75, .iaload, 1), (76, .goto 4, 3), (79, .iconst (-1), 1), (80, .istore 6, 2), (82, .goto (-70), 3), (85, .iload 5, 2), (87, .ifCond .eq 11, 3), (90, .iload 6, 2), (92, .invokestatic 36, 3), (95, .ifCond .eq 13, 3), (98, .aload_n 0, 1), (99, .aload_n 0, 1), (100, .getfield 19, 3), (103, .putfield 22, 3), (106, .iconst (-1), 1), (107, .ireturn, 1), (108, .iload 4, 2), (110, .iload_n 2, 1), (111, .if_icmp .lt 9, 3), (114, .iload 4, 2), (116, .iload_n 3, 1), (117, .if_icmp .le 15, 3), (120, .aload_n 0, 1), (121, .aload_n 0, 1), (122, .getfield 19, 3), (125, .iconst 1, 1), (126, .isub, 1), (127, .putfield 22, 3), (130, .iconst (-1), 1), (131, .ireturn, 1), (132, .iload 4, 2), (134, .ireturn, 1)]
def aM_X9_number : aM := (yX9_number, cX9_number, 7, (some .int), aC_RX9, aL_X9_number, 567)
def aL_X9_isDigit : List (Nat × Instr × Nat) := [(0, .iload_n 0, 1), (1, .bipush 48, 2), (3, .if_icmp .lt 13, 3), (6, .iload_n 0, 1), (7, .bipush 57, 2), (9, .if_icmp .gt 7, 3), (12, .iconst 1, 1), (13, .goto 4, 3), (16, .iconst 0, 1), (17, .ireturn, 1)]
def aM_X9_isDigit : aM := (yX9_isDigit, cX9_isDigit, 1, (some .boolean), aC_RX9, aL_X9_isDigit, 571)
def aL_X10_read : List (Nat × Instr × Nat) := [(0, .aload_n 0, 1), (1, .getfield 9, 3), (4, .invokevirtual 15, 3), (7, .aload_n 1, 1), (8, .invokevirtual 20, 3), (11, .iconst 0, 1), (12, .istore_n 2, 1), (13, .iload_n 2, 1), (14, .sipush 240, 3), (17, .if_icmp .ge 59, 3), (20, .aload_n 0, 1), (21, .aload_n 1, 1), (22, .invokevirtual 25, 3), (25, .ifCond .ne 11, 3), (28, .aload_n 0, 1), (29, .getfield 9, 3), (32, .getfield 29, 3), (35, .ireturn, 1), (36, .aload_n 0, 1), (37, .getfield 9, 3), (40, .invokevirtual 33, 3), (43, .iconst (-1), 1), (44, .if_icmp .ne 6, 3), (47, .goto 29, 3), (50, .aload_n 0, 1), (51, .getfield 9, 3), (54, .bipush 59, 2), (56, .invokevirtual 37, 3), (59, .ifCond .ne 11, 3), (62, .aload_n 0, 1), (63, .getfield 9, 3), (66, .getfield 29, 3), (69, .ireturn, 1), (70, .iinc 2 1, 3), (73, .goto (-60), 3), (76, .aload_n 1, 1), (77, .invokevirtual 41, 3), (80, .ifCond .eq 7, 3), (83, .iconst (-1), 1), (84, .goto 10, 3), (87, .aload_n 0, 1), (88, .getfield 9, 3), (91, .getfield 45, 3), (94, .ireturn, 1)]
def aM_X10_read : aM := (yX10_read, cX10_read, 3, (some .int), aC_RX10, aL_X10_read, 521)
def aL_X10_readClause : List (Nat × Instr × Nat) := [(0, .aload_n 0, 1), (1, .getfield 9, 3), (4, .invokevirtual 33, 3), (7, .lookupswitch 51 #[(103, 45), (104, 39), (116, 33)], 33), (40, .aload_n 0, 1), (41, .aload_n 1, 1), (42, .invokevirtual 48, 3), (45, .ireturn, 1), (46, .aload_n 0, 1), (47, .aload_n 1, 1), (48, .invokevirtual 51, 3), (51, .ireturn, 1), (52, .aload_n 0, 1), (53, .aload_n 1, 1), (54, .invokevirtual 54, 3), (57, .ireturn, 1), (58, .aload_n 0, 1), (59, .getfield 9, 3), (62, .invokevirtual 57, 3), (65, .ireturn, 1)]
def aM_X10_readClause : aM := (yX10_readClause, cX10_readClause, 2, (some .boolean), aC_RX10, aL_X10_readClause, 536)
def aL_X10_readThing : List (Nat × Instr × Nat) := [(0, .aload_n 1, 1), (1, .getfield 60, 3), (4, .bipush 6, 2), (6, .if_icmp .lt 11, 3), (9, .aload_n 0, 1), (10, .getfield 9, 3), (13, .invokevirtual 57, 3), (16, .ireturn, 1), (17, .aload_n 0, 1), (18, .getfield 9, 3), (21, .invokevirtual 63, 3), (24, .aload_n 1, 1), (25, .invokevirtual 66, 3), (28, .istore_n 2, 1), (29, .iconst 0, 1), (30, .istore_n 3, 1), (31, .iconst 0, 1), (32, .istore 4, 2), (34, .iload 4, 2), (36, .getstatic 69, 3), (39, .arraylength, 1), (40, .if_icmp .ge 93, 3), (43, .aload_n 0, 1), (44, .getfield 9, 3), (47, .invokevirtual 33, 3), (50, .invokestatic 73, 3), (53, .istore 5, 2), (55, .iload 5, 2), (57, .iconst (-1), 1), (58, .if_icmp .eq 75, 3), (61, .iload_n 3, 1), (62, .iload 5, 2), (64, .ishr, 1), (65, .iconst 1, 1), (66, .iand, 1), (67, .iconst 1, 1), (68, .if_icmp .ne 6, 3), (71, .goto 62, 3), (74, .iload_n 3, 1), (75, .iconst 1, 1), (76, .iload 5, 2), (78, .ishl, 1), (79, .ior, 1), (80, .istore_n 3, 1), (81, .aload_n 0, 1), (82, .getfield 9, 3), (85, .invokevirtual 63, 3), (88, .aload_n 0, 1), (89, .getfield 9, 3), (92, .iconst 2, 1), (93, .getstatic 69, 3), (96, .iload 5, 2), (98, .iaload, 1), (99, .getstatic 77, 3), (102, .iload 5, 2), (104, .iaload, 1), (105, .invokevirtual 80, 3), (108, .istore 6, 2), (110, .iload 6, 2), (112, .iconst (-1), 1), (113, .if_icmp .ne 5, 3), (116, .iconst 0, 1), (117, .ireturn, 1), (118, .aload_n 1, 1), (119, .iload_n 2, 1), (120, .iload 5, 2), (122, .iload 6, 2), (124, .invokestatic 84, 3), (127, .iinc 4 1, 3), (130, .goto (-96), 3), (133, .aload_n 0, 1), (134, .getfield 9, 3), (137, .bipush 58, 2), (139, .invokevirtual 37, 3), (142, .ifCond .eq 16, 3), (145, .aload_n 0, 1), (146, .aload_n 1, 1), (147, .iload_n 2, 1), (148, .invokevirtual 88, 3), (151, .ifCond .eq 7, 3), (154, .iconst 1, 1), (155, .goto 4, 3), (158, .iconst 0, 1), (159, .ireturn, 1)]
def aM_X10_readThing : aM := (yX10_readThing, cX10_readThing, 7, (some .boolean), aC_RX10, aL_X10_readThing, 544)
def aL_X10_thingItem : List (Nat × Instr × Nat) := [(0, .iload_n 0, 1), (1, .lookupswitch 41 #[(100, 39), (114, 37), (118, 35)], 35), (36, .iconst 0, 1), (37, .ireturn, 1), (38, .iconst 1, 1), (39, .ireturn, 1), (40, .iconst 2, 1), (41, .ireturn, 1), (42, .iconst (-1), 1), (43, .ireturn, 1)]
def aM_X10_thingItem : aM := (yX10_thingItem, cX10_thingItem, 1, (some .int), aC_RX10, aL_X10_thingItem, 561)
def aL_X10_putItem : List (Nat × Instr × Nat) := [(0, .iload_n 2, 1), (1, .ifCond .ne 13, 3), (4, .aload_n 0, 1), (5, .getfield 92, 3), (8, .iload_n 1, 1), (9, .iload_n 3, 1), (10, .iastore, 1), (11, .goto 27, 3), (14, .iload_n 2, 1), (15, .iconst 1, 1), (16, .if_icmp .ne 13, 3), (19, .aload_n 0, 1), (20, .getfield 95, 3), (23, .iload_n 1, 1), (24, .iload_n 3, 1), (25, .iastore, 1), (26, .goto 12, 3), (29, .aload_n 0, 1), (30, .getfield 98, 3), (33, .iconst 0, 1), (34, .iload_n 1, 1), (35, .iadd, 1), (36, .iload_n 3, 1), (37, .iastore, 1), (38, .return_, 1)]
def aM_X10_putItem : aM := (yX10_putItem, cX10_putItem, 4, none, aC_RX10, aL_X10_putItem, 575)
def aL_X10_readSteps : List (Nat × Instr × Nat) := [(0, .iconst 0, 1), (1, .istore_n 3, 1), (2, .iload_n 3, 1), (3, .bipush 8, 2), (5, .if_icmp .gt 110, 3), (8, .aload_n 0, 1), (9, .getfield 9, 3), (12, .invokevirtual 33, 3), (15, .invokestatic 101, 3), (18, .istore 4, 2), (20, .iload 4, 2), (22, .iconst (-1), 1), (23, .if_icmp .ne 10, 3), (26, .iload_n 3, 1), (27, .ifCond .le 6, 3), (30, .goto 85, 3), (33, .iload 4, 2), (35, .iconst (-1), 1), (36, .if_icmp .eq 9, 3), (39, .iload_n 3, 1), (40, .bipush 8, 2), (42, .if_icmp .ne 11, 3), (45, .aload_n 0, 1), (46, .getfield 9, 3), (49, .invokevirtual 57, 3), (52, .ireturn, 1), (53, .aload_n 0, 1), (54, .getfield 9, 3), (57, .invokevirtual 63, 3), (60, .aload_n 0, 1), (61, .getfield 9, 3), (64, .invokevirtual 33, 3), (67, .bipush 48, 2), (69, .isub, 1), (70, .istore 5, 2), (72, .iload 5, 2), (74, .iconst 1, 1), (75, .if_icmp .lt 10, 3), (78, .iload 5, 2), (80, .bipush 9, 2), (82, .if_icmp .le 11, 3), (85, .aload_n 0, 1), (86, .getfield 9, 3), (89, .invokevirtual 57, 3), (92, .ireturn, 1), (93, .aload_n 0, 1), (94, .getfield 9, 3), (97, .invokevirtual 63, 3), (100, .aload_n 1, 1), (101, .iload_n 2, 1), (102, .iload 4, 2), (104, .iload 5, 2), (106, .invokevirtual 104, 3), (109, .iinc 3 1, 3), (112, .goto (-110), 3), (115, .aload_n 1, 1), (116, .iload_n 2, 1), (117, .invokevirtual 108, 3), (120, .iconst 1, 1), (121, .ireturn, 1)]
def aM_X10_readSteps : aM := (yX10_readSteps, cX10_readSteps, 6, (some .boolean), aC_RX10, aL_X10_readSteps, 584)
def aL_X10_readHeir : List (Nat × Instr × Nat) := [(0, .aload_n 1, 1), (1, .getfield 112, 3), (4, .bipush 6, 2), (6, .if_icmp .lt 11, 3), (9, .aload_n 0, 1), (10, .getfield 9, 3), (13, .invokevirtual 57, 3), (16, .ireturn, 1), (17, .aload_n 0, 1), (18, .getfield 9, 3), (21, .invokevirtual 63, 3), (24, .aload_n 1, 1), (25, .invokevirtual 115, 3), (28, .istore_n 2, 1), (29, .iconst 0, 1), (30, .istore_n 3, 1), (31, .iconst 0, 1), (32, .istore 4, 2), (34, .iload 4, 2), (36, .iconst 5, 1), (37, .if_icmp .gt 117, 3), (40, .aload_n 0, 1), (41, .getfield 9, 3), (44, .invokevirtual 33, 3), (47, .bipush 107, 2), (49, .if_icmp .ne 7, 3), (52, .iconst 5, 1), (53, .goto 13, 3), (56, .aload_n 0, 1), (57, .getfield 9, 3), (60, .invokevirtual 33, 3), (63, .invokestatic 101, 3), (66, .istore 5, 2), (68, .iload 5, 2), (70, .iconst (-1), 1), (71, .if_icmp .eq 83, 3), (74, .iload_n 3, 1), (75, .iload 5, 2), (77, .ishr, 1), (78, .iconst 1, 1), (79, .iand, 1), (80, .iconst 1, 1), (81, .if_icmp .ne 6, 3), (84, .goto 70, 3), (87, .iload_n 3, 1), (88, .iconst 1, 1), (89, .iload 5, 2), (91, .ishl, 1), (92, .ior, 1), (93, .istore_n 3, 1), (94, .aload_n 0, 1), (95, .getfield 9, 3), (98, .invokevirtual 63, 3), (101, .aload_n 0, 1), (102, .getfield 9, 3), (105, .iconst 2, 1), (106, .iconst 0, 1), (107, .bipush 9, 2), (109, .invokevirtual 80, 3), (112, .istore 6, 2), (114, .iload 6, 2), (116, .iconst (-1), 1), (117, .if_icmp .ne 5, 3), (120, .iconst 0, 1), (121, .ireturn, 1), (122, .iload 5, 2), (124, .iconst 5, 1), (125, .if_icmp .ne 14, 3), (128, .aload_n 1, 1), (129, .getfield 118, 3), (132, .iload_n 2, 1), (133, .iload 6, 2), (135, .iastore, 1), (136, .goto 12, 3), (139, .aload_n 1, 1), (140, .iload_n 2, 1), (141, .iload 5, 2), (143, .iload 6, 2), (145, .invokevirtual 121, 3), (148, .iinc 4 1, 3), (151, .goto (-117), 3), (154, .iconst 1, 1), (155, .ireturn, 1)]
def aM_X10_readHeir : aM := (yX10_readHeir, cX10_readHeir, 7, (some .boolean), aC_RX10, aL_X10_readHeir, 599)
def aL_X10_readTool : List (Nat × Instr × Nat) := [(0, .aload_n 1, 1), (1, .getfield 124, 3), (4, .iconst 4, 1), (5, .if_icmp .lt 11, 3), (8, .aload_n 0, 1), (9, .getfield 9, 3), (12, .invokevirtual 57, 3), (15, .ireturn, 1), (16, .aload_n 0, 1), (17, .getfield 9, 3), (20, .invokevirtual 63, 3), (23, .aload_n 0, 1), (24, .getfield 9, 3), (27, .invokevirtual 33, 3), (30, .invokestatic 101, 3), (33, .istore_n 2, 1), (34, .iload_n 2, 1), (35, .iconst (-1), 1), (36, .if_icmp .ne 11, 3), (39, .aload_n 0, 1), (40, .getfield 9, 3), (43, .invokevirtual 57, 3), (46, .ireturn, 1), (47, .aload_n 0, 1), (48, .getfield 9, 3), (51, .invokevirtual 63, 3), (54, .aload_n 1, 1), (55, .iload_n 2, 1), (56, .invokevirtual 127, 3), (59, .iconst 1, 1), (60, .ireturn, 1)]
def aM_X10_readTool : aM := (yX10_readTool, cX10_readTool, 3, (some .boolean), aC_RX10, aL_X10_readTool, 611)
def aL_X10_tradeOf : List (Nat × Instr × Nat) := [(0, .iload_n 0, 1), (1, .bipush 97, 2), (3, .if_icmp .lt 16, 3), (6, .iload_n 0, 1), (7, .bipush 101, 2), (9, .if_icmp .gt 10, 3), (12, .iload_n 0, 1), (13, .bipush 97, 2), (15, .isub, 1), (16, .goto 4, 3), (19, .iconst (-1), 1), (20, .ireturn, 1)]
def aM_X10_tradeOf : aM := (yX10_tradeOf, cX10_tradeOf, 1, (some .int), aC_RX10, aL_X10_tradeOf, 587)
def aL_X11_feed : List (Nat × Instr × Nat) := [(0, .iload_n 1, 1), (1, .invokestatic 97, 3), (4, .iload_n 2, 1), (5, .invokestatic 97, 3), (8, .iadd, 1), (9, .iload_n 3, 1), (10, .invokestatic 97, 3), (13, .iadd, 1), (14, .iload 4, 2), (16, .invokestatic 97, 3), (19, .iadd, 1), (20, .iload 5, 2), (22, .invokestatic 97, 3), (25, .iadd, 1), (26, .istore 6, 2), (28, .aload_n 0, 1), (29, .getfield 10, 3), (32, .getfield 101, 3), (35, .iload 6, 2), (37, .iadd, 1), (38, .sipush 240, 3), (41, .if_icmp .le 5, 3), (44, .iconst (-1), 1), (45, .ireturn, 1), (46, .aload_n 0, 1), (47, .getfield 10, 3), (50, .iload_n 1, 1), (51, .invokevirtual 104, 3), (54, .aload_n 0, 1), (55, .getfield 10, 3), (58, .iload_n 2, 1), (59, .invokevirtual 104, 3), (62, .aload_n 0, 1), (63, .getfield 10, 3), (66, .iload_n 3, 1), (67, .invokevirtual 104, 3), (70, .aload_n 0, 1), (71, .getfield 10, 3), (74, .iload 4, 2), (76, .invokevirtual 104, 3), (79, .aload_n 0, 1), (80, .getfield 10, 3), (83, .iload 5, 2), (85, .invokevirtual 104, 3), (88, .aload_n 0, 1), (89, .getfield 10, 3), (92, .getfield 101, 3), (95, .ireturn, 1)]
def aM_X11_feed : aM := (yX11_feed, cX11_feed, 7, (some .int), aC_RX11, aL_X11_feed, 502)
def aL_X11_end : List (Nat × Instr × Nat) := [(0, .iload_n 1, 1), (1, .ifCond .lt 14, 3), (4, .iload_n 1, 1), (5, .aload_n 0, 1), (6, .getfield 10, 3), (9, .getfield 101, 3), (12, .if_icmp .le 5, 3), (15, .iconst 0, 1), (16, .ireturn, 1), (17, .aload_n 0, 1), (18, .getfield 10, 3), (21, .iload_n 1, 1), (22, .putfield 101, 3), (25, .iconst 1, 1), (26, .ireturn, 1)]
def aM_X11_end : aM := (yX11_end, cX11_end, 2, (some .boolean), aC_RX11, aL_X11_end, 513)
def aL_X11_fault : List (Nat × Instr × Nat) := [(0, .iload_n 1, 1), (1, .tableswitch 59 0 2 #[27, 39, 47], 27), (28, .aload_n 0, 1), (29, .getfield 21, 3), (32, .aload_n 0, 1), (33, .getfield 90, 3), (36, .invokevirtual 108, 3), (39, .ireturn, 1), (40, .aload_n 0, 1), (41, .getfield 28, 3), (44, .invokevirtual 112, 3), (47, .ireturn, 1), (48, .aload_n 0, 1), (49, .getfield 42, 3), (52, .aload_n 0, 1), (53, .getfield 10, 3), (56, .invokevirtual 115, 3), (59, .ireturn, 1), (60, .bipush (-2), 2), (62, .ireturn, 1)]
def aM_X11_fault : aM := (yX11_fault, cX11_fault, 2, (some .int), aC_RX11, aL_X11_fault, 517)
def aL_X11_text : List (Nat × Instr × Nat) := [(0, .iconst (-1), 1), (1, .istore_n 2, 1), (2, .iload_n 1, 1), (3, .ifCond .ne 11, 3), (6, .aload_n 0, 1), (7, .invokevirtual 118, 3), (10, .istore_n 2, 1), (11, .goto 95, 3), (14, .iload_n 1, 1), (15, .iconst 1, 1), (16, .if_icmp .ne 51, 3), (19, .aload_n 0, 1), (20, .getfield 35, 3), (23, .getfield 121, 3), (26, .bipush 6, 2), (28, .if_icmp .ge 39, 3), (31, .aload_n 0, 1), (32, .getfield 28, 3), (35, .invokevirtual 112, 3), (38, .iconst (-1), 1), (39, .if_icmp .ne 28, 3), (42, .aload_n 0, 1), (43, .getfield 35, 3), (46, .aload_n 0, 1), (47, .getfield 28, 3), (50, .getfield 124, 3), (53, .aload_n 0, 1), (54, .getfield 28, 3), (57, .getfield 128, 3), (60, .invokevirtual 129, 3), (63, .istore_n 2, 1), (64, .goto 42, 3), (67, .iload_n 1, 1), (68, .iconst 2, 1), (69, .if_icmp .ne 37, 3), (72, .aload_n 0, 1), (73, .getfield 42, 3), (76, .getfield 132, 3), (79, .iconst 4, 1), (80, .if_icmp .ge 26, 3), (83, .aload_n 0, 1), (84, .getfield 42, 3), (87, .aload_n 0, 1), (88, .getfield 10, 3), (91, .invokevirtual 115, 3), (94, .iconst (-1), 1), (95, .if_icmp .ne 11, 3), (98, .aload_n 0, 1), (99, .getfield 42, 3), (102, .invokevirtual 133, 3), (105, .istore_n 2, 1), (106, .iload_n 2, 1), (107, .iconst (-1), 1), (108, .if_icmp .eq 11, 3), (111, .aload_n 0, 1), (112, .getfield 10, 3), (115, .iconst 0, 1), (116, .putfield 101, 3), (119, .iload_n 2, 1), (120, .ireturn, 1)]
def aM_X11_text : aM := (yX11_text, cX11_text, 3, (some .int), aC_RX11, aL_X11_text, 684)
def aL_X11_putWill : List (Nat × Instr × Nat) := [(0, .aload_n 0, 1), (1, .getfield 21, 3), (4, .aload_n 0, 1), (5, .getfield 90, 3), (8, .invokevirtual 108, 3), (11, .iconst (-1), 1), (12, .if_icmp .eq 5, 3), (15, .iconst (-1), 1), (16, .ireturn, 1), (17, .aload_n 0, 1), (18, .getfield 86, 3), (21, .astore_n 1, 1), (22, .aload_n 0, 1), (23, .aload_n 0, 1), (24, .getfield 90, 3), (27, .putfield 86, 3), (30, .aload_n 0, 1), (31, .aload_n 1, 1), (32, .putfield 90, 3), (35, .aload_n 0, 1), (36, .iconst (-1), 1), (37, .putfield 93, 3), (40, .aload_n 0, 1), (41, .getfield 49, 3), (44, .iconst 0, 1), (45, .putfield 135, 3), (48, .aload_n 0, 1), (49, .getfield 56, 3), (52, .invokevirtual 136, 3), (55, .aload_n 0, 1), (56, .getfield 86, 3), (59, .getfield 139, 3), (62, .ireturn, 1)]
def aM_X11_putWill : aM := (yX11_putWill, cX11_putWill, 2, (some .int), aC_RX11, aL_X11_putWill, 688)
def aL_X11_step : List (Nat × Instr × Nat) := [(0, .aload_n 0, 1), (1, .getfield 86, 3), (4, .iload_n 1, 1), (5, .iload_n 2, 1), (6, .invokevirtual 167, 3), (9, .ifCond .ne 5, 3), (12, .iconst (-1), 1), (13, .ireturn, 1), (14, .iload_n 3, 1), (15, .ifCond .ne 18, 3), (18, .aload_n 0, 1), (19, .getfield 86, 3), (22, .getfield 171, 3), (25, .iload_n 1, 1), (26, .bipush 8, 2), (28, .imul, 1), (29, .iload_n 2, 1), (30, .iadd, 1), (31, .iaload, 1), (32, .ireturn, 1), (33, .iload_n 3, 1), (34, .iconst 1, 1), (35, .if_icmp .ne 20, 3), (38, .aload_n 0, 1), (39, .getfield 86, 3), (42, .getfield 174, 3), (45, .iload_n 1, 1), (46, .bipush 8, 2), (48, .imul, 1), (49, .iload_n 2, 1), (50, .iadd, 1), (51, .iaload, 1), (52, .goto 4, 3), (55, .iconst (-1), 1), (56, .ireturn, 1)]
def aM_X11_step : aM := (yX11_step, cX11_step, 4, (some .int), aC_RX11, aL_X11_step, 708)
def aL_X11_heir : List (Nat × Instr × Nat) := [(0, .aload_n 0, 1), (1, .getfield 86, 3), (4, .iload_n 1, 1), (5, .invokevirtual 177, 3), (8, .ifCond .eq 13, 3), (11, .iload_n 2, 1), (12, .ifCond .lt 9, 3), (15, .iload_n 2, 1), (16, .bipush 6, 2), (18, .if_icmp .le 5, 3), (21, .iconst (-1), 1), (22, .ireturn, 1), (23, .iload_n 2, 1), (24, .iconst 5, 1), (25, .if_icmp .ge 13, 3), (28, .aload_n 0, 1), (29, .getfield 86, 3), (32, .iload_n 1, 1), (33, .iload_n 2, 1), (34, .invokevirtual 180, 3), (37, .ireturn, 1), (38, .iload_n 2, 1), (39, .iconst 5, 1), (40, .if_icmp .ne 15, 3), (43, .aload_n 0, 1), (44, .getfield 86, 3), (47, .getfield 184, 3), (50, .iload_n 1, 1), (51, .iaload, 1), (52, .goto 11, 3), (55, .aload_n 0, 1), (56, .getfield 86, 3), (59, .iload_n 1, 1), (60, .invokevirtual 187, 3), (63, .ireturn, 1)]
def aM_X11_heir : aM := (yX11_heir, cX11_heir, 3, (some .int), aC_RX11, aL_X11_heir, 720)
def aL_X11_tools : List (Nat × Instr × Nat) := [(0, .aload_n 0, 1), (1, .getfield 86, 3), (4, .invokevirtual 190, 3), (7, .ifCond .eq 22, 3), (10, .iload_n 1, 1), (11, .invokestatic 194, 3), (14, .ifCond .eq 15, 3), (17, .aload_n 0, 1), (18, .getfield 86, 3), (21, .getfield 197, 3), (24, .iload_n 1, 1), (25, .iaload, 1), (26, .goto 4, 3), (29, .iconst (-1), 1), (30, .ireturn, 1)]
def aM_X11_tools : aM := (yX11_tools, cX11_tools, 2, (some .int), aC_RX11, aL_X11_tools, 736)
def aL_X11_law : List (Nat × Instr × Nat) := [(0, .aload_n 0, 1), (1, .getfield 86, 3), (4, .invokevirtual 190, 3), (7, .ifCond .eq 19, 3), (10, .iload_n 1, 1), (11, .iconst (-1), 1), (12, .if_icmp .eq 16, 3), (15, .aload_n 0, 1), (16, .getfield 35, 3), (19, .iload_n 1, 1), (20, .invokevirtual 200, 3), (23, .ifCond .ne 5, 3), (26, .iconst 0, 1), (27, .ireturn, 1), (28, .aload_n 0, 1), (29, .iload_n 1, 1), (30, .putfield 93, 3), (33, .iconst 1, 1), (34, .ireturn, 1)]
def aM_X11_law : aM := (yX11_law, cX11_law, 2, (some .boolean), aC_RX11, aL_X11_law, 747)
def aL_X11_takes : List (Nat × Instr × Nat) := [(0, .aload_n 0, 1), (1, .getfield 86, 3), (4, .iload_n 1, 1), (5, .invokevirtual 177, 3), (8, .ifCond .eq 28, 3), (11, .aload_n 0, 1), (12, .getfield 86, 3), (15, .iload_n 2, 1), (16, .iload_n 3, 1), (17, .invokevirtual 167, 3), (20, .ifCond .eq 16, 3), (23, .aload_n 0, 1), (24, .getfield 86, 3), (27, .iload_n 1, 1), (28, .iload_n 2, 1), (29, .iload_n 3, 1), (30, .invokevirtual 203, 3), (33, .goto 4, 3), (36, .iconst (-1), 1), (37, .ireturn, 1)]
def aM_X11_takes : aM := (yX11_takes, cX11_takes, 4, (some .int), aC_RX11, aL_X11_takes, 755)
def aL_X11_alone : List (Nat × Instr × Nat) := [(0, .aload_n 0, 1), (1, .getfield 86, 3), (4, .iload_n 1, 1), (5, .invokevirtual 177, 3), (8, .ifCond .eq 26, 3), (11, .aload_n 0, 1), (12, .getfield 86, 3), (15, .iload_n 2, 1), (16, .invokevirtual 207, 3), (19, .ifCond .eq 15, 3), (22, .aload_n 0, 1), (23, .getfield 86, 3), (26, .iload_n 1, 1), (27, .iload_n 2, 1), (28, .invokevirtual 210, 3), (31, .goto 4, 3), (34, .iconst (-1), 1), (35, .ireturn, 1)]
def aM_X11_alone : aM := (yX11_alone, cX11_alone, 3, (some .int), aC_RX11, aL_X11_alone, 767)
def aL_X11_who : List (Nat × Instr × Nat) := [(0, .aload_n 0, 1), (1, .getfield 86, 3), (4, .iload_n 1, 1), (5, .invokevirtual 207, 3), (8, .ifCond .eq 14, 3), (11, .aload_n 0, 1), (12, .getfield 86, 3), (15, .iload_n 1, 1), (16, .invokevirtual 213, 3), (19, .goto 4, 3), (22, .iconst (-1), 1), (23, .ireturn, 1)]
def aM_X11_who : aM := (yX11_who, cX11_who, 2, (some .int), aC_RX11, aL_X11_who, 783)
def aL_X11_stuck : List (Nat × Instr × Nat) := [(0, .aload_n 0, 1), (1, .getfield 86, 3), (4, .iload_n 1, 1), (5, .invokevirtual 207, 3), (8, .ifCond .eq 14, 3), (11, .aload_n 0, 1), (12, .getfield 86, 3), (15, .iload_n 1, 1), (16, .invokevirtual 216, 3), (19, .goto 4, 3), (22, .iconst (-1), 1), (23, .ireturn, 1)]
def aM_X11_stuck : aM := (yX11_stuck, cX11_stuck, 2, (some .int), aC_RX11, aL_X11_stuck, 800)
def aL_X11_team : List (Nat × Instr × Nat) := [(0, .aload_n 0, 1), (1, .getfield 86, 3), (4, .iload_n 1, 1), (5, .invokevirtual 207, 3), (8, .ifCond .eq 26, 3), (11, .aload_n 0, 1), (12, .getfield 86, 3), (15, .iload_n 2, 1), (16, .invokevirtual 219, 3), (19, .ifCond .eq 15, 3), (22, .aload_n 0, 1), (23, .getfield 86, 3), (26, .iload_n 1, 1), (27, .iload_n 2, 1), (28, .invokevirtual 222, 3), (31, .goto 4, 3), (34, .iconst (-1), 1), (35, .ireturn, 1)]
def aM_X11_team : aM := (yX11_team, cX11_team, 3, (some .int), aC_RX11, aL_X11_team, 819)
def aL_X11_helpers : List (Nat × Instr × Nat) := [(0, .aload_n 0, 1), (1, .getfield 86, 3), (4, .iload_n 1, 1), (5, .invokevirtual 207, 3), (8, .ifCond .eq 14, 3), (11, .aload_n 0, 1), (12, .getfield 86, 3), (15, .iload_n 1, 1), (16, .invokevirtual 225, 3), (19, .goto 4, 3), (22, .iconst (-1), 1), (23, .ireturn, 1)]
def aM_X11_helpers : aM := (yX11_helpers, cX11_helpers, 2, (some .int), aC_RX11, aL_X11_helpers, 831)
def aL_X11_sold : List (Nat × Instr × Nat) := [(0, .aload_n 0, 1), (1, .getfield 86, 3), (4, .invokevirtual 190, 3), (7, .ifCond .eq 13, 3), (10, .aload_n 0, 1), (11, .getfield 86, 3), (14, .invokevirtual 228, 3), (17, .goto 4, 3), (20, .iconst (-1), 1), (21, .ireturn, 1)]
def aM_X11_sold : aM := (yX11_sold, cX11_sold, 1, (some .int), aC_RX11, aL_X11_sold, 846)
def aL_X11_give : List (Nat × Instr × Nat) := [(0, .aload_n 0, 1), (1, .getfield 86, 3), (4, .iload_n 1, 1), (5, .invokevirtual 207, 3), (8, .ifCond .eq 35, 3), (11, .iload_n 2, 1), (12, .iconst (-1), 1), (13, .if_icmp .eq 14, 3), (16, .aload_n 0, 1), (17, .getfield 86, 3), (20, .iload_n 2, 1), (21, .invokevirtual 177, 3), (24, .ifCond .eq 19, 3), (27, .aload_n 0, 1), (28, .getfield 86, 3), (31, .getfield 159, 3), (34, .bipush 12, 2), (36, .iload_n 1, 1), (37, .iadd, 1), (38, .iaload, 1), (39, .iload_n 2, 1), (40, .if_icmp .ne 5, 3), (43, .iconst (-1), 1), (44, .ireturn, 1), (45, .aload_n 0, 1), (46, .getfield 56, 3), (49, .aload_n 0, 1), (50, .getfield 86, 3), (53, .getfield 159, 3), (56, .invokevirtual 231, 3), (59, .aload_n 0, 1), (60, .getfield 86, 3), (63, .getfield 159, 3), (66, .bipush 12, 2), (68, .iload_n 1, 1), (69, .iadd, 1), (70, .iload_n 2, 1), (71, .iastore, 1), (72, .aload_n 0, 1), (73, .getfield 56, 3), (76, .getfield 235, 3), (79, .ireturn, 1)]
def aM_X11_give : aM := (yX11_give, cX11_give, 3, (some .int), aC_RX11, aL_X11_give, 856)
def aL_X11_teach : List (Nat × Instr × Nat) := [(0, .aload_n 0, 1), (1, .getfield 86, 3), (4, .iload_n 1, 1), (5, .invokevirtual 177, 3), (8, .ifCond .eq 24, 3), (11, .iload_n 2, 1), (12, .invokestatic 194, 3), (15, .ifCond .eq 17, 3), (18, .aload_n 0, 1), (19, .getfield 86, 3), (22, .iload_n 1, 1), (23, .iload_n 2, 1), (24, .invokevirtual 180, 3), (27, .bipush 9, 2), (29, .if_icmp .lt 5, 3), (32, .iconst (-1), 1), (33, .ireturn, 1), (34, .aload_n 0, 1), (35, .getfield 56, 3), (38, .aload_n 0, 1), (39, .getfield 86, 3), (42, .getfield 159, 3), (45, .invokevirtual 231, 3), (48, .aload_n 0, 1), (49, .getfield 86, 3), (52, .iload_n 1, 1), (53, .iload_n 2, 1), (54, .iconst 1, 1), (55, .invokevirtual 236, 3), (58, .aload_n 0, 1), (59, .getfield 86, 3), (62, .iload_n 1, 1), (63, .iload_n 2, 1), (64, .invokevirtual 180, 3), (67, .ireturn, 1)]
def aM_X11_teach : aM := (yX11_teach, cX11_teach, 3, (some .int), aC_RX11, aL_X11_teach, 868)
def aL_X11_days : List (Nat × Instr × Nat) := [(0, .aload_n 0, 1), (1, .getfield 86, 3), (4, .invokevirtual 190, 3), (7, .ifCond .eq 32, 3), (10, .iload_n 1, 1), (11, .iconst 1, 1), (12, .if_icmp .lt 27, 3), (15, .iload_n 1, 1), (16, .bipush 99, 2), (18, .if_icmp .gt 21, 3), (21, .aload_n 0, 1), (22, .getfield 86, 3), (25, .getfield 159, 3), (28, .bipush 66, 2), (30, .iaload, 1), (31, .iload_n 1, 1), (32, .iadd, 1), (33, .sipush 999, 3), (36, .if_icmp .le 5, 3), (39, .iconst (-1), 1), (40, .ireturn, 1), (41, .iconst 0, 1), (42, .istore_n 2, 1), (43, .iload_n 2, 1), (44, .iload_n 1, 1), (45, .if_icmp .ge 30, 3), (48, .aload_n 0, 1), (49, .getfield 56, 3), (52, .aload_n 0, 1), (53, .getfield 86, 3), (56, .getfield 159, 3), (59, .invokevirtual 231, 3), (62, .aload_n 0, 1), (63, .getfield 86, 3), (66, .invokevirtual 240, 3), (69, .iinc 2 1, 3), (72, .goto (-29), 3), (75, .aload_n 0, 1), (76, .getfield 86, 3), (79, .getfield 159, 3), (82, .bipush 66, 2), (84, .iaload, 1), (85, .ireturn, 1)]
def aM_X11_days : aM := (yX11_days, cX11_days, 3, (some .int), aC_RX11, aL_X11_days, 873)
def aL_X11_generation : List (Nat × Instr × Nat) := [(0, .aload_n 0, 1), (1, .getfield 86, 3), (4, .invokevirtual 190, 3), (7, .ifCond .ne 5, 3), (10, .iconst (-1), 1), (11, .ireturn, 1), (12, .aload_n 0, 1), (13, .getfield 56, 3), (16, .aload_n 0, 1), (17, .getfield 86, 3), (20, .getfield 159, 3), (23, .invokevirtual 231, 3), (26, .aload_n 0, 1), (27, .getfield 86, 3), (30, .lload_n 1, 1), (31, .invokevirtual 243, 3), (34, .ireturn, 1)]
def aM_X11_generation : aM := (yX11_generation, cX11_generation, 3, (some .int), aC_RX11, aL_X11_generation, 894)
def aL_X11_undo : List (Nat × Instr × Nat) := [(0, .aload_n 0, 1), (1, .getfield 56, 3), (4, .aload_n 0, 1), (5, .getfield 86, 3), (8, .getfield 159, 3), (11, .invokevirtual 247, 3), (14, .ifCond .eq 13, 3), (17, .aload_n 0, 1), (18, .getfield 56, 3), (21, .getfield 235, 3), (24, .goto 4, 3), (27, .iconst (-1), 1), (28, .ireturn, 1)]
def aM_X11_undo : aM := (yX11_undo, cX11_undo, 1, (some .int), aC_RX11, aL_X11_undo, 906)
def aL_X11_image : List (Nat × Instr × Nat) := [(0, .aload_n 0, 1), (1, .getfield 86, 3), (4, .invokevirtual 190, 3), (7, .ifCond .ne 5, 3), (10, .iconst (-1), 1), (11, .ireturn, 1), (12, .aload_n 0, 1), (13, .getfield 56, 3), (16, .aload_n 0, 1), (17, .getfield 86, 3), (20, .getfield 159, 3), (23, .invokevirtual 251, 3), (26, .aload_n 0, 1), (27, .getfield 86, 3), (30, .getfield 159, 3), (33, .bipush 66, 2), (35, .iaload, 1), (36, .ireturn, 1)]
def aM_X11_image : aM := (yX11_image, cX11_image, 1, (some .int), aC_RX11, aL_X11_image, 914)
def aL_X11_back : List (Nat × Instr × Nat) := [(0, .aload_n 0, 1), (1, .getfield 56, 3), (4, .aload_n 0, 1), (5, .getfield 86, 3), (8, .getfield 159, 3), (11, .invokevirtual 254, 3), (14, .ifCond .eq 16, 3), (17, .aload_n 0, 1), (18, .getfield 86, 3), (21, .getfield 159, 3), (24, .bipush 66, 2), (26, .iaload, 1), (27, .goto 4, 3), (30, .iconst (-1), 1), (31, .ireturn, 1)]
def aM_X11_back : aM := (yX11_back, cX11_back, 1, (some .int), aC_RX11, aL_X11_back, 922)
def aL_X11_deal : List (Nat × Instr × Nat) := [(0, .aload_n 0, 1), (1, .getfield 86, 3), (4, .invokevirtual 190, 3), (7, .ifCond .eq 12, 3), (10, .iload_n 1, 1), (11, .ifCond .lt 8, 3), (14, .iload_n 1, 1), (15, .iconst 1, 1), (16, .if_icmp .le 5, 3), (19, .iconst (-1), 1), (20, .ireturn, 1), (21, .aload_n 0, 1), (22, .getfield 63, 3), (25, .aload_n 0, 1), (26, .getfield 86, 3), (29, .invokevirtual 257, 3), (32, .istore_n 2, 1), (33, .iload_n 1, 1), (34, .ifCond .ne 18, 3), (37, .aload_n 0, 1), (38, .getfield 63, 3), (41, .aload_n 0, 1), (42, .getfield 86, 3), (45, .iload_n 2, 1), (46, .invokevirtual 260, 3), (49, .goto 7, 3), (52, .iload_n 2, 1), (53, .invokestatic 264, 3), (56, .ireturn, 1)]
def aM_X11_deal : aM := (yX11_deal, cX11_deal, 3, (some .int), aC_RX11, aL_X11_deal, 930)
def aL_X11_best : List (Nat × Instr × Nat) := [(0, .aload_n 0, 1), (1, .getfield 86, 3), (4, .iload_n 1, 1), (5, .invokevirtual 177, 3), (8, .ifCond .eq 20, 3), (11, .iload_n 2, 1), (12, .ifCond .lt 16, 3), (15, .iload_n 2, 1), (16, .iconst 1, 1), (17, .aload_n 0, 1), (18, .getfield 86, 3), (21, .getfield 139, 3), (24, .ishl, 1), (25, .if_icmp .lt 5, 3), (28, .iconst (-1), 1), (29, .ireturn, 1), (30, .aload_n 0, 1), (31, .getfield 63, 3), (34, .aload_n 0, 1), (35, .getfield 86, 3), (38, .iload_n 1, 1), (39, .iload_n 2, 1), (40, .invokevirtual 267, 3), (43, .ireturn, 1)]
def aM_X11_best : aM := (yX11_best, cX11_best, 3, (some .int), aC_RX11, aL_X11_best, 988)
def aL_X11_learn : List (Nat × Instr × Nat) := [(0, .aload_n 0, 1), (1, .getfield 86, 3), (4, .invokevirtual 190, 3), (7, .ifCond .eq 12, 3), (10, .iload_n 1, 1), (11, .ifCond .lt 8, 3), (14, .iload_n 1, 1), (15, .iconst 1, 1), (16, .if_icmp .le 5, 3), (19, .iconst (-1), 1), (20, .ireturn, 1), (21, .aload_n 0, 1), (22, .getfield 63, 3), (25, .aload_n 0, 1), (26, .getfield 86, 3), (29, .iload_n 1, 1), (30, .invokevirtual 271, 3), (33, .ireturn, 1)]
def aM_X11_learn : aM := (yX11_learn, cX11_learn, 2, (some .int), aC_RX11, aL_X11_learn, 1000)
def aL_X11_begin : List (Nat × Instr × Nat) := [(0, .aload_n 0, 1), (1, .getfield 86, 3), (4, .invokevirtual 190, 3), (7, .ifCond .eq 22, 3), (10, .iload_n 1, 1), (11, .ifCond .lt 18, 3), (14, .iload_n 1, 1), (15, .bipush 12, 2), (17, .if_icmp .gt 12, 3), (20, .iload_n 2, 1), (21, .ifCond .lt 8, 3), (24, .iload_n 2, 1), (25, .iconst 1, 1), (26, .if_icmp .le 5, 3), (29, .iconst (-1), 1), (30, .ireturn, 1), (31, .aload_n 0, 1), (32, .getfield 72, 3), (35, .aload_n 0, 1), (36, .getfield 86, 3), (39, .iload_n 1, 1), (40, .iload_n 2, 1), (41, .invokevirtual 274, 3), (44, .ireturn, 1)]
def aM_X11_begin : aM := (yX11_begin, cX11_begin, 3, (some .int), aC_RX11, aL_X11_begin, 1014)
def aL_X11_spite : List (Nat × Instr × Nat) := [(0, .aload_n 0, 1), (1, .getfield 86, 3), (4, .iload_n 1, 1), (5, .invokevirtual 177, 3), (8, .ifCond .eq 12, 3), (11, .iload_n 2, 1), (12, .ifCond .lt 8, 3), (15, .iload_n 2, 1), (16, .iconst 1, 1), (17, .if_icmp .le 5, 3), (20, .iconst (-1), 1), (21, .ireturn, 1), (22, .aload_n 0, 1), (23, .getfield 63, 3), (26, .aload_n 0, 1), (27, .getfield 86, 3), (30, .iload_n 1, 1), (31, .iload_n 2, 1), (32, .invokevirtual 277, 3), (35, .ireturn, 1)]
def aM_X11_spite : aM := (yX11_spite, cX11_spite, 3, (some .int), aC_RX11, aL_X11_spite, 1068)
def aL_X11_wish : List (Nat × Instr × Nat) := [(0, .aload_n 0, 1), (1, .getfield 86, 3), (4, .iload_n 1, 1), (5, .invokevirtual 177, 3), (8, .ifCond .eq 23, 3), (11, .aload_n 0, 1), (12, .getfield 86, 3), (15, .iload_n 2, 1), (16, .invokevirtual 142, 3), (19, .ifCond .eq 12, 3), (22, .aload_n 0, 1), (23, .iload_n 1, 1), (24, .iload_n 2, 1), (25, .invokevirtual 280, 3), (28, .goto 6, 3), (31, .ldc_w 283, 3), (34, .ireturn, 1)]
def aM_X11_wish : aM := (yX11_wish, cX11_wish, 3, (some .int), aC_RX11, aL_X11_wish, 1081)
def aL_X11_wishOf : List (Nat × Instr × Nat) := [(0, .aload_n 0, 1), (1, .getfield 35, 3), (4, .aload_n 0, 1), (5, .getfield 93, 3), (8, .invokevirtual 200, 3), (11, .ifCond .ne 13, 3), (14, .aload_n 0, 1), (15, .getfield 86, 3), (18, .getfield 153, 3), (21, .iload_n 2, 1), (22, .iaload, 1), (23, .ireturn, 1), (24, .aload_n 0, 1), (25, .getfield 86, 3), (28, .iload_n 2, 1), (29, .invokevirtual 207, 3), (32, .ifCond .eq 15, 3), (35, .aload_n 0, 1), (36, .getfield 86, 3), (39, .iload_n 1, 1), (40, .iload_n 2, 1), (41, .invokevirtual 210, 3), (44, .goto 4, 3), (47, .iconst 0, 1), (48, .istore_n 3, 1), (49, .aload_n 0, 1), (50, .getfield 86, 3), (53, .getfield 162, 3), (56, .iload_n 2, 1), (57, .iaload, 1), (58, .aload_n 0, 1), (59, .getfield 86, 3), (62, .getfield 159, 3), (65, .iconst 0, 1), (66, .iload_n 2, 1), (67, .iadd, 1), (68, .iaload, 1), (69, .isub, 1), (70, .istore 4, 2), (72, .aload_n 0, 1), (73, .getfield 35, 3), (76, .aload_n 0, 1), (77, .getfield 86, 3), (80, .getfield 153, 3), (83, .iload_n 2, 1), (84, .iaload, 1), (85, .aload_n 0, 1), (86, .getfield 86, 3), (89, .getfield 184, 3), (92, .iload_n 1, 1), (93, .iaload, 1), (94, .aload_n 0, 1), (95, .getfield 86, 3), (98, .iload_n 1, 1), (99, .invokevirtual 284, 3), (102, .iload_n 3, 1), (103, .iconst 0, 1), (104, .invokestatic 287, 3), (107, .iload 4, 2), (109, .invokevirtual 292, 3), (112, .aload_n 0, 1), (113, .getfield 35, 3), (116, .aload_n 0, 1), (117, .getfield 93, 3), (120, .invokevirtual 296, 3), (123, .ireturn, 1)]
def aM_X11_wishOf : aM := (yX11_wishOf, cX11_wishOf, 5, (some .int), aC_RX11, aL_X11_wishOf, 1086)
def aL_X11_rests : List (Nat × Instr × Nat) := [(0, .aload_n 0, 1), (1, .getfield 86, 3), (4, .getfield 299, 3), (7, .iconst 4, 1), (8, .if_icmp .le 7, 3), (11, .ldc_w 283, 3), (14, .ireturn, 1), (15, .aload_n 0, 1), (16, .getfield 86, 3), (19, .invokevirtual 190, 3), (22, .ifCond .ne 5, 3), (25, .iconst (-1), 1), (26, .ireturn, 1), (27, .aload_n 0, 1), (28, .invokevirtual 302, 3), (31, .aload_n 0, 1), (32, .getfield 79, 3), (35, .iload_n 1, 1), (36, .invokevirtual 305, 3), (39, .ireturn, 1)]
def aM_X11_rests : aM := (yX11_rests, cX11_rests, 2, (some .int), aC_RX11, aL_X11_rests, 1129)
def aL_X11_gains : List (Nat × Instr × Nat) := [(0, .aload_n 0, 1), (1, .getfield 86, 3), (4, .iload_n 2, 1), (5, .invokevirtual 177, 3), (8, .ifCond .eq 14, 3), (11, .aload_n 0, 1), (12, .getfield 86, 3), (15, .getfield 299, 3), (18, .iconst 4, 1), (19, .if_icmp .le 7, 3), (22, .ldc_w 283, 3), (25, .ireturn, 1), (26, .aload_n 0, 1), (27, .invokevirtual 302, 3), (30, .aload_n 0, 1), (31, .getfield 79, 3), (34, .iload_n 1, 1), (35, .invokevirtual 308, 3), (38, .ifCond .eq 14, 3), (41, .aload_n 0, 1), (42, .getfield 79, 3), (45, .iload_n 2, 1), (46, .invokevirtual 311, 3), (49, .goto 6, 3), (52, .ldc_w 283, 3), (55, .ireturn, 1)]
def aM_X11_gains : aM := (yX11_gains, cX11_gains, 3, (some .int), aC_RX11, aL_X11_gains, 1178)
def aL_X11_layOutGame : List (Nat × Instr × Nat) := [(0, .aload_n 0, 1), (1, .getfield 79, 3), (4, .aload_n 0, 1), (5, .getfield 86, 3), (8, .getfield 299, 3), (11, .invokevirtual 314, 3), (14, .iconst 0, 1), (15, .istore_n 1, 1), (16, .iload_n 1, 1), (17, .aload_n 0, 1), (18, .getfield 86, 3), (21, .getfield 139, 3), (24, .if_icmp .ge 28, 3), (27, .aload_n 0, 1), (28, .getfield 86, 3), (31, .iload_n 1, 1), (32, .invokevirtual 207, 3), (35, .ifCond .eq 11, 3), (38, .aload_n 0, 1), (39, .getfield 79, 3), (42, .iload_n 1, 1), (43, .invokevirtual 317, 3), (46, .iinc 1 1, 3), (49, .goto (-33), 3), (52, .iconst 0, 1), (53, .istore_n 1, 1), (54, .iload_n 1, 1), (55, .aload_n 0, 1), (56, .getfield 86, 3), (59, .getfield 299, 3), (62, .if_icmp .ge 68, 3), (65, .iload_n 1, 1), (66, .iconst 4, 1), (67, .if_icmp .ge 63, 3), (70, .iconst 0, 1), (71, .istore_n 2, 1), (72, .iload_n 2, 1), (73, .aload_n 0, 1), (74, .getfield 86, 3), (77, .getfield 139, 3), (80, .if_icmp .ge 44, 3), (83, .aload_n 0, 1), (84, .getfield 86, 3), (87, .iload_n 2, 1), (88, .invokevirtual 207, 3), (91, .ifCond .eq 27, 3), (94, .aload_n 0, 1), (95, .getfield 79, 3), (98, .iload_n 1, 1), (99, .iload_n 2, 1), (100, .aload_n 0, 1), (101, .getfield 86, 3), (104, .iload_n 1, 1), (105, .iload_n 2, 1), (106, .invokevirtual 320, 3), (109, .aload_n 0, 1), (110, .iload_n 1, 1), (111, .iload_n 2, 1), (112, .invokevirtual 280, 3), (115, .invokevirtual 323, 3), (118, .iinc 2 1, 3), (121, .goto (-49), 3), (124, .iinc 1 1, 3), (127, .goto (-73), 3), (130, .return_, 1)]
def aM_X11_layOutGame : aM := (yX11_layOutGame, cX11_layOutGame, 3, none, aC_RX11, aL_X11_layOutGame, 1133)
def aL_X11_ends : List (Nat × Instr × Nat) := [(0, .aload_n 0, 1), (1, .getfield 42, 3), (4, .iload_n 1, 1), (5, .invokevirtual 327, 3), (8, .ifCond .eq 21, 3), (11, .aload_n 0, 1), (12, .getfield 35, 3), (15, .iload_n 2, 1), (16, .invokevirtual 200, 3), (19, .ifCond .eq 10, 3), (22, .iload_n 3, 1), (23, .invokestatic 328, 3), (26, .ifCond .ne 5, 3), (29, .iconst (-1), 1), (30, .ireturn, 1), (31, .iconst 0, 1), (32, .istore 5, 2), (34, .iconst 1, 1), (35, .istore 6, 2), (37, .iload 6, 2), (39, .iload_n 3, 1), (40, .if_icmp .gt 62, 3), (43, .iconst 0, 1), (44, .istore 7, 2), (46, .iload 7, 2), (48, .getstatic 331, 3), (51, .iload 6, 2), (53, .iaload, 1), (54, .if_icmp .ge 42, 3), (57, .aload_n 0, 1), (58, .iload_n 1, 1), (59, .iload_n 2, 1), (60, .iload 6, 2), (62, .iload 7, 2), (64, .invokevirtual 334, 3), (67, .ifCond .eq 23, 3), (70, .iload 5, 2), (72, .iload 4, 2), (74, .if_icmp .ne 13, 3), (77, .getstatic 331, 3), (80, .iload 6, 2), (82, .iaload, 1), (83, .iload 7, 2), (85, .iadd, 1), (86, .ireturn, 1), (87, .iinc 5 1, 3), (90, .iinc 7 10, 3), (93, .goto (-47), 3), (96, .iinc 6 1, 3), (99, .goto (-62), 3), (102, .iload 4, 2), (104, .iconst (-1), 1), (105, .if_icmp .ne 8, 3), (108, .iload 5, 2), (110, .goto 4, 3), (113, .iconst (-1), 1), (114, .ireturn, 1)]
def aM_X11_ends : aM := (yX11_ends, cX11_ends, 8, (some .int), aC_RX11, aL_X11_ends, 1191)
def aL_X11_shortest : List (Nat × Instr × Nat) := [(0, .aload_n 0, 1), (1, .iload_n 1, 1), (2, .iload_n 2, 1), (3, .iload_n 3, 1), (4, .iconst 0, 1), (5, .invokevirtual 338, 3), (8, .istore 4, 2), (10, .iconst 1, 1), (11, .istore 5, 2), (13, .iload 5, 2), (15, .iconst 4, 1), (16, .if_icmp .gt 36, 3), (19, .iload 4, 2), (21, .getstatic 331, 3), (24, .iload 5, 2), (26, .iaload, 1), (27, .if_icmp .lt 19, 3), (30, .iload 4, 2), (32, .getstatic 331, 3), (35, .iload 5, 2), (37, .iconst 1, 1), (38, .iadd, 1), (39, .iaload, 1), (40, .if_icmp .ge 6, 3), (43, .iload 5, 2), (45, .ireturn, 1), (46, .iinc 5 1, 3), (49, .goto (-36), 3), (52, .iconst (-1), 1), (53, .ireturn, 1)]
def aM_X11_shortest : aM := (yX11_shortest, cX11_shortest, 6, (some .int), aC_RX11, aL_X11_shortest, 1216)
def aL_X11_judged : List (Nat × Instr × Nat) := [(0, .aload_n 0, 1), (1, .getfield 42, 3), (4, .iload_n 1, 1), (5, .invokevirtual 327, 3), (8, .ifCond .eq 23, 3), (11, .iload_n 2, 1), (12, .invokestatic 328, 3), (15, .ifCond .eq 16, 3), (18, .iload_n 3, 1), (19, .ifCond .lt 12, 3), (22, .iload_n 3, 1), (23, .getstatic 331, 3), (26, .iload_n 2, 1), (27, .iaload, 1), (28, .if_icmp .lt 5, 3), (31, .iconst (-1), 1), (32, .ireturn, 1), (33, .aload_n 0, 1), (34, .iload_n 1, 1), (35, .iload_n 2, 1), (36, .iload_n 3, 1), (37, .invokevirtual 342, 3), (40, .ireturn, 1)]
def aM_X11_judged : aM := (yX11_judged, cX11_judged, 4, (some .int), aC_RX11, aL_X11_judged, 1221)
def aL_X11_dearest : List (Nat × Instr × Nat) := [(0, .aload_n 0, 1), (1, .getfield 42, 3), (4, .iload_n 1, 1), (5, .invokevirtual 327, 3), (8, .ifCond .eq 19, 3), (11, .iload_n 2, 1), (12, .invokestatic 328, 3), (15, .ifCond .eq 12, 3), (18, .iload_n 3, 1), (19, .ifCond .lt 8, 3), (22, .iload_n 3, 1), (23, .iconst 1, 1), (24, .if_icmp .le 5, 3), (27, .iconst (-1), 1), (28, .ireturn, 1), (29, .iconst 0, 1), (30, .istore 4, 2), (32, .iconst (-1), 1), (33, .istore 5, 2), (35, .iconst 1, 1), (36, .istore 6, 2), (38, .iload 6, 2), (40, .iload_n 2, 1), (41, .if_icmp .gt 65, 3), (44, .iconst 0, 1), (45, .istore 7, 2), (47, .iload 7, 2), (49, .getstatic 331, 3), (52, .iload 6, 2), (54, .iaload, 1), (55, .if_icmp .ge 45, 3), (58, .aload_n 0, 1), (59, .iload_n 1, 1), (60, .iload 6, 2), (62, .iload 7, 2), (64, .invokevirtual 342, 3), (67, .invokestatic 345, 3), (70, .istore 8, 2), (72, .iload 8, 2), (74, .iload 4, 2), (76, .if_icmp .le 18, 3), (79, .iload 8, 2), (81, .istore 4, 2), (83, .getstatic 331, 3), (86, .iload 6, 2), (88, .iaload, 1), (89, .iload 7, 2), (91, .iadd, 1), (92, .istore 5, 2), (94, .iinc 7 10, 3), (97, .goto (-50), 3), (100, .iinc 6 1, 3), (103, .goto (-65), 3), (106, .iload_n 3, 1), (107, .ifCond .eq 9, 3), (110, .iload 5, 2), (112, .iconst (-1), 1), (113, .if_icmp .ne 8, 3), (116, .iload 5, 2), (118, .goto 5, 3), (121, .iload 4, 2), (123, .ireturn, 1)]
def aM_X11_dearest : aM := (yX11_dearest, cX11_dearest, 9, (some .int), aC_RX11, aL_X11_dearest, 1229)
def aL_X11_fitting : List (Nat × Instr × Nat) := [(0, .iconst 0, 1), (1, .istore 4, 2), (3, .iconst 0, 1), (4, .istore 5, 2), (6, .iload 5, 2), (8, .aload_n 0, 1), (9, .getfield 35, 3), (12, .getfield 121, 3), (15, .if_icmp .ge 30, 3), (18, .aload_n 0, 1), (19, .iload_n 1, 1), (20, .iload 5, 2), (22, .iload_n 2, 1), (23, .iload_n 3, 1), (24, .invokevirtual 334, 3), (27, .ifCond .eq 12, 3), (30, .iload 4, 2), (32, .iconst 1, 1), (33, .iload 5, 2), (35, .ishl, 1), (36, .ior, 1), (37, .istore 4, 2), (39, .iinc 5 1, 3), (42, .goto (-36), 3), (45, .iload 4, 2), (47, .ireturn, 1)]
def aM_X11_fitting : aM := (yX11_fitting, cX11_fitting, 6, (some .int), aC_RX11, aL_X11_fitting, 1225)
def aL_X11_fits : List (Nat × Instr × Nat) := [(0, .aload_n 0, 1), (1, .getfield 42, 3), (4, .getfield 350, 3), (7, .iload_n 1, 1), (8, .iaload, 1), (9, .istore 5, 2), (11, .iload 5, 2), (13, .iconst 1, 1), (14, .if_icmp .lt 11, 3), (17, .iload 4, 2), (19, .bipush 10, 2), (21, .irem, 1), (22, .ifCond .eq 5, 3), (25, .iconst 0, 1), (26, .ireturn, 1), (27, .aload_n 0, 1), (28, .getfield 42, 3), (31, .getfield 353, 3), (34, .iload_n 1, 1), (35, .aaload, 1), (36, .iload 5, 2), (38, .iconst 1, 1), (39, .isub, 1), (40, .iaload, 1), (41, .istore 6, 2), (43, .iconst 0, 1), (44, .istore 7, 2), (46, .iload 7, 2), (48, .iload_n 3, 1), (49, .if_icmp .ge 53, 3), (52, .iload 4, 2), (54, .getstatic 331, 3), (57, .iload_n 3, 1), (58, .iconst 1, 1), (59, .isub, 1), (60, .iload 7, 2), (62, .isub, 1), (63, .iaload, 1), (64, .idiv, 1), (65, .bipush 10, 2), (67, .irem, 1), (68, .istore 8, 2), (70, .aload_n 0, 1), (71, .getfield 35, 3), (74, .iload_n 2, 1), (75, .iload 5, 2), (77, .iload 7, 2), (79, .iadd, 1), (80, .iload 6, 2), (82, .iload 8, 2), (84, .invokevirtual 357, 3), (87, .ifCond .ne 5, 3), (90, .iconst 0, 1), (91, .ireturn, 1), (92, .iload 8, 2), (94, .istore 6, 2), (96, .iinc 7 1, 3), (99, .goto (-53), 3), (102, .iconst 1, 1), (103, .ireturn, 1)]
def aM_X11_fits : aM := (yX11_fits, cX11_fits, 9, (some .boolean), aC_RX11, aL_X11_fits, 1203)
def aL_X11_isBehind : List (Nat × Instr × Nat) := [(0, .iload_n 0, 1), (1, .iconst 1, 1), (2, .if_icmp .lt 12, 3), (5, .iload_n 0, 1), (6, .iconst 4, 1), (7, .if_icmp .gt 7, 3), (10, .iconst 1, 1), (11, .goto 4, 3), (14, .iconst 0, 1), (15, .ireturn, 1)]
def aM_X11_isBehind : aM := (yX11_isBehind, cX11_isBehind, 1, (some .boolean), aC_RX11, aL_X11_isBehind, 1198)
def aL_X11_sign : List (Nat × Instr × Nat) := [(0, .aload_n 0, 1), (1, .getfield 42, 3), (4, .iload_n 1, 1), (5, .invokevirtual 327, 3), (8, .ifCond .eq 21, 3), (11, .iload_n 2, 1), (12, .iconst (-1), 1), (13, .if_icmp .lt 16, 3), (16, .iload_n 2, 1), (17, .aload_n 0, 1), (18, .getfield 42, 3), (21, .getfield 350, 3), (24, .iload_n 1, 1), (25, .iaload, 1), (26, .if_icmp .lt 5, 3), (29, .iconst (-1), 1), (30, .ireturn, 1), (31, .iload_n 2, 1), (32, .iconst (-1), 1), (33, .if_icmp .ne 15, 3), (36, .aload_n 0, 1), (37, .getfield 42, 3), (40, .getfield 350, 3), (43, .iload_n 1, 1), (44, .iaload, 1), (45, .goto 14, 3), (48, .aload_n 0, 1), (49, .getfield 42, 3), (52, .getfield 353, 3), (55, .iload_n 1, 1), (56, .aaload, 1), (57, .iload_n 2, 1), (58, .iaload, 1), (59, .ireturn, 1)]
def aM_X11_sign : aM := (yX11_sign, cX11_sign, 3, (some .int), aC_RX11, aL_X11_sign, 1234)
def aL_X11_ended : List (Nat × Instr × Nat) := [(0, .aload_n 0, 1), (1, .getfield 86, 3), (4, .iload_n 1, 1), (5, .invokevirtual 142, 3), (8, .ifCond .eq 25, 3), (11, .aload_n 0, 1), (12, .getfield 86, 3), (15, .iload_n 2, 1), (16, .invokevirtual 177, 3), (19, .ifCond .eq 14, 3), (22, .iload_n 3, 1), (23, .iconst 1, 1), (24, .if_icmp .lt 9, 3), (27, .iload_n 3, 1), (28, .bipush 99, 2), (30, .if_icmp .le 5, 3), (33, .iconst (-1), 1), (34, .ireturn, 1), (35, .aload_n 0, 1), (36, .getfield 49, 3), (39, .iload_n 1, 1), (40, .iload_n 2, 1), (41, .iload_n 3, 1), (42, .invokevirtual 360, 3), (45, .ireturn, 1)]
def aM_X11_ended : aM := (yX11_ended, cX11_ended, 4, (some .int), aC_RX11, aL_X11_ended, 1238)
def aL_X11_stood : List (Nat × Instr × Nat) := [(0, .aload_n 0, 1), (1, .getfield 86, 3), (4, .iload_n 1, 1), (5, .invokevirtual 142, 3), (8, .ifCond .eq 18, 3), (11, .aload_n 0, 1), (12, .getfield 49, 3), (15, .aload_n 0, 1), (16, .getfield 86, 3), (19, .iload_n 1, 1), (20, .invokevirtual 362, 3), (23, .goto 4, 3), (26, .iconst (-1), 1), (27, .ireturn, 1)]
def aM_X11_stood : aM := (yX11_stood, cX11_stood, 2, (some .int), aC_RX11, aL_X11_stood, 1246)
def aL_X11_count : List (Nat × Instr × Nat) := [(0, .iload_n 1, 1), (1, .tableswitch 173 0 12 #[67, 75, 83, 91, 99, 107, 115, 126, 131, 139, 147, 156, 165], 67), (68, .aload_n 0, 1), (69, .getfield 86, 3), (72, .getfield 139, 3), (75, .ireturn, 1), (76, .aload_n 0, 1), (77, .getfield 86, 3), (80, .getfield 299, 3), (83, .ireturn, 1), (84, .aload_n 0, 1), (85, .getfield 86, 3), (88, .getfield 365, 3), (91, .ireturn, 1), (92, .aload_n 0, 1), (93, .getfield 35, 3), (96, .getfield 121, 3), (99, .ireturn, 1), (100, .aload_n 0, 1), (101, .getfield 42, 3), (104, .getfield 132, 3), (107, .ireturn, 1), (108, .aload_n 0, 1), (109, .getfield 10, 3), (112, .getfield 101, 3), (115, .ireturn, 1), (116, .aload_n 0, 1), (117, .getfield 86, 3), (120, .getfield 159, 3), (123, .bipush 66, 2), (125, .iaload, 1), (126, .ireturn, 1), (127, .aload_n 0, 1), (128, .getfield 93, 3), (131, .ireturn, 1), (132, .aload_n 0, 1), (133, .getfield 49, 3), (136, .getfield 135, 3), (139, .ireturn, 1), (140, .aload_n 0, 1), (141, .getfield 56, 3), (144, .getfield 235, 3), (147, .ireturn, 1), (148, .aload_n 0, 1), (149, .getfield 86, 3), (152, .iconst 1, 1), (153, .invokevirtual 368, 3), (156, .ireturn, 1), (157, .aload_n 0, 1), (158, .getfield 86, 3), (161, .iconst 2, 1), (162, .invokevirtual 368, 3), (165, .ireturn, 1), (166, .aload_n 0, 1), (167, .getfield 86, 3), (170, .invokevirtual 371, 3), (173, .ireturn, 1), (174, .ldc_w 283, 3), (177, .ireturn, 1)]
def aM_X11_count : aM := (yX11_count, cX11_count, 2, (some .int), aC_RX11, aL_X11_count, 1259)
def aL_X11_isTrade : List (Nat × Instr × Nat) := [(0, .iload_n 0, 1), (1, .ifCond .lt 12, 3), (4, .iload_n 0, 1), (5, .iconst 5, 1), (6, .if_icmp .ge 7, 3), (9, .iconst 1, 1), (10, .goto 4, 3), (13, .iconst 0, 1), (14, .ireturn, 1)]
def aM_X11_isTrade : aM := (yX11_isTrade, cX11_isTrade, 1, (some .boolean), aC_RX11, aL_X11_isTrade, 743)
def aL_X12_thrown : List (Nat × Instr × Nat) := [(0, .aload_n 0, 1), (1, .getfield 117, 3), (4, .ireturn, 1)]
def aM_X12_thrown : aM := (yX12_thrown, cX12_thrown, 1, (some .int), aC_RX12, aL_X12_thrown, 1536)
def aL_X12_isIn : List (Nat × Instr × Nat) := [(0, .lload_n 0, 1), (1, .lload_n 2, 1), (2, .lcmp, 1), (3, .ifCond .lt 14, 3), (6, .lload_n 0, 1), (7, .lload 4, 2), (9, .lcmp, 1), (10, .ifCond .gt 7, 3), (13, .iconst 1, 1), (14, .goto 4, 3), (17, .iconst 0, 1), (18, .ireturn, 1)]
def aM_X12_isIn : aM := (yX12_isIn, cX12_isIn, 6, (some .boolean), aC_RX12, aL_X12_isIn, 1559)
def aL_X12_has : List (Nat × Instr × Nat) := [(0, .iload_n 0, 1), (1, .iload_n 1, 1), (2, .ishr, 1), (3, .iconst 1, 1), (4, .iand, 1), (5, .iconst 1, 1), (6, .if_icmp .ne 7, 3), (9, .iconst 1, 1), (10, .goto 4, 3), (13, .iconst 0, 1), (14, .ireturn, 1)]
def aM_X12_has : aM := (yX12_has, cX12_has, 2, (some .boolean), aC_RX12, aL_X12_has, 1642)
def aL_X12_isAmong : List (Nat × Instr × Nat) := [(0, .iconst 0, 1), (1, .istore_n 2, 1), (2, .iload_n 2, 1), (3, .aload_n 0, 1), (4, .invokevirtual 120, 3), (7, .if_icmp .ge 20, 3), (10, .aload_n 0, 1), (11, .iload_n 2, 1), (12, .invokevirtual 126, 3), (15, .iload_n 1, 1), (16, .if_icmp .ne 5, 3), (19, .iconst 1, 1), (20, .ireturn, 1), (21, .iinc 2 1, 3), (24, .goto (-22), 3), (27, .iconst 0, 1), (28, .ireturn, 1)]
def aM_X12_isAmong : aM := (yX12_isAmong, cX12_isAmong, 3, (some .boolean), aC_RX12, aL_X12_isAmong, 1671)
def aL_X12_bytesIn : List (Nat × Instr × Nat) := [(0, .iconst 0, 1), (1, .istore_n 1, 1), (2, .bipush 24, 2), (4, .istore_n 2, 1), (5, .iload_n 2, 1), (6, .ifCond .lt 27, 3), (9, .iload_n 1, 1), (10, .iload_n 0, 1), (11, .iload_n 2, 1), (12, .ishr, 1), (13, .sipush 255, 3), (16, .iand, 1), (17, .ifCond .eq 7, 3), (20, .iconst 1, 1), (21, .goto 4, 3), (24, .iconst 0, 1), (25, .iadd, 1), (26, .istore_n 1, 1), (27, .iinc 2 (-8), 3), (30, .goto (-25), 3), (33, .iload_n 1, 1), (34, .ireturn, 1)]
def aM_X12_bytesIn : aM := (yX12_bytesIn, cX12_bytesIn, 3, (some .int), aC_RX12, aL_X12_bytesIn, 1543)
def aL_X12_put : List (Nat × Instr × Nat) := [(0, .bipush 24, 2), (2, .istore_n 2, 1), (3, .iload_n 2, 1), (4, .ifCond .lt 45, 3), (7, .iload_n 1, 1), (8, .iload_n 2, 1), (9, .ishr, 1), (10, .sipush 255, 3), (13, .iand, 1), (14, .ifCond .ne 6, 3), (17, .goto 26, 3), (20, .aload_n 0, 1), (21, .getfield 9, 3), (24, .aload_n 0, 1), (25, .getfield 130, 3), (28, .iload_n 1, 1), (29, .iload_n 2, 1), (30, .ishr, 1), (31, .i2b, 1), (32, .bastore, 1), (33, .aload_n 0, 1), (34, .dup, 1), (35, .getfield 130, 3), (38, .iconst 1, 1), (39, .iadd, 1), (40, .putfield 130, 3), (43, .iinc 2 (-8), 3), (46, .goto (-43), 3), (49, .return_, 1)]
def aM_X12_put : aM := (yX12_put, cX12_put, 3, none, aC_RX12, aL_X12_put, 1547)
def aL_X12_feed : List (Nat × Instr × Nat) := [(0, .aload_n 0, 1), (1, .iconst 0, 1), (2, .putfield 117, 3), (5, .aload_n 0, 1), (6, .getfield 130, 3), (9, .iload_n 1, 1), (10, .invokestatic 132, 3), (13, .iadd, 1), (14, .iload_n 2, 1), (15, .invokestatic 132, 3), (18, .iadd, 1), (19, .iload_n 3, 1), (20, .invokestatic 132, 3), (23, .iadd, 1), (24, .iload 4, 2), (26, .invokestatic 132, 3), (29, .iadd, 1), (30, .iload 5, 2), (32, .invokestatic 132, 3), (35, .iadd, 1), (36, .sipush 240, 3), (39, .if_icmp .le 5, 3), (42, .iconst (-1), 1), (43, .ireturn, 1), (44, .aload_n 0, 1), (45, .iload_n 1, 1), (46, .invokevirtual 136, 3), (49, .aload_n 0, 1), (50, .iload_n 2, 1), (51, .invokevirtual 136, 3), (54, .aload_n 0, 1), (55, .iload_n 3, 1), (56, .invokevirtual 136, 3), (59, .aload_n 0, 1), (60, .iload 4, 2), (62, .invokevirtual 136, 3), (65, .aload_n 0, 1), (66, .iload 5, 2), (68, .invokevirtual 136, 3), (71, .aload_n 0, 1), (72, .getfield 130, 3), (75, .ireturn, 1)]
def aM_X12_feed : aM := (yX12_feed, cX12_feed, 6, (some .int), aC_RX12, aL_X12_feed, 1540)
def aL_X12_end : List (Nat × Instr × Nat) := [(0, .aload_n 0, 1), (1, .iconst 0, 1), (2, .putfield 117, 3), (5, .iload_n 1, 1), (6, .ifCond .lt 11, 3), (9, .iload_n 1, 1), (10, .aload_n 0, 1), (11, .getfield 130, 3), (14, .if_icmp .le 5, 3), (17, .iconst 0, 1), (18, .ireturn, 1), (19, .aload_n 0, 1), (20, .iload_n 1, 1), (21, .putfield 130, 3), (24, .iconst 1, 1), (25, .ireturn, 1)]
def aM_X12_end : aM := (yX12_end, cX12_end, 2, (some .boolean), aC_RX12, aL_X12_end, 1551)
def aL_X12_look : List (Nat × Instr × Nat) := [(0, .aload_n 0, 1), (1, .getfield 140, 3), (4, .aload_n 0, 1), (5, .getfield 143, 3), (8, .if_icmp .ge 35, 3), (11, .aload_n 0, 1), (12, .getfield 23, 3), (15, .aload_n 0, 1), (16, .getfield 146, 3), (19, .aload_n 0, 1), (20, .getfield 140, 3), (23, .iadd, 1), (24, .baload, 1), (25, .bipush 32, 2), (27, .if_icmp .ne 16, 3), (30, .aload_n 0, 1), (31, .dup, 1), (32, .getfield 140, 3), (35, .iconst 1, 1), (36, .iadd, 1), (37, .putfield 140, 3), (40, .goto (-40), 3), (43, .aload_n 0, 1), (44, .getfield 140, 3), (47, .aload_n 0, 1), (48, .getfield 143, 3), (51, .if_icmp .ge 24, 3), (54, .aload_n 0, 1), (55, .getfield 23, 3), (58, .aload_n 0, 1), (59, .getfield 146, 3), (62, .aload_n 0, 1), (63, .getfield 140, 3), (66, .iadd, 1), (67, .baload, 1), (68, .sipush 255, 3), (71, .iand, 1), (72, .goto 4, 3), (75, .iconst (-1), 1), (76, .ireturn, 1)]
def aM_X12_look : aM := (yX12_look, cX12_look, 1, (some .int), aC_RX12, aL_X12_look, 1575)
def aL_X12_fails : List (Nat × Instr × Nat) := [(0, .aload_n 0, 1), (1, .getfield 149, 3), (4, .iconst (-1), 1), (5, .if_icmp .ne 11, 3), (8, .aload_n 0, 1), (9, .aload_n 0, 1), (10, .getfield 140, 3), (13, .putfield 149, 3), (16, .iconst 0, 1), (17, .ireturn, 1)]
def aM_X12_fails : aM := (yX12_fails, cX12_fails, 1, (some .boolean), aC_RX12, aL_X12_fails, 1579)
def aL_X12_goesIn : List (Nat × Instr × Nat) := [(0, .aload_n 0, 1), (1, .getfield 152, 3), (4, .bipush 6, 2), (6, .if_icmp .ne 8, 3), (9, .aload_n 0, 1), (10, .invokevirtual 155, 3), (13, .ireturn, 1), (14, .aload_n 0, 1), (15, .dup, 1), (16, .getfield 152, 3), (19, .iconst 1, 1), (20, .iadd, 1), (21, .putfield 152, 3), (24, .aload_n 0, 1), (25, .dup, 1), (26, .getfield 140, 3), (29, .iconst 1, 1), (30, .iadd, 1), (31, .putfield 140, 3), (34, .iconst 1, 1), (35, .ireturn, 1)]
def aM_X12_goesIn : aM := (yX12_goesIn, cX12_goesIn, 1, (some .boolean), aC_RX12, aL_X12_goesIn, 1703)
def aL_X12_takes : List (Nat × Instr × Nat) := [(0, .aload_n 0, 1), (1, .getfield 149, 3), (4, .iconst (-1), 1), (5, .if_icmp .ne 11, 3), (8, .aload_n 0, 1), (9, .invokevirtual 159, 3), (12, .iload_n 1, 1), (13, .if_icmp .eq 8, 3), (16, .aload_n 0, 1), (17, .invokevirtual 155, 3), (20, .ireturn, 1), (21, .aload_n 0, 1), (22, .dup, 1), (23, .getfield 140, 3), (26, .iconst 1, 1), (27, .iadd, 1), (28, .putfield 140, 3), (31, .iconst 1, 1), (32, .ireturn, 1)]
def aM_X12_takes : aM := (yX12_takes, cX12_takes, 2, (some .boolean), aC_RX12, aL_X12_takes, 1675)
def aL_X12_isDigit : List (Nat × Instr × Nat) := [(0, .aload_n 0, 1), (1, .getfield 140, 3), (4, .aload_n 0, 1), (5, .getfield 143, 3), (8, .if_icmp .ge 45, 3), (11, .aload_n 0, 1), (12, .getfield 23, 3), (15, .aload_n 0, 1), (16, .getfield 146, 3), (19, .aload_n 0, 1), (20, .getfield 140, 3), (23, .iadd, 1), (24, .baload, 1), (25, .bipush 48, 2), (27, .if_icmp .lt 26, 3), (30, .aload_n 0, 1), (31, .getfield 23, 3), (34, .aload_n 0, 1), (35, .getfield 146, 3), (38, .aload_n 0, 1), (39, .getfield 140, 3), (42, .iadd, 1), (43, .baload, 1), (44, .bipush 57, 2), (46, .if_icmp .gt 7, 3), (49, .iconst 1, 1), (50, .goto 4, 3), (53, .iconst 0, 1), (54, .ireturn, 1)]
def aM_X12_isDigit : aM := (yX12_isDigit, cX12_isDigit, 1, (some .boolean), aC_RX12, aL_X12_isDigit, 1650)
def aL_X12_within : List (Nat × Instr × Nat) := [(0, .ldc2_w 162, 3), (3, .ldc2_w 164, 3), (6, .lload_n 0, 1), (7, .invokestatic 166, 3), (10, .invokestatic 172, 3), (13, .l2i, 1), (14, .ireturn, 1)]
def aM_X12_within : aM := (yX12_within, cX12_within, 2, (some .int), aC_RX12, aL_X12_within, 1706)
def aL_X12_atom : List (Nat × Instr × Nat) := [(0, .aload_n 0, 1), (1, .invokevirtual 159, 3), (4, .istore_n 1, 1), (5, .ldc 32, 2), (7, .iload_n 1, 1), (8, .invokestatic 175, 3), (11, .ifCond .eq 20, 3), (14, .aload_n 0, 1), (15, .dup, 1), (16, .getfield 140, 3), (19, .iconst 1, 1), (20, .iadd, 1), (21, .putfield 140, 3), (24, .aload_n 0, 1), (25, .getfield 20, 3), (28, .iload_n 1, 1), (29, .iaload, 1), (30, .ireturn, 1), (31, .iload_n 1, 1), (32, .bipush 91, 2), (34, .if_icmp .ne 40, 3), (37, .aload_n 0, 1), (38, .invokevirtual 179, 3), (41, .ifCond .ne 5, 3), (44, .iconst 0, 1), (45, .ireturn, 1), (46, .aload_n 0, 1), (47, .invokevirtual 182, 3), (50, .istore_n 2, 1), (51, .aload_n 0, 1), (52, .bipush 93, 2), (54, .invokevirtual 185, 3), (57, .ifCond .ne 5, 3), (60, .iconst 0, 1), (61, .ireturn, 1), (62, .aload_n 0, 1), (63, .dup, 1), (64, .getfield 152, 3), (67, .iconst 1, 1), (68, .isub, 1), (69, .putfield 152, 3), (72, .iload_n 2, 1), (73, .ireturn, 1), (74, .aload_n 0, 1), (75, .invokevirtual 189, 3), (78, .ifCond .ne 8, 3), (81, .aload_n 0, 1), (82, .invokevirtual 155, 3), (85, .pop, 1), (86, .iconst 0, 1), (87, .istore_n 2, 1), (88, .iconst 0, 1), (89, .istore_n 3, 1), (90, .aload_n 0, 1), (91, .invokevirtual 189, 3), (94, .ifCond .eq 62, 3), (97, .aload_n 0, 1), (98, .getfield 149, 3), (101, .iconst (-1), 1), (102, .if_icmp .ne 54, 3), (105, .iload_n 3, 1), (106, .iconst 4, 1), (107, .if_icmp .ne 10, 3), (110, .aload_n 0, 1), (111, .invokevirtual 155, 3), (114, .pop, 1), (115, .iconst 0, 1), (116, .ireturn, 1), (117, .bipush 10, 2), (119, .iload_n 2, 1), (120, .imul, 1), (121, .aload_n 0, 1), (122, .getfield 23, 3), (125, .aload_n 0, 1), (126, .getfield 146, 3), (129, .aload_n 0, 1), (130, .getfield 140, 3), (133, .iadd, 1), (134, .baload, 1), (135, .iadd, 1), (136, .bipush 48, 2), (138, .isub, 1), (139, .istore_n 2, 1), (140, .aload_n 0, 1), (141, .dup, 1), (142, .getfield 140, 3), (145, .iconst 1, 1), (146, .iadd, 1), (147, .putfield 140, 3), (150, .iinc 3 1, 3), (153, .goto (-63), 3), (156, .iload_n 2, 1), (157, .ireturn, 1)]
def aM_X12_atom : aM := (yX12_atom, cX12_atom, 4, (some .int), aC_RX12, aL_X12_atom, 1699)
def aL_X12_term : List (Nat × Instr × Nat) := [(0, .aload_n 0, 1), (1, .invokevirtual 192, 3), (4, .istore_n 1, 1), (5, .aload_n 0, 1), (6, .getfield 149, 3), (9, .iconst (-1), 1), (10, .if_icmp .ne 84, 3), (13, .aload_n 0, 1), (14, .invokevirtual 159, 3), (17, .bipush 42, 2), (19, .if_icmp .eq 12, 3), (22, .aload_n 0, 1), (23, .invokevirtual 159, 3), (26, .bipush 47, 2), (28, .if_icmp .ne 66, 3), (31, .aload_n 0, 1), (32, .invokevirtual 159, 3), (35, .bipush 42, 2), (37, .if_icmp .ne 7, 3), (40, .iconst 1, 1), (41, .goto 4, 3), (44, .iconst 0, 1), (45, .istore_n 2, 1), (46, .aload_n 0, 1), (47, .dup, 1), (48, .getfield 140, 3), (51, .iconst 1, 1), (52, .iadd, 1), (53, .putfield 140, 3), (56, .aload_n 0, 1), (57, .invokevirtual 192, 3), (60, .i2l, 1), (61, .lstore_n 3, 1), (62, .iload_n 2, 1), (63, .ifCond .eq 10, 3), (66, .iload_n 1, 1), (67, .i2l, 1), (68, .lload_n 3, 1), (69, .lmul, 1), (70, .goto 17, 3), (73, .lload_n 3, 1), (74, .lconst 0, 1), (75, .lcmp, 1), (76, .ifCond .ne 7, 3), (79, .lconst 0, 1), (80, .goto 7, 3), (83, .iload_n 1, 1), (84, .i2l, 1), (85, .lload_n 3, 1), (86, .ldiv, 1), (87, .invokestatic 195, 3), (90, .istore_n 1, 1), (91, .goto (-86), 3), (94, .iload_n 1, 1), (95, .ireturn, 1)]
def aM_X12_term : aM := (yX12_term, cX12_term, 5, (some .int), aC_RX12, aL_X12_term, 1695)
def aL_X12_sum : List (Nat × Instr × Nat) := [(0, .aload_n 0, 1), (1, .invokevirtual 199, 3), (4, .istore_n 1, 1), (5, .aload_n 0, 1), (6, .getfield 149, 3), (9, .iconst (-1), 1), (10, .if_icmp .ne 74, 3), (13, .aload_n 0, 1), (14, .invokevirtual 159, 3), (17, .bipush 43, 2), (19, .if_icmp .eq 12, 3), (22, .aload_n 0, 1), (23, .invokevirtual 159, 3), (26, .bipush 45, 2), (28, .if_icmp .ne 56, 3), (31, .aload_n 0, 1), (32, .invokevirtual 159, 3), (35, .bipush 43, 2), (37, .if_icmp .ne 7, 3), (40, .iconst 1, 1), (41, .goto 4, 3), (44, .iconst 0, 1), (45, .istore_n 2, 1), (46, .aload_n 0, 1), (47, .dup, 1), (48, .getfield 140, 3), (51, .iconst 1, 1), (52, .iadd, 1), (53, .putfield 140, 3), (56, .aload_n 0, 1), (57, .invokevirtual 199, 3), (60, .i2l, 1), (61, .lstore_n 3, 1), (62, .iload_n 2, 1), (63, .ifCond .eq 10, 3), (66, .iload_n 1, 1), (67, .i2l, 1), (68, .lload_n 3, 1), (69, .ladd, 1), (70, .goto 7, 3), (73, .iload_n 1, 1), (74, .i2l, 1), (75, .lload_n 3, 1), (76, .lsub, 1), (77, .invokestatic 195, 3), (80, .istore_n 1, 1), (81, .goto (-76), 3), (84, .iload_n 1, 1), (85, .ireturn, 1)]
def aM_X12_sum : aM := (yX12_sum, cX12_sum, 5, (some .int), aC_RX12, aL_X12_sum, 1691)
def aL_X12_isSign : List (Nat × Instr × Nat) := [(0, .iload_n 0, 1), (1, .bipush 61, 2), (3, .if_icmp .eq 15, 3), (6, .iload_n 0, 1), (7, .bipush 60, 2), (9, .if_icmp .eq 9, 3), (12, .iload_n 0, 1), (13, .bipush 62, 2), (15, .if_icmp .ne 7, 3), (18, .iconst 1, 1), (19, .goto 4, 3), (22, .iconst 0, 1), (23, .ireturn, 1)]
def aM_X12_isSign : aM := (yX12_isSign, cX12_isSign, 1, (some .boolean), aC_RX12, aL_X12_isSign, 1713)
def aL_X12_compares : List (Nat × Instr × Nat) := [(0, .iload_n 1, 1), (1, .ifCond .eq 7, 3), (4, .iload_n 2, 1), (5, .goto 7, 3), (8, .aload_n 0, 1), (9, .invokevirtual 182, 3), (12, .istore_n 3, 1), (13, .aload_n 0, 1), (14, .getfield 149, 3), (17, .iconst (-1), 1), (18, .if_icmp .eq 5, 3), (21, .iconst 0, 1), (22, .ireturn, 1), (23, .aload_n 0, 1), (24, .invokevirtual 159, 3), (27, .istore 4, 2), (29, .iload 4, 2), (31, .invokestatic 202, 3), (34, .ifCond .ne 8, 3), (37, .aload_n 0, 1), (38, .invokevirtual 155, 3), (41, .ireturn, 1), (42, .aload_n 0, 1), (43, .dup, 1), (44, .getfield 140, 3), (47, .iconst 1, 1), (48, .iadd, 1), (49, .putfield 140, 3), (52, .aload_n 0, 1), (53, .invokevirtual 182, 3), (56, .istore 5, 2), (58, .iload 4, 2), (60, .bipush 61, 2), (62, .if_icmp .ne 17, 3), (65, .iload_n 3, 1), (66, .iload 5, 2), (68, .if_icmp .ne 7, 3), (71, .iconst 1, 1), (72, .goto 39, 3), (75, .iconst 0, 1), (76, .goto 35, 3), (79, .iload 4, 2), (81, .bipush 60, 2), (83, .if_icmp .ne 17, 3), (86, .iload_n 3, 1), (87, .iload 5, 2), (89, .if_icmp .ge 7, 3), (92, .iconst 1, 1), (93, .goto 18, 3), (96, .iconst 0, 1), (97, .goto 14, 3), (100, .iload_n 3, 1), (101, .iload 5, 2), (103, .if_icmp .le 7, 3), (106, .iconst 1, 1), (107, .goto 4, 3), (110, .iconst 0, 1), (111, .ireturn, 1)]
def aM_X12_compares : aM := (yX12_compares, cX12_compares, 6, (some .boolean), aC_RX12, aL_X12_compares, 1687)
def aL_X12_unit : List (Nat × Instr × Nat) := [(0, .aload_n 0, 1), (1, .invokevirtual 159, 3), (4, .istore_n 1, 1), (5, .iload_n 1, 1), (6, .bipush 33, 2), (8, .if_icmp .ne 37, 3), (11, .aload_n 0, 1), (12, .invokevirtual 179, 3), (15, .ifCond .ne 5, 3), (18, .iconst 0, 1), (19, .ireturn, 1), (20, .aload_n 0, 1), (21, .invokevirtual 205, 3), (24, .istore_n 2, 1), (25, .aload_n 0, 1), (26, .dup, 1), (27, .getfield 152, 3), (30, .iconst 1, 1), (31, .isub, 1), (32, .putfield 152, 3), (35, .iload_n 2, 1), (36, .ifCond .ne 7, 3), (39, .iconst 1, 1), (40, .goto 4, 3), (43, .iconst 0, 1), (44, .ireturn, 1), (45, .iload_n 1, 1), (46, .bipush 40, 2), (48, .if_icmp .ne 42, 3), (51, .aload_n 0, 1), (52, .invokevirtual 179, 3), (55, .ifCond .ne 5, 3), (58, .iconst 0, 1), (59, .ireturn, 1), (60, .aload_n 0, 1), (61, .iconst 0, 1), (62, .iconst 0, 1), (63, .invokevirtual 208, 3), (66, .istore_n 2, 1), (67, .aload_n 0, 1), (68, .bipush 41, 2), (70, .invokevirtual 185, 3), (73, .ifCond .ne 5, 3), (76, .iconst 0, 1), (77, .ireturn, 1), (78, .aload_n 0, 1), (79, .dup, 1), (80, .getfield 152, 3), (83, .iconst 1, 1), (84, .isub, 1), (85, .putfield 152, 3), (88, .iload_n 2, 1), (89, .ireturn, 1), (90, .aload_n 0, 1), (91, .iconst 0, 1), (92, .iconst 0, 1), (93, .invokevirtual 212, 3), (96, .ireturn, 1)]
def aM_X12_unit : aM := (yX12_unit, cX12_unit, 3, (some .boolean), aC_RX12, aL_X12_unit, 1717)
def aL_X12_part : List (Nat × Instr × Nat) := [(0, .iload_n 1, 1), (1, .ifCond .eq 12, 3), (4, .aload_n 0, 1), (5, .iconst 1, 1), (6, .iload_n 2, 1), (7, .invokevirtual 212, 3), (10, .goto 7, 3), (13, .aload_n 0, 1), (14, .invokevirtual 205, 3), (17, .istore_n 3, 1), (18, .aload_n 0, 1), (19, .getfield 149, 3), (22, .iconst (-1), 1), (23, .if_icmp .ne 46, 3), (26, .aload_n 0, 1), (27, .invokevirtual 159, 3), (30, .bipush 38, 2), (32, .if_icmp .ne 37, 3), (35, .aload_n 0, 1), (36, .dup, 1), (37, .getfield 140, 3), (40, .iconst 1, 1), (41, .iadd, 1), (42, .putfield 140, 3), (45, .aload_n 0, 1), (46, .invokevirtual 205, 3), (49, .istore 4, 2), (51, .iload_n 3, 1), (52, .ifCond .eq 12, 3), (55, .iload 4, 2), (57, .ifCond .eq 7, 3), (60, .iconst 1, 1), (61, .goto 4, 3), (64, .iconst 0, 1), (65, .istore_n 3, 1), (66, .goto (-48), 3), (69, .iload_n 3, 1), (70, .ireturn, 1)]
def aM_X12_part : aM := (yX12_part, cX12_part, 5, (some .boolean), aC_RX12, aL_X12_part, 1683)
def aL_X12_condition : List (Nat × Instr × Nat) := [(0, .aload_n 0, 1), (1, .iload_n 1, 1), (2, .iload_n 2, 1), (3, .invokevirtual 215, 3), (6, .istore_n 3, 1), (7, .aload_n 0, 1), (8, .getfield 149, 3), (11, .iconst (-1), 1), (12, .if_icmp .ne 48, 3), (15, .aload_n 0, 1), (16, .invokevirtual 159, 3), (19, .bipush 124, 2), (21, .if_icmp .ne 39, 3), (24, .aload_n 0, 1), (25, .dup, 1), (26, .getfield 140, 3), (29, .iconst 1, 1), (30, .iadd, 1), (31, .putfield 140, 3), (34, .aload_n 0, 1), (35, .iconst 0, 1), (36, .iconst 0, 1), (37, .invokevirtual 215, 3), (40, .istore 4, 2), (42, .iload_n 3, 1), (43, .ifCond .ne 8, 3), (46, .iload 4, 2), (48, .ifCond .eq 7, 3), (51, .iconst 1, 1), (52, .goto 4, 3), (55, .iconst 0, 1), (56, .istore_n 3, 1), (57, .goto (-50), 3), (60, .iload_n 3, 1), (61, .ireturn, 1)]
def aM_X12_condition : aM := (yX12_condition, cX12_condition, 5, (some .boolean), aC_RX12, aL_X12_condition, 1679)
def aL_X12_clause : List (Nat × Instr × Nat) := [(0, .aload_n 0, 1), (1, .invokevirtual 159, 3), (4, .istore_n 1, 1), (5, .ldc 26, 2), (7, .iload_n 1, 1), (8, .invokestatic 175, 3), (11, .ifCond .ne 9, 3), (14, .aload_n 0, 1), (15, .invokevirtual 155, 3), (18, .pop, 1), (19, .return_, 1), (20, .aload_n 0, 1), (21, .dup, 1), (22, .getfield 140, 3), (25, .iconst 1, 1), (26, .iadd, 1), (27, .putfield 140, 3), (30, .aload_n 0, 1), (31, .bipush 58, 2), (33, .invokevirtual 185, 3), (36, .ifCond .ne 4, 3), (39, .return_, 1), (40, .iconst 1, 1), (41, .istore_n 2, 1), (42, .iconst 0, 1), (43, .istore_n 3, 1), (44, .aload_n 0, 1), (45, .invokevirtual 159, 3), (48, .istore 4, 2), (50, .iload 4, 2), (52, .bipush 33, 2), (54, .if_icmp .eq 10, 3), (57, .iload 4, 2), (59, .bipush 40, 2), (61, .if_icmp .ne 28, 3), (64, .aload_n 0, 1), (65, .iconst 0, 1), (66, .iconst 0, 1), (67, .invokevirtual 208, 3), (70, .istore_n 2, 1), (71, .aload_n 0, 1), (72, .bipush 63, 2), (74, .invokevirtual 185, 3), (77, .ifCond .ne 4, 3), (80, .return_, 1), (81, .aload_n 0, 1), (82, .invokevirtual 182, 3), (85, .istore_n 3, 1), (86, .goto 48, 3), (89, .aload_n 0, 1), (90, .invokevirtual 182, 3), (93, .istore_n 3, 1), (94, .aload_n 0, 1), (95, .getfield 149, 3), (98, .iconst (-1), 1), (99, .if_icmp .ne 35, 3), (102, .aload_n 0, 1), (103, .invokevirtual 159, 3), (106, .invokestatic 202, 3), (109, .ifCond .eq 25, 3), (112, .aload_n 0, 1), (113, .iconst 1, 1), (114, .iload_n 3, 1), (115, .invokevirtual 208, 3), (118, .istore_n 2, 1), (119, .aload_n 0, 1), (120, .bipush 63, 2), (122, .invokevirtual 185, 3), (125, .ifCond .ne 4, 3), (128, .return_, 1), (129, .aload_n 0, 1), (130, .invokevirtual 182, 3), (133, .istore_n 3, 1), (134, .aload_n 0, 1), (135, .getfield 149, 3), (138, .iconst (-1), 1), (139, .if_icmp .ne 22, 3), (142, .aload_n 0, 1), (143, .getfield 218, 3), (146, .ifCond .ne 15, 3), (149, .iload_n 1, 1), (150, .aload_n 0, 1), (151, .getfield 222, 3), (154, .if_icmp .ne 7, 3), (157, .iload_n 2, 1), (158, .ifCond .ne 4, 3), (161, .return_, 1), (162, .aload_n 0, 1), (163, .iconst 1, 1), (164, .putfield 218, 3), (167, .aload_n 0, 1), (168, .iload_n 3, 1), (169, .putfield 225, 3), (172, .return_, 1)]
def aM_X12_clause : aM := (yX12_clause, cX12_clause, 5, none, aC_RX12, aL_X12_clause, 1668)
def aL_X12_starts : List (Nat × Instr × Nat) := [(0, .aload_n 0, 1), (1, .aload_n 1, 1), (2, .putfield 23, 3), (5, .aload_n 0, 1), (6, .iload_n 2, 1), (7, .putfield 146, 3), (10, .aload_n 0, 1), (11, .iload_n 3, 1), (12, .putfield 143, 3), (15, .aload_n 0, 1), (16, .iconst 0, 1), (17, .putfield 140, 3), (20, .aload_n 0, 1), (21, .iconst (-1), 1), (22, .putfield 149, 3), (25, .return_, 1)]
def aM_X12_starts : aM := (yX12_starts, cX12_starts, 4, none, aC_RX12, aL_X12_starts, 1567)
def aL_X12_goThrough : List (Nat × Instr × Nat) := [(0, .aload_n 0, 1), (1, .aload_n 1, 1), (2, .iload_n 2, 1), (3, .iload_n 3, 1), (4, .invokevirtual 228, 3), (7, .aload_n 0, 1), (8, .bipush 121, 2), (10, .putfield 222, 3), (13, .aload_n 0, 1), (14, .iconst 0, 1), (15, .putfield 152, 3), (18, .aload_n 0, 1), (19, .iconst 0, 1), (20, .putfield 218, 3), (23, .aload_n 0, 1), (24, .iconst 0, 1), (25, .putfield 225, 3), (28, .aload_n 0, 1), (29, .invokevirtual 232, 3), (32, .aload_n 0, 1), (33, .getfield 149, 3), (36, .iconst (-1), 1), (37, .if_icmp .ne 29, 3), (40, .aload_n 0, 1), (41, .invokevirtual 159, 3), (44, .bipush 59, 2), (46, .if_icmp .ne 20, 3), (49, .aload_n 0, 1), (50, .dup, 1), (51, .getfield 140, 3), (54, .iconst 1, 1), (55, .iadd, 1), (56, .putfield 140, 3), (59, .aload_n 0, 1), (60, .invokevirtual 232, 3), (63, .goto (-31), 3), (66, .aload_n 0, 1), (67, .getfield 149, 3), (70, .iconst (-1), 1), (71, .if_icmp .ne 16, 3), (74, .aload_n 0, 1), (75, .invokevirtual 159, 3), (78, .iconst (-1), 1), (79, .if_icmp .eq 8, 3), (82, .aload_n 0, 1), (83, .invokevirtual 155, 3), (86, .pop, 1), (87, .return_, 1)]
def aM_X12_goThrough : aM := (yX12_goThrough, cX12_goThrough, 4, none, aC_RX12, aL_X12_goThrough, 1664)
def aL_X12_here : List (Nat × Instr × Nat) := [(0, .aload_n 0, 1), (1, .getfield 140, 3), (4, .aload_n 0, 1), (5, .getfield 143, 3), (8, .if_icmp .ge 24, 3), (11, .aload_n 0, 1), (12, .getfield 23, 3), (15, .aload_n 0, 1), (16, .getfield 146, 3), (19, .aload_n 0, 1), (20, .getfield 140, 3), (23, .iadd, 1), (24, .baload, 1), (25, .sipush 255, 3), (28, .iand, 1), (29, .goto 4, 3), (32, .iconst (-1), 1), (33, .ireturn, 1)]
def aM_X12_here : aM := (yX12_here, cX12_here, 1, (some .int), aC_RX12, aL_X12_here, 1654)
def aL_X12_placeOf : List (Nat × Instr × Nat) := [(0, .iconst 0, 1), (1, .istore_n 2, 1), (2, .iload_n 2, 1), (3, .aload_n 0, 1), (4, .invokevirtual 120, 3), (7, .if_icmp .ge 20, 3), (10, .aload_n 0, 1), (11, .iload_n 2, 1), (12, .invokevirtual 126, 3), (15, .iload_n 1, 1), (16, .if_icmp .ne 5, 3), (19, .iload_n 2, 1), (20, .ireturn, 1), (21, .iinc 2 1, 3), (24, .goto (-22), 3), (27, .iconst (-1), 1), (28, .ireturn, 1)]
def aM_X12_placeOf : aM := (yX12_placeOf, cX12_placeOf, 3, (some .int), aC_RX12, aL_X12_placeOf, 1591)
def aL_X12_readItem : List (Nat × Instr × Nat) := [(0, .aload_n 0, 1), (1, .dup, 1), (2, .getfield 140, 3), (5, .iconst 1, 1), (6, .iadd, 1), (7, .putfield 140, 3), (10, .aload_n 0, 1), (11, .invokevirtual 159, 3), (14, .istore 5, 2), (16, .aload_n 0, 1), (17, .invokevirtual 189, 3), (20, .ifCond .ne 9, 3), (23, .aload_n 0, 1), (24, .invokevirtual 155, 3), (27, .pop, 1), (28, .return_, 1), (29, .iload 5, 2), (31, .bipush 48, 2), (33, .isub, 1), (34, .istore 6, 2), (36, .aload_n 0, 1), (37, .dup, 1), (38, .getfield 140, 3), (41, .iconst 1, 1), (42, .iadd, 1), (43, .putfield 140, 3), (46, .aload_n 0, 1), (47, .invokevirtual 189, 3), (50, .ifCond .eq 28, 3), (53, .bipush 10, 2), (55, .iload 6, 2), (57, .imul, 1), (58, .aload_n 0, 1), (59, .invokevirtual 235, 3), (62, .iadd, 1), (63, .bipush 48, 2), (65, .isub, 1), (66, .istore 6, 2), (68, .aload_n 0, 1), (69, .dup, 1), (70, .getfield 140, 3), (73, .iconst 1, 1), (74, .iadd, 1), (75, .putfield 140, 3), (78, .aload_n 0, 1), (79, .invokevirtual 189, 3), (82, .ifCond .eq 9, 3), (85, .aload_n 0, 1), (86, .invokevirtual 155, 3), (89, .pop, 1), (90, .return_, 1), (91, .iload 6, 2), (93, .i2l, 1), (94, .iload_n 3, 1), (95, .i2l, 1), (96, .iload 4, 2), (98, .i2l, 1), (99, .invokestatic 238, 3), (102, .ifCond .ne 19, 3), (105, .aload_n 0, 1), (106, .dup, 1), (107, .getfield 140, 3), (110, .iconst 1, 1), (111, .isub, 1), (112, .putfield 140, 3), (115, .aload_n 0, 1), (116, .invokevirtual 155, 3), (119, .pop, 1), (120, .return_, 1), (121, .aload_n 1, 1), (122, .iload_n 2, 1), (123, .iload 6, 2), (125, .iastore, 1), (126, .return_, 1)]
def aM_X12_readItem : aM := (yX12_readItem, cX12_readItem, 7, none, aC_RX12, aL_X12_readItem, 1646)
def aL_X12_readItems : List (Nat × Instr × Nat) := [(0, .iconst 0, 1), (1, .istore 5, 2), (3, .aload_n 3, 1), (4, .aload_n 0, 1), (5, .invokevirtual 159, 3), (8, .invokestatic 242, 3), (11, .istore 6, 2), (13, .iload 6, 2), (15, .iconst (-1), 1), (16, .if_icmp .eq 105, 3), (19, .aload_n 0, 1), (20, .getfield 149, 3), (23, .iconst (-1), 1), (24, .if_icmp .ne 97, 3), (27, .iload 5, 2), (29, .iload 6, 2), (31, .invokestatic 246, 3), (34, .ifCond .eq 9, 3), (37, .aload_n 0, 1), (38, .invokevirtual 155, 3), (41, .pop, 1), (42, .return_, 1), (43, .iload 5, 2), (45, .iconst 1, 1), (46, .iload 6, 2), (48, .ishl, 1), (49, .ior, 1), (50, .istore 5, 2), (52, .aload_n 0, 1), (53, .aload_n 1, 1), (54, .iload_n 2, 1), (55, .iload 6, 2), (57, .iadd, 1), (58, .iload 4, 2), (60, .ifCond .eq 13, 3), (63, .iload 6, 2), (65, .iconst 1, 1), (66, .if_icmp .ne 7, 3), (69, .iconst 1, 1), (70, .goto 4, 3), (73, .iconst 0, 1), (74, .iload 4, 2), (76, .ifCond .eq 19, 3), (79, .iload 6, 2), (81, .iconst 2, 1), (82, .if_icmp .ne 8, 3), (85, .bipush 8, 2), (87, .goto 10, 3), (90, .bipush 99, 2), (92, .goto 5, 3), (95, .bipush 9, 2), (97, .invokevirtual 250, 3), (100, .aload_n 0, 1), (101, .getfield 149, 3), (104, .iconst (-1), 1), (105, .if_icmp .ne (-92), 3), (108, .aload_n 3, 1), (109, .aload_n 0, 1), (110, .invokevirtual 159, 3), (113, .invokestatic 242, 3), (116, .istore 6, 2), (118, .goto (-105), 3), (121, .return_, 1)]
def aM_X12_readItems : aM := (yX12_readItems, cX12_readItems, 7, none, aC_RX12, aL_X12_readItems, 1588)
def aL_X12_readSteps : List (Nat × Instr × Nat) := [(0, .iconst 0, 1), (1, .istore_n 2, 1), (2, .ldc 254, 2), (4, .aload_n 0, 1), (5, .invokevirtual 159, 3), (8, .invokestatic 242, 3), (11, .istore_n 3, 1), (12, .iload_n 2, 1), (13, .ifCond .eq 8, 3), (16, .iload_n 3, 1), (17, .iconst (-1), 1), (18, .if_icmp .eq 129, 3), (21, .iload_n 3, 1), (22, .iconst (-1), 1), (23, .if_icmp .eq 9, 3), (26, .iload_n 2, 1), (27, .bipush 8, 2), (29, .if_icmp .ne 9, 3), (32, .aload_n 0, 1), (33, .invokevirtual 155, 3), (36, .pop, 1), (37, .return_, 1), (38, .aload_n 0, 1), (39, .dup, 1), (40, .getfield 140, 3), (43, .iconst 1, 1), (44, .iadd, 1), (45, .putfield 140, 3), (48, .aload_n 0, 1), (49, .invokevirtual 159, 3), (52, .istore 4, 2), (54, .aload_n 0, 1), (55, .invokevirtual 189, 3), (58, .ifCond .eq 10, 3), (61, .iload 4, 2), (63, .bipush 48, 2), (65, .if_icmp .ne 9, 3), (68, .aload_n 0, 1), (69, .invokevirtual 155, 3), (72, .pop, 1), (73, .return_, 1), (74, .aload_n 0, 1), (75, .getfield 46, 3), (78, .iconst 2, 1), (79, .bipush 8, 2), (81, .iload_n 1, 1), (82, .imul, 1), (83, .iload_n 2, 1), (84, .iadd, 1), (85, .imul, 1), (86, .iload_n 3, 1), (87, .iastore, 1), (88, .aload_n 0, 1), (89, .getfield 46, 3), (92, .iconst 2, 1), (93, .bipush 8, 2), (95, .iload_n 1, 1), (96, .imul, 1), (97, .iload_n 2, 1), (98, .iadd, 1), (99, .imul, 1), (100, .iconst 1, 1), (101, .iadd, 1), (102, .iload 4, 2), (104, .bipush 48, 2), (106, .isub, 1), (107, .iastore, 1), (108, .aload_n 0, 1), (109, .dup, 1), (110, .getfield 140, 3), (113, .iconst 1, 1), (114, .iadd, 1), (115, .putfield 140, 3), (118, .aload_n 0, 1), (119, .invokevirtual 189, 3), (122, .ifCond .eq 9, 3), (125, .aload_n 0, 1), (126, .invokevirtual 155, 3), (129, .pop, 1), (130, .return_, 1), (131, .iinc 2 1, 3), (134, .ldc 254, 2), (136, .aload_n 0, 1), (137, .invokevirtual 159, 3), (140, .invokestatic 242, 3), (143, .istore_n 3, 1), (144, .goto (-132), 3), (147, .aload_n 0, 1), (148, .getfield 40, 3), (151, .iconst 4, 1), (152, .iload_n 1, 1), (153, .imul, 1), (154, .iconst 3, 1), (155, .iadd, 1), (156, .iload_n 2, 1), (157, .iastore, 1), (158, .return_, 1)]
def aM_X12_readSteps : aM := (yX12_readSteps, cX12_readSteps, 5, none, aC_RX12, aL_X12_readSteps, 1658)
def aL_X12_readThing : List (Nat × Instr × Nat) := [(0, .aload_n 0, 1), (1, .getfield 256, 3), (4, .istore_n 1, 1), (5, .aload_n 0, 1), (6, .dup, 1), (7, .getfield 256, 3), (10, .iconst 1, 1), (11, .iadd, 1), (12, .putfield 256, 3), (15, .aload_n 0, 1), (16, .getfield 40, 3), (19, .iconst 4, 1), (20, .iload_n 1, 1), (21, .imul, 1), (22, .bipush 10, 2), (24, .iastore, 1), (25, .aload_n 0, 1), (26, .getfield 40, 3), (29, .iconst 4, 1), (30, .iload_n 1, 1), (31, .imul, 1), (32, .iconst 1, 1), (33, .iadd, 1), (34, .bipush 30, 2), (36, .iastore, 1), (37, .aload_n 0, 1), (38, .getfield 40, 3), (41, .iconst 4, 1), (42, .iload_n 1, 1), (43, .imul, 1), (44, .iconst 2, 1), (45, .iadd, 1), (46, .iconst 0, 1), (47, .iastore, 1), (48, .aload_n 0, 1), (49, .aload_n 0, 1), (50, .getfield 40, 3), (53, .iconst 4, 1), (54, .iload_n 1, 1), (55, .imul, 1), (56, .ldc_w 259, 3), (59, .iconst 1, 1), (60, .invokevirtual 261, 3), (63, .aload_n 0, 1), (64, .getfield 149, 3), (67, .iconst (-1), 1), (68, .if_icmp .eq 4, 3), (71, .return_, 1), (72, .aload_n 0, 1), (73, .invokevirtual 159, 3), (76, .bipush 58, 2), (78, .if_icmp .eq 9, 3), (81, .aload_n 0, 1), (82, .invokevirtual 155, 3), (85, .pop, 1), (86, .return_, 1), (87, .aload_n 0, 1), (88, .dup, 1), (89, .getfield 140, 3), (92, .iconst 1, 1), (93, .iadd, 1), (94, .putfield 140, 3), (97, .aload_n 0, 1), (98, .iload_n 1, 1), (99, .invokevirtual 265, 3), (102, .return_, 1)]
def aM_X12_readThing : aM := (yX12_readThing, cX12_readThing, 2, none, aC_RX12, aL_X12_readThing, 1583)
def aL_X12_readClause : List (Nat × Instr × Nat) := [(0, .aload_n 0, 1), (1, .invokevirtual 159, 3), (4, .istore_n 1, 1), (5, .iload_n 1, 1), (6, .bipush 116, 2), (8, .if_icmp .ne 12, 3), (11, .aload_n 0, 1), (12, .getfield 256, 3), (15, .bipush 6, 2), (17, .if_icmp .lt 32, 3), (20, .iload_n 1, 1), (21, .bipush 104, 2), (23, .if_icmp .ne 12, 3), (26, .aload_n 0, 1), (27, .getfield 268, 3), (30, .bipush 6, 2), (32, .if_icmp .lt 17, 3), (35, .iload_n 1, 1), (36, .bipush 103, 2), (38, .if_icmp .ne 15, 3), (41, .aload_n 0, 1), (42, .getfield 271, 3), (45, .iconst 4, 1), (46, .if_icmp .ge 7, 3), (49, .iconst 1, 1), (50, .goto 4, 3), (53, .iconst 0, 1), (54, .istore_n 2, 1), (55, .iload_n 2, 1), (56, .ifCond .ne 9, 3), (59, .aload_n 0, 1), (60, .invokevirtual 155, 3), (63, .pop, 1), (64, .return_, 1), (65, .aload_n 0, 1), (66, .dup, 1), (67, .getfield 140, 3), (70, .iconst 1, 1), (71, .iadd, 1), (72, .putfield 140, 3), (75, .iload_n 1, 1), (76, .bipush 116, 2), (78, .if_icmp .ne 10, 3), (81, .aload_n 0, 1), (82, .invokevirtual 274, 3), (85, .goto 125, 3), (88, .iload_n 1, 1), (89, .bipush 104, 2), (91, .if_icmp .ne 68, 3), (94, .aload_n 0, 1), (95, .dup, 1), (96, .getfield 268, 3), (99, .iconst 1, 1), (100, .iadd, 1), (101, .putfield 268, 3), (104, .iconst 0, 1), (105, .istore_n 3, 1), (106, .iload_n 3, 1), (107, .bipush 6, 2), (109, .if_icmp .ge 26, 3), (112, .aload_n 0, 1), (113, .getfield 52, 3), (116, .bipush 6, 2), (118, .aload_n 0, 1), (119, .getfield 268, 3), (122, .iconst 1, 1), (123, .isub, 1), (124, .imul, 1), (125, .iload_n 3, 1), (126, .iadd, 1), (127, .iconst 0, 1), (128, .iastore, 1), (129, .iinc 3 1, 3), (132, .goto (-26), 3), (135, .aload_n 0, 1), (136, .aload_n 0, 1), (137, .getfield 52, 3), (140, .bipush 6, 2), (142, .aload_n 0, 1), (143, .getfield 268, 3), (146, .iconst 1, 1), (147, .isub, 1), (148, .imul, 1), (149, .ldc_w 277, 3), (152, .iconst 0, 1), (153, .invokevirtual 261, 3), (156, .goto 54, 3), (159, .ldc 254, 2), (161, .aload_n 0, 1), (162, .invokevirtual 159, 3), (165, .invokestatic 242, 3), (168, .istore_n 3, 1), (169, .iload_n 3, 1), (170, .iconst (-1), 1), (171, .if_icmp .ne 9, 3), (174, .aload_n 0, 1), (175, .invokevirtual 155, 3), (178, .pop, 1), (179, .return_, 1), (180, .aload_n 0, 1), (181, .dup, 1), (182, .getfield 140, 3), (185, .iconst 1, 1), (186, .iadd, 1), (187, .putfield 140, 3), (190, .aload_n 0, 1), (191, .dup, 1), (192, .getfield 271, 3), (195, .iconst 1, 1), (196, .iadd, 1), (197, .putfield 271, 3), (200, .aload_n 0, 1), (201, .getfield 58, 3), (204, .iload_n 3, 1), (205, .dup2, 1), (206, .iaload, 1), (207, .iconst 1, 1), (208, .iadd, 1), (209, .iastore, 1), (210, .return_, 1)]
def aM_X12_readClause : aM := (yX12_readClause, cX12_readClause, 4, none, aC_RX12, aL_X12_readClause, 1571)
def aL_X12_readWill : List (Nat × Instr × Nat) := [(0, .aload_n 0, 1), (1, .aload_n 0, 1), (2, .getfield 9, 3), (5, .iconst 0, 1), (6, .aload_n 0, 1), (7, .getfield 130, 3), (10, .invokevirtual 228, 3), (13, .aload_n 0, 1), (14, .iconst 0, 1), (15, .putfield 256, 3), (18, .aload_n 0, 1), (19, .iconst 0, 1), (20, .putfield 268, 3), (23, .aload_n 0, 1), (24, .iconst 0, 1), (25, .putfield 271, 3), (28, .iconst 0, 1), (29, .istore_n 1, 1), (30, .iload_n 1, 1), (31, .iconst 5, 1), (32, .if_icmp .ge 16, 3), (35, .aload_n 0, 1), (36, .getfield 58, 3), (39, .iload_n 1, 1), (40, .iconst 0, 1), (41, .iastore, 1), (42, .iinc 1 1, 3), (45, .goto (-15), 3), (48, .iconst 1, 1), (49, .istore_n 1, 1), (50, .iload_n 1, 1), (51, .ifCond .eq 55, 3), (54, .aload_n 0, 1), (55, .getfield 149, 3), (58, .iconst (-1), 1), (59, .if_icmp .ne 47, 3), (62, .aload_n 0, 1), (63, .invokevirtual 279, 3), (66, .aload_n 0, 1), (67, .getfield 149, 3), (70, .iconst (-1), 1), (71, .if_icmp .ne 16, 3), (74, .aload_n 0, 1), (75, .invokevirtual 159, 3), (78, .bipush 59, 2), (80, .if_icmp .ne 7, 3), (83, .iconst 1, 1), (84, .goto 4, 3), (87, .iconst 0, 1), (88, .istore_n 1, 1), (89, .iload_n 1, 1), (90, .ifCond .eq (-40), 3), (93, .aload_n 0, 1), (94, .dup, 1), (95, .getfield 140, 3), (98, .iconst 1, 1), (99, .iadd, 1), (100, .putfield 140, 3), (103, .goto (-53), 3), (106, .aload_n 0, 1), (107, .getfield 149, 3), (110, .iconst (-1), 1), (111, .if_icmp .eq 4, 3), (114, .return_, 1), (115, .aload_n 0, 1), (116, .invokevirtual 159, 3), (119, .iconst (-1), 1), (120, .if_icmp .ne 21, 3), (123, .aload_n 0, 1), (124, .getfield 256, 3), (127, .ifCond .le 14, 3), (130, .aload_n 0, 1), (131, .getfield 268, 3), (134, .ifCond .le 7, 3), (137, .iconst 1, 1), (138, .goto 4, 3), (141, .iconst 0, 1), (142, .istore_n 2, 1), (143, .iconst 0, 1), (144, .istore_n 3, 1), (145, .iload_n 3, 1), (146, .aload_n 0, 1), (147, .getfield 256, 3), (150, .if_icmp .ge 42, 3), (153, .iload_n 2, 1), (154, .ifCond .eq 30, 3), (157, .aload_n 0, 1), (158, .getfield 40, 3), (161, .iconst 4, 1), (162, .iload_n 3, 1), (163, .imul, 1), (164, .iconst 2, 1), (165, .iadd, 1), (166, .iaload, 1), (167, .aload_n 0, 1), (168, .getfield 40, 3), (171, .iconst 4, 1), (172, .iload_n 3, 1), (173, .imul, 1), (174, .iconst 3, 1), (175, .iadd, 1), (176, .iaload, 1), (177, .if_icmp .gt 7, 3), (180, .iconst 1, 1), (181, .goto 4, 3), (184, .iconst 0, 1), (185, .istore_n 2, 1), (186, .iinc 3 1, 3), (189, .goto (-44), 3), (192, .iload_n 2, 1), (193, .ifCond .ne 8, 3), (196, .aload_n 0, 1), (197, .invokevirtual 155, 3), (200, .pop, 1), (201, .return_, 1)]
def aM_X12_readWill : aM := (yX12_readWill, cX12_readWill, 4, none, aC_RX12, aL_X12_readWill, 1563)
def aL_X12_readRow : List (Nat × Instr × Nat) := [(0, .aload_n 0, 1), (1, .aload_n 0, 1), (2, .getfield 9, 3), (5, .iconst 0, 1), (6, .aload_n 0, 1), (7, .getfield 130, 3), (10, .invokevirtual 228, 3), (13, .iconst 0, 1), (14, .istore_n 1, 1), (15, .aload_n 0, 1), (16, .invokevirtual 159, 3), (19, .pop, 1), (20, .aload_n 0, 1), (21, .invokevirtual 189, 3), (24, .ifCond .eq 52, 3), (27, .iload_n 1, 1), (28, .bipush 12, 2), (30, .if_icmp .ne 9, 3), (33, .aload_n 0, 1), (34, .invokevirtual 155, 3), (37, .pop, 1), (38, .return_, 1), (39, .aload_n 0, 1), (40, .getfield 61, 3), (43, .bipush 48, 2), (45, .iload_n 1, 1), (46, .iadd, 1), (47, .aload_n 0, 1), (48, .invokevirtual 235, 3), (51, .bipush 48, 2), (53, .isub, 1), (54, .iastore, 1), (55, .iinc 1 1, 3), (58, .aload_n 0, 1), (59, .dup, 1), (60, .getfield 140, 3), (63, .iconst 1, 1), (64, .iadd, 1), (65, .putfield 140, 3), (68, .aload_n 0, 1), (69, .invokevirtual 159, 3), (72, .pop, 1), (73, .goto (-53), 3), (76, .aload_n 0, 1), (77, .getfield 64, 3), (80, .iconst 4, 1), (81, .iload_n 1, 1), (82, .iastore, 1), (83, .iload_n 1, 1), (84, .ifCond .eq 11, 3), (87, .aload_n 0, 1), (88, .invokevirtual 159, 3), (91, .iconst (-1), 1), (92, .if_icmp .eq 8, 3), (95, .aload_n 0, 1), (96, .invokevirtual 155, 3), (99, .pop, 1), (100, .return_, 1)]
def aM_X12_readRow : aM := (yX12_readRow, cX12_readRow, 2, none, aC_RX12, aL_X12_readRow, 1721)
def aL_X12_fault : List (Nat × Instr × Nat) := [(0, .aload_n 0, 1), (1, .iconst 0, 1), (2, .putfield 117, 3), (5, .iload_n 1, 1), (6, .i2l, 1), (7, .lconst 0, 1), (8, .ldc2_w 282, 3), (11, .invokestatic 238, 3), (14, .ifCond .ne 6, 3), (17, .bipush (-2), 2), (19, .ireturn, 1), (20, .iload_n 1, 1), (21, .ifCond .ne 7, 3), (24, .aload_n 0, 1), (25, .invokevirtual 284, 3), (28, .iload_n 1, 1), (29, .iconst 1, 1), (30, .if_icmp .ne 16, 3), (33, .aload_n 0, 1), (34, .aload_n 0, 1), (35, .getfield 9, 3), (38, .iconst 0, 1), (39, .aload_n 0, 1), (40, .getfield 130, 3), (43, .invokevirtual 287, 3), (46, .iload_n 1, 1), (47, .iconst 2, 1), (48, .if_icmp .ne 7, 3), (51, .aload_n 0, 1), (52, .invokevirtual 290, 3), (55, .aload_n 0, 1), (56, .getfield 149, 3), (59, .ireturn, 1)]
def aM_X12_fault : aM := (yX12_fault, cX12_fault, 2, (some .int), aC_RX12, aL_X12_fault, 1555)
def aL_X12_text : List (Nat × Instr × Nat) := [(0, .aload_n 0, 1), (1, .iconst 0, 1), (2, .putfield 117, 3), (5, .iload_n 1, 1), (6, .i2l, 1), (7, .lconst 0, 1), (8, .ldc2_w 282, 3), (11, .invokestatic 238, 3), (14, .ifCond .eq 39, 3), (17, .iload_n 1, 1), (18, .iconst 1, 1), (19, .if_icmp .ne 12, 3), (22, .aload_n 0, 1), (23, .getfield 293, 3), (26, .bipush 6, 2), (28, .if_icmp .eq 25, 3), (31, .iload_n 1, 1), (32, .iconst 2, 1), (33, .if_icmp .ne 11, 3), (36, .aload_n 0, 1), (37, .getfield 296, 3), (40, .iconst 4, 1), (41, .if_icmp .eq 12, 3), (44, .aload_n 0, 1), (45, .iload_n 1, 1), (46, .invokevirtual 299, 3), (49, .iconst (-1), 1), (50, .if_icmp .eq 5, 3), (53, .iconst (-1), 1), (54, .ireturn, 1), (55, .aload_n 0, 1), (56, .getfield 130, 3), (59, .istore_n 2, 1), (60, .aload_n 0, 1), (61, .iconst 0, 1), (62, .putfield 130, 3), (65, .iload_n 1, 1), (66, .iconst 1, 1), (67, .if_icmp .ne 64, 3), (70, .iconst 0, 1), (71, .istore_n 3, 1), (72, .iload_n 3, 1), (73, .iload_n 2, 1), (74, .if_icmp .ge 30, 3), (77, .aload_n 0, 1), (78, .getfield 13, 3), (81, .sipush 240, 3), (84, .aload_n 0, 1), (85, .getfield 293, 3), (88, .imul, 1), (89, .iload_n 3, 1), (90, .iadd, 1), (91, .aload_n 0, 1), (92, .getfield 9, 3), (95, .iload_n 3, 1), (96, .baload, 1), (97, .bastore, 1), (98, .iinc 3 1, 3), (101, .goto (-29), 3), (104, .aload_n 0, 1), (105, .getfield 16, 3), (108, .aload_n 0, 1), (109, .getfield 293, 3), (112, .iload_n 2, 1), (113, .iastore, 1), (114, .aload_n 0, 1), (115, .dup, 1), (116, .getfield 293, 3), (119, .iconst 1, 1), (120, .iadd, 1), (121, .putfield 293, 3), (124, .aload_n 0, 1), (125, .getfield 293, 3), (128, .iconst 1, 1), (129, .isub, 1), (130, .ireturn, 1), (131, .iload_n 1, 1), (132, .iconst 2, 1), (133, .if_icmp .ne 72, 3), (136, .iconst 0, 1), (137, .istore_n 3, 1), (138, .iload_n 3, 1), (139, .bipush 12, 2), (141, .if_icmp .ge 32, 3), (144, .aload_n 0, 1), (145, .getfield 61, 3), (148, .bipush 12, 2), (150, .aload_n 0, 1), (151, .getfield 296, 3), (154, .imul, 1), (155, .iload_n 3, 1), (156, .iadd, 1), (157, .aload_n 0, 1), (158, .getfield 61, 3), (161, .bipush 48, 2), (163, .iload_n 3, 1), (164, .iadd, 1), (165, .iaload, 1), (166, .iastore, 1), (167, .iinc 3 1, 3), (170, .goto (-32), 3), (173, .aload_n 0, 1), (174, .getfield 64, 3), (177, .aload_n 0, 1), (178, .getfield 296, 3), (181, .aload_n 0, 1), (182, .getfield 64, 3), (185, .iconst 4, 1), (186, .iaload, 1), (187, .iastore, 1), (188, .aload_n 0, 1), (189, .dup, 1), (190, .getfield 296, 3), (193, .iconst 1, 1), (194, .iadd, 1), (195, .putfield 296, 3), (198, .aload_n 0, 1), (199, .getfield 296, 3), (202, .iconst 1, 1), (203, .isub, 1), (204, .ireturn, 1), (205, .aload_n 0, 1), (206, .aload_n 0, 1), (207, .getfield 256, 3), (210, .putfield 301, 3), (213, .aload_n 0, 1), (214, .aload_n 0, 1), (215, .getfield 268, 3), (218, .putfield 304, 3), (221, .aload_n 0, 1), (222, .aload_n 0, 1), (223, .getfield 271, 3), (226, .putfield 307, 3), (229, .iconst 0, 1), (230, .istore_n 3, 1), (231, .iload_n 3, 1), (232, .bipush 24, 2), (234, .if_icmp .ge 21, 3), (237, .aload_n 0, 1), (238, .getfield 37, 3), (241, .iload_n 3, 1), (242, .aload_n 0, 1), (243, .getfield 40, 3), (246, .iload_n 3, 1), (247, .iaload, 1), (248, .iastore, 1), (249, .iinc 3 1, 3), (252, .goto (-21), 3), (255, .iconst 0, 1), (256, .istore_n 3, 1), (257, .iload_n 3, 1), (258, .bipush 96, 2), (260, .if_icmp .ge 21, 3), (263, .aload_n 0, 1), (264, .getfield 43, 3), (267, .iload_n 3, 1), (268, .aload_n 0, 1), (269, .getfield 46, 3), (272, .iload_n 3, 1), (273, .iaload, 1), (274, .iastore, 1), (275, .iinc 3 1, 3), (278, .goto (-21), 3), (281, .iconst 0, 1), (282, .istore_n 3, 1), (283, .iload_n 3, 1), (284, .bipush 36, 2), (286, .if_icmp .ge 21, 3), (289, .aload_n 0, 1), (290, .getfield 49, 3), (293, .iload_n 3, 1), (294, .aload_n 0, 1), (295, .getfield 52, 3), (298, .iload_n 3, 1), (299, .iaload, 1), (300, .iastore, 1), (301, .iinc 3 1, 3), (304, .goto (-21), 3), (307, .iconst 0, 1), (308, .istore_n 3, 1), (309, .iload_n 3, 1), (310, .iconst 5, 1), (311, .if_icmp .ge 21, 3), (314, .aload_n 0, 1), (315, .getfield 55, 3), (318, .iload_n 3, 1), (319, .aload_n 0, 1), (320, .getfield 58, 3), (323, .iload_n 3, 1), (324, .iaload, 1), (325, .iastore, 1), (326, .iinc 3 1, 3), (329, .goto (-20), 3), (332, .iconst 0, 1), (333, .istore_n 3, 1), (334, .iload_n 3, 1), (335, .bipush 67, 2), (337, .if_icmp .ge 16, 3), (340, .aload_n 0, 1), (341, .getfield 67, 3), (344, .iload_n 3, 1), (345, .iconst 0, 1), (346, .iastore, 1), (347, .iinc 3 1, 3), (350, .goto (-16), 3), (353, .iconst 0, 1), (354, .istore_n 3, 1), (355, .iload_n 3, 1), (356, .aload_n 0, 1), (357, .getfield 301, 3), (360, .if_icmp .ge 108, 3), (363, .aload_n 0, 1), (364, .getfield 67, 3), (367, .bipush 6, 2), (369, .iload_n 3, 1), (370, .imul, 1), (371, .aload_n 0, 1), (372, .getfield 37, 3), (375, .iconst 4, 1), (376, .iload_n 3, 1), (377, .imul, 1), (378, .iconst 2, 1), (379, .iadd, 1), (380, .iaload, 1), (381, .iastore, 1), (382, .aload_n 0, 1), (383, .getfield 67, 3), (386, .bipush 6, 2), (388, .iload_n 3, 1), (389, .imul, 1), (390, .iconst 1, 1), (391, .iadd, 1), (392, .iconst (-1), 1), (393, .iastore, 1), (394, .aload_n 0, 1), (395, .getfield 67, 3), (398, .bipush 6, 2), (400, .iload_n 3, 1), (401, .imul, 1), (402, .iconst 4, 1), (403, .iadd, 1), (404, .iconst (-1), 1), (405, .iastore, 1), (406, .aload_n 0, 1), (407, .getfield 67, 3), (410, .bipush 6, 2), (412, .iload_n 3, 1), (413, .imul, 1), (414, .iconst 5, 1), (415, .iadd, 1), (416, .iconst (-1), 1), (417, .iastore, 1), (418, .aload_n 0, 1), (419, .iload_n 3, 1), (420, .invokevirtual 310, 3), (423, .aload_n 0, 1), (424, .getfield 67, 3), (427, .bipush 6, 2), (429, .iload_n 3, 1), (430, .imul, 1), (431, .iaload, 1), (432, .if_icmp .le 6, 3), (435, .goto 27, 3), (438, .aload_n 0, 1), (439, .getfield 67, 3), (442, .bipush 6, 2), (444, .iload_n 3, 1), (445, .imul, 1), (446, .iconst 2, 1), (447, .iadd, 1), (448, .iconst 1, 1), (449, .iastore, 1), (450, .aload_n 0, 1), (451, .getfield 67, 3), (454, .bipush 6, 2), (456, .iload_n 3, 1), (457, .imul, 1), (458, .iconst 4, 1), (459, .iadd, 1), (460, .iconst 0, 1), (461, .iastore, 1), (462, .iinc 3 1, 3), (465, .goto (-110), 3), (468, .iconst 0, 1), (469, .istore_n 3, 1), (470, .iload_n 3, 1), (471, .aload_n 0, 1), (472, .getfield 304, 3), (475, .if_icmp .ge 50, 3), (478, .iconst 0, 1), (479, .istore 4, 2), (481, .iload 4, 2), (483, .iconst 5, 1), (484, .if_icmp .ge 35, 3), (487, .aload_n 0, 1), (488, .getfield 67, 3), (491, .bipush 36, 2), (493, .iconst 5, 1), (494, .iload_n 3, 1), (495, .imul, 1), (496, .iadd, 1), (497, .iload 4, 2), (499, .iadd, 1), (500, .aload_n 0, 1), (501, .getfield 49, 3), (504, .bipush 6, 2), (506, .iload_n 3, 1), (507, .imul, 1), (508, .iload 4, 2), (510, .iadd, 1), (511, .iaload, 1), (512, .iastore, 1), (513, .iinc 4 1, 3), (516, .goto (-35), 3), (519, .iinc 3 1, 3), (522, .goto (-52), 3), (525, .aload_n 0, 1), (526, .iconst (-1), 1), (527, .putfield 70, 3), (530, .aload_n 0, 1), (531, .iconst 0, 1), (532, .putfield 313, 3), (535, .aload_n 0, 1), (536, .iconst 0, 1), (537, .putfield 316, 3), (540, .aload_n 0, 1), (541, .iconst 0, 1), (542, .putfield 319, 3), (545, .aload_n 0, 1), (546, .getfield 301, 3), (549, .ireturn, 1)]
def aM_X12_text : aM := (yX12_text, cX12_text, 5, (some .int), aC_RX12, aL_X12_text, 1725)
def aL_X12_isThing : List (Nat × Instr × Nat) := [(0, .iload_n 1, 1), (1, .ifCond .lt 15, 3), (4, .iload_n 1, 1), (5, .aload_n 0, 1), (6, .getfield 301, 3), (9, .if_icmp .ge 7, 3), (12, .iconst 1, 1), (13, .goto 4, 3), (16, .iconst 0, 1), (17, .ireturn, 1)]
def aM_X12_isThing : aM := (yX12_isThing, cX12_isThing, 2, (some .boolean), aC_RX12, aL_X12_isThing, 1738)
def aL_X12_isHeir : List (Nat × Instr × Nat) := [(0, .iload_n 1, 1), (1, .ifCond .lt 15, 3), (4, .iload_n 1, 1), (5, .aload_n 0, 1), (6, .getfield 304, 3), (9, .if_icmp .ge 7, 3), (12, .iconst 1, 1), (13, .goto 4, 3), (16, .iconst 0, 1), (17, .ireturn, 1)]
def aM_X12_isHeir : aM := (yX12_isHeir, cX12_isHeir, 2, (some .boolean), aC_RX12, aL_X12_isHeir, 1755)
def aL_X12_stepsOf : List (Nat × Instr × Nat) := [(0, .aload_n 0, 1), (1, .getfield 37, 3), (4, .iconst 4, 1), (5, .iload_n 1, 1), (6, .imul, 1), (7, .iconst 3, 1), (8, .iadd, 1), (9, .iaload, 1), (10, .ireturn, 1)]
def aM_X12_stepsOf : aM := (yX12_stepsOf, cX12_stepsOf, 2, (some .int), aC_RX12, aL_X12_stepsOf, 1730)
def aL_X12_doneOf : List (Nat × Instr × Nat) := [(0, .aload_n 0, 1), (1, .getfield 67, 3), (4, .bipush 6, 2), (6, .iload_n 1, 1), (7, .imul, 1), (8, .iaload, 1), (9, .ireturn, 1)]
def aM_X12_doneOf : aM := (yX12_doneOf, cX12_doneOf, 2, (some .int), aC_RX12, aL_X12_doneOf, 1743)
def aL_X12_isToDo : List (Nat × Instr × Nat) := [(0, .aload_n 0, 1), (1, .iload_n 1, 1), (2, .invokevirtual 322, 3), (5, .ifCond .eq 21, 3), (8, .aload_n 0, 1), (9, .getfield 67, 3), (12, .bipush 6, 2), (14, .iload_n 1, 1), (15, .imul, 1), (16, .iconst 2, 1), (17, .iadd, 1), (18, .iaload, 1), (19, .ifCond .ne 7, 3), (22, .iconst 1, 1), (23, .goto 4, 3), (26, .iconst 0, 1), (27, .ireturn, 1)]
def aM_X12_isToDo : aM := (yX12_isToDo, cX12_isToDo, 2, (some .boolean), aC_RX12, aL_X12_isToDo, 1793)
def aL_X12_skill : List (Nat × Instr × Nat) := [(0, .aload_n 0, 1), (1, .getfield 67, 3), (4, .bipush 36, 2), (6, .iconst 5, 1), (7, .iload_n 1, 1), (8, .imul, 1), (9, .iadd, 1), (10, .iload_n 2, 1), (11, .iadd, 1), (12, .iaload, 1), (13, .ireturn, 1)]
def aM_X12_skill : aM := (yX12_skill, cX12_skill, 3, (some .int), aC_RX12, aL_X12_skill, 1760)
def aL_X12_tradeOf : List (Nat × Instr × Nat) := [(0, .aload_n 0, 1), (1, .getfield 43, 3), (4, .iconst 2, 1), (5, .bipush 8, 2), (7, .iload_n 1, 1), (8, .imul, 1), (9, .iload_n 2, 1), (10, .iadd, 1), (11, .imul, 1), (12, .iaload, 1), (13, .ireturn, 1)]
def aM_X12_tradeOf : aM := (yX12_tradeOf, cX12_tradeOf, 3, (some .int), aC_RX12, aL_X12_tradeOf, 1781)
def aL_X12_daysOf : List (Nat × Instr × Nat) := [(0, .aload_n 0, 1), (1, .getfield 43, 3), (4, .iconst 2, 1), (5, .bipush 8, 2), (7, .iload_n 1, 1), (8, .imul, 1), (9, .iload_n 2, 1), (10, .iadd, 1), (11, .imul, 1), (12, .iconst 1, 1), (13, .iadd, 1), (14, .iaload, 1), (15, .ireturn, 1)]
def aM_X12_daysOf : aM := (yX12_daysOf, cX12_daysOf, 3, (some .int), aC_RX12, aL_X12_daysOf, 1785)
def aL_X12_thing : List (Nat × Instr × Nat) := [(0, .aload_n 0, 1), (1, .aload_n 0, 1), (2, .iload_n 1, 1), (3, .invokevirtual 322, 3), (6, .ifCond .eq 19, 3), (9, .iload_n 2, 1), (10, .i2l, 1), (11, .lconst 0, 1), (12, .ldc2_w 325, 3), (15, .invokestatic 238, 3), (18, .ifCond .eq 7, 3), (21, .iconst 0, 1), (22, .goto 4, 3), (25, .iconst 1, 1), (26, .putfield 117, 3), (29, .aload_n 0, 1), (30, .getfield 117, 3), (33, .ifCond .le 5, 3), (36, .iconst 0, 1), (37, .ireturn, 1), (38, .iload_n 2, 1), (39, .tableswitch 100 0 6 #[41, 41, 52, 58, 64, 76, 88], 41), (80, .aload_n 0, 1), (81, .getfield 37, 3), (84, .iconst 4, 1), (85, .iload_n 1, 1), (86, .imul, 1), (87, .iload_n 2, 1), (88, .iadd, 1), (89, .iaload, 1), (90, .ireturn, 1), (91, .aload_n 0, 1), (92, .iload_n 1, 1), (93, .invokevirtual 327, 3), (96, .ireturn, 1), (97, .aload_n 0, 1), (98, .iload_n 1, 1), (99, .invokevirtual 310, 3), (102, .ireturn, 1), (103, .aload_n 0, 1), (104, .getfield 67, 3), (107, .bipush 6, 2), (109, .iload_n 1, 1), (110, .imul, 1), (111, .iconst 1, 1), (112, .iadd, 1), (113, .iaload, 1), (114, .ireturn, 1), (115, .aload_n 0, 1), (116, .getfield 67, 3), (119, .bipush 6, 2), (121, .iload_n 1, 1), (122, .imul, 1), (123, .iconst 2, 1), (124, .iadd, 1), (125, .iaload, 1), (126, .ireturn, 1), (127, .aload_n 0, 1), (128, .getfield 67, 3), (131, .bipush 6, 2), (133, .iload_n 1, 1), (134, .imul, 1), (135, .iconst 3, 1), (136, .iadd, 1), (137, .iaload, 1), (138, .ireturn, 1), (139, .aload_n 0, 1), (140, .getfield 67, 3), (143, .bipush 6, 2), (145, .iload_n 1, 1), (146, .imul, 1), (147, .iload_n 2, 1), (148, .iadd, 1), (149, .iconst 3, 1), (150, .isub, 1), (151, .iaload, 1), (152, .ireturn, 1)]
def aM_X12_thing : aM := (yX12_thing, cX12_thing, 3, (some .int), aC_RX12, aL_X12_thing, 1734)
def aL_X12_step : List (Nat × Instr × Nat) := [(0, .aload_n 0, 1), (1, .iconst 0, 1), (2, .putfield 117, 3), (5, .aload_n 0, 1), (6, .iload_n 1, 1), (7, .invokevirtual 322, 3), (10, .ifCond .eq 48, 3), (13, .iload_n 2, 1), (14, .i2l, 1), (15, .lconst 0, 1), (16, .aload_n 0, 1), (17, .iload_n 1, 1), (18, .invokevirtual 310, 3), (21, .iconst 1, 1), (22, .isub, 1), (23, .i2l, 1), (24, .invokestatic 238, 3), (27, .ifCond .eq 31, 3), (30, .iload_n 3, 1), (31, .i2l, 1), (32, .lconst 0, 1), (33, .lconst 1, 1), (34, .invokestatic 238, 3), (37, .ifCond .eq 21, 3), (40, .aload_n 0, 1), (41, .getfield 43, 3), (44, .iconst 2, 1), (45, .bipush 8, 2), (47, .iload_n 1, 1), (48, .imul, 1), (49, .iload_n 2, 1), (50, .iadd, 1), (51, .imul, 1), (52, .iload_n 3, 1), (53, .iadd, 1), (54, .iaload, 1), (55, .goto 4, 3), (58, .iconst (-1), 1), (59, .ireturn, 1)]
def aM_X12_step : aM := (yX12_step, cX12_step, 4, (some .int), aC_RX12, aL_X12_step, 1747)
def aL_X12_heir : List (Nat × Instr × Nat) := [(0, .aload_n 0, 1), (1, .iconst 0, 1), (2, .putfield 117, 3), (5, .aload_n 0, 1), (6, .iload_n 1, 1), (7, .invokevirtual 330, 3), (10, .ifCond .eq 15, 3), (13, .iload_n 2, 1), (14, .i2l, 1), (15, .lconst 0, 1), (16, .ldc2_w 333, 3), (19, .invokestatic 238, 3), (22, .ifCond .ne 5, 3), (25, .iconst (-1), 1), (26, .ireturn, 1), (27, .iload_n 2, 1), (28, .iconst 5, 1), (29, .if_icmp .ge 10, 3), (32, .aload_n 0, 1), (33, .iload_n 1, 1), (34, .iload_n 2, 1), (35, .invokevirtual 335, 3), (38, .ireturn, 1), (39, .iload_n 2, 1), (40, .iconst 5, 1), (41, .if_icmp .ne 15, 3), (44, .aload_n 0, 1), (45, .getfield 49, 3), (48, .bipush 6, 2), (50, .iload_n 1, 1), (51, .imul, 1), (52, .iconst 5, 1), (53, .iadd, 1), (54, .iaload, 1), (55, .ireturn, 1), (56, .iconst 0, 1), (57, .istore_n 3, 1), (58, .iconst 0, 1), (59, .istore 4, 2), (61, .iload 4, 2), (63, .aload_n 0, 1), (64, .getfield 301, 3), (67, .if_icmp .ge 36, 3), (70, .iload_n 3, 1), (71, .aload_n 0, 1), (72, .getfield 67, 3), (75, .bipush 6, 2), (77, .iload 4, 2), (79, .imul, 1), (80, .iconst 1, 1), (81, .iadd, 1), (82, .iaload, 1), (83, .iload_n 1, 1), (84, .if_icmp .ne 10, 3), (87, .iconst 1, 1), (88, .iload 4, 2), (90, .ishl, 1), (91, .goto 4, 3), (94, .iconst 0, 1), (95, .ior, 1), (96, .istore_n 3, 1), (97, .iinc 4 1, 3), (100, .goto (-39), 3), (103, .iload_n 3, 1), (104, .ireturn, 1)]
def aM_X12_heir : aM := (yX12_heir, cX12_heir, 5, (some .int), aC_RX12, aL_X12_heir, 1751)
def aL_X12_tools : List (Nat × Instr × Nat) := [(0, .aload_n 0, 1), (1, .iconst 0, 1), (2, .putfield 117, 3), (5, .aload_n 0, 1), (6, .getfield 301, 3), (9, .ifCond .le 24, 3), (12, .iload_n 1, 1), (13, .i2l, 1), (14, .lconst 0, 1), (15, .ldc2_w 339, 3), (18, .invokestatic 238, 3), (21, .ifCond .eq 12, 3), (24, .aload_n 0, 1), (25, .getfield 55, 3), (28, .iload_n 1, 1), (29, .iaload, 1), (30, .goto 4, 3), (33, .iconst (-1), 1), (34, .ireturn, 1)]
def aM_X12_tools : aM := (yX12_tools, cX12_tools, 2, (some .int), aC_RX12, aL_X12_tools, 1764)
def aL_X12_law : List (Nat × Instr × Nat) := [(0, .aload_n 0, 1), (1, .iconst 0, 1), (2, .putfield 117, 3), (5, .aload_n 0, 1), (6, .getfield 301, 3), (9, .ifCond .eq 24, 3), (12, .iload_n 1, 1), (13, .iconst (-1), 1), (14, .if_icmp .eq 21, 3), (17, .iload_n 1, 1), (18, .i2l, 1), (19, .lconst 0, 1), (20, .aload_n 0, 1), (21, .getfield 293, 3), (24, .iconst 1, 1), (25, .isub, 1), (26, .i2l, 1), (27, .invokestatic 238, 3), (30, .ifCond .ne 5, 3), (33, .iconst 0, 1), (34, .ireturn, 1), (35, .aload_n 0, 1), (36, .iload_n 1, 1), (37, .putfield 70, 3), (40, .iconst 1, 1), (41, .ireturn, 1)]
def aM_X12_law : aM := (yX12_law, cX12_law, 2, (some .boolean), aC_RX12, aL_X12_law, 1769)
def aL_X12_takesOf : List (Nat × Instr × Nat) := [(0, .aload_n 0, 1), (1, .iload_n 1, 1), (2, .aload_n 0, 1), (3, .iload_n 2, 1), (4, .iload_n 3, 1), (5, .invokevirtual 341, 3), (8, .invokevirtual 335, 3), (11, .istore 4, 2), (13, .iload 4, 2), (15, .ifCond .ne 7, 3), (18, .iconst (-1), 1), (19, .goto 19, 3), (22, .iconst 3, 1), (23, .aload_n 0, 1), (24, .iload_n 2, 1), (25, .iload_n 3, 1), (26, .invokevirtual 344, 3), (29, .imul, 1), (30, .iload 4, 2), (32, .iadd, 1), (33, .iconst 1, 1), (34, .isub, 1), (35, .iload 4, 2), (37, .idiv, 1), (38, .ireturn, 1)]
def aM_X12_takesOf : aM := (yX12_takesOf, cX12_takesOf, 5, (some .int), aC_RX12, aL_X12_takesOf, 1777)
def aL_X12_takes_ : List (Nat × Instr × Nat) := [(0, .aload_n 0, 1), (1, .iconst 0, 1), (2, .putfield 117, 3), (5, .aload_n 0, 1), (6, .iload_n 1, 1), (7, .invokevirtual 330, 3), (10, .ifCond .eq 38, 3), (13, .aload_n 0, 1), (14, .iload_n 2, 1), (15, .invokevirtual 322, 3), (18, .ifCond .eq 30, 3), (21, .iload_n 3, 1), (22, .i2l, 1), (23, .lconst 0, 1), (24, .aload_n 0, 1), (25, .iload_n 2, 1), (26, .invokevirtual 310, 3), (29, .iconst 1, 1), (30, .isub, 1), (31, .i2l, 1), (32, .invokestatic 238, 3), (35, .ifCond .eq 13, 3), (38, .aload_n 0, 1), (39, .iload_n 1, 1), (40, .iload_n 2, 1), (41, .iload_n 3, 1), (42, .invokevirtual 347, 3), (45, .goto 4, 3), (48, .iconst (-1), 1), (49, .ireturn, 1)]
def aM_X12_takes_ : aM := (yX12_takes_, cX12_takes_, 4, (some .int), aC_RX12, aL_X12_takes_, 1773)
def aL_X12_aloneFrom : List (Nat × Instr × Nat) := [(0, .iconst 0, 1), (1, .istore 4, 2), (3, .iload_n 3, 1), (4, .istore 5, 2), (6, .iload 5, 2), (8, .aload_n 0, 1), (9, .iload_n 2, 1), (10, .invokevirtual 310, 3), (13, .if_icmp .ge 34, 3), (16, .aload_n 0, 1), (17, .iload_n 1, 1), (18, .iload_n 2, 1), (19, .iload 5, 2), (21, .invokevirtual 347, 3), (24, .istore 6, 2), (26, .iload 6, 2), (28, .iconst (-1), 1), (29, .if_icmp .ne 5, 3), (32, .iconst (-1), 1), (33, .ireturn, 1), (34, .iload 4, 2), (36, .iload 6, 2), (38, .iadd, 1), (39, .istore 4, 2), (41, .iinc 5 1, 3), (44, .goto (-38), 3), (47, .iload 4, 2), (49, .ireturn, 1)]
def aM_X12_aloneFrom : aM := (yX12_aloneFrom, cX12_aloneFrom, 7, (some .int), aC_RX12, aL_X12_aloneFrom, 1801)
def aL_X12_aloneOf : List (Nat × Instr × Nat) := [(0, .aload_n 0, 1), (1, .iload_n 1, 1), (2, .iload_n 2, 1), (3, .aload_n 0, 1), (4, .iload_n 2, 1), (5, .invokevirtual 327, 3), (8, .invokevirtual 351, 3), (11, .ireturn, 1)]
def aM_X12_aloneOf : aM := (yX12_aloneOf, cX12_aloneOf, 3, (some .int), aC_RX12, aL_X12_aloneOf, 1797)
def aL_X12_isInTime : List (Nat × Instr × Nat) := [(0, .iload_n 2, 1), (1, .iconst (-1), 1), (2, .if_icmp .eq 29, 3), (5, .aload_n 0, 1), (6, .getfield 67, 3), (9, .bipush 66, 2), (11, .iaload, 1), (12, .iload_n 2, 1), (13, .iadd, 1), (14, .aload_n 0, 1), (15, .getfield 37, 3), (18, .iconst 4, 1), (19, .iload_n 1, 1), (20, .imul, 1), (21, .iconst 1, 1), (22, .iadd, 1), (23, .iaload, 1), (24, .if_icmp .gt 7, 3), (27, .iconst 1, 1), (28, .goto 4, 3), (31, .iconst 0, 1), (32, .ireturn, 1)]
def aM_X12_isInTime : aM := (yX12_isInTime, cX12_isInTime, 3, (some .boolean), aC_RX12, aL_X12_isInTime, 1813)
def aL_X12_alone : List (Nat × Instr × Nat) := [(0, .aload_n 0, 1), (1, .iconst 0, 1), (2, .putfield 117, 3), (5, .aload_n 0, 1), (6, .iload_n 1, 1), (7, .invokevirtual 330, 3), (10, .ifCond .eq 20, 3), (13, .aload_n 0, 1), (14, .iload_n 2, 1), (15, .invokevirtual 354, 3), (18, .ifCond .eq 12, 3), (21, .aload_n 0, 1), (22, .iload_n 1, 1), (23, .iload_n 2, 1), (24, .invokevirtual 357, 3), (27, .goto 4, 3), (30, .iconst (-1), 1), (31, .ireturn, 1)]
def aM_X12_alone : aM := (yX12_alone, cX12_alone, 3, (some .int), aC_RX12, aL_X12_alone, 1789)
def aL_X12_whoOf : List (Nat × Instr × Nat) := [(0, .iconst 0, 1), (1, .istore_n 2, 1), (2, .iconst 0, 1), (3, .istore_n 3, 1), (4, .iload_n 3, 1), (5, .aload_n 0, 1), (6, .getfield 304, 3), (9, .if_icmp .ge 33, 3), (12, .iload_n 2, 1), (13, .aload_n 0, 1), (14, .iload_n 1, 1), (15, .aload_n 0, 1), (16, .iload_n 3, 1), (17, .iload_n 1, 1), (18, .invokevirtual 357, 3), (21, .invokevirtual 360, 3), (24, .ifCond .eq 9, 3), (27, .iconst 1, 1), (28, .iload_n 3, 1), (29, .ishl, 1), (30, .goto 4, 3), (33, .iconst 0, 1), (34, .ior, 1), (35, .istore_n 2, 1), (36, .iinc 3 1, 3), (39, .goto (-35), 3), (42, .iload_n 2, 1), (43, .ireturn, 1)]
def aM_X12_whoOf : aM := (yX12_whoOf, cX12_whoOf, 4, (some .int), aC_RX12, aL_X12_whoOf, 1809)
def aL_X12_who : List (Nat × Instr × Nat) := [(0, .aload_n 0, 1), (1, .iconst 0, 1), (2, .putfield 117, 3), (5, .aload_n 0, 1), (6, .iload_n 1, 1), (7, .invokevirtual 354, 3), (10, .ifCond .eq 11, 3), (13, .aload_n 0, 1), (14, .iload_n 1, 1), (15, .invokevirtual 363, 3), (18, .goto 4, 3), (21, .iconst (-1), 1), (22, .ireturn, 1)]
def aM_X12_who : aM := (yX12_who, cX12_who, 2, (some .int), aC_RX12, aL_X12_who, 1805)
def aL_X12_stuck : List (Nat × Instr × Nat) := [(0, .aload_n 0, 1), (1, .iconst 0, 1), (2, .putfield 117, 3), (5, .aload_n 0, 1), (6, .iload_n 1, 1), (7, .invokevirtual 354, 3), (10, .ifCond .ne 5, 3), (13, .iconst (-1), 1), (14, .ireturn, 1), (15, .aload_n 0, 1), (16, .iload_n 1, 1), (17, .invokevirtual 327, 3), (20, .istore_n 2, 1), (21, .iload_n 2, 1), (22, .aload_n 0, 1), (23, .iload_n 1, 1), (24, .invokevirtual 310, 3), (27, .if_icmp .ge 60, 3), (30, .iconst 0, 1), (31, .istore_n 3, 1), (32, .iconst 0, 1), (33, .istore 4, 2), (35, .iload 4, 2), (37, .aload_n 0, 1), (38, .getfield 304, 3), (41, .if_icmp .ge 34, 3), (44, .iload_n 3, 1), (45, .ifCond .ne 18, 3), (48, .aload_n 0, 1), (49, .iload 4, 2), (51, .aload_n 0, 1), (52, .iload_n 1, 1), (53, .iload_n 2, 1), (54, .invokevirtual 341, 3), (57, .invokevirtual 335, 3), (60, .ifCond .le 7, 3), (63, .iconst 1, 1), (64, .goto 4, 3), (67, .iconst 0, 1), (68, .istore_n 3, 1), (69, .iinc 4 1, 3), (72, .goto (-37), 3), (75, .iload_n 3, 1), (76, .ifCond .ne 5, 3), (79, .iload_n 2, 1), (80, .ireturn, 1), (81, .iinc 2 1, 3), (84, .goto (-63), 3), (87, .iconst (-1), 1), (88, .ireturn, 1)]
def aM_X12_stuck : aM := (yX12_stuck, cX12_stuck, 5, (some .int), aC_RX12, aL_X12_stuck, 1817)
def aL_X12_teamOf : List (Nat × Instr × Nat) := [(0, .iconst 0, 1), (1, .istore_n 3, 1), (2, .aload_n 0, 1), (3, .iload_n 1, 1), (4, .invokevirtual 327, 3), (7, .istore 4, 2), (9, .iload 4, 2), (11, .aload_n 0, 1), (12, .iload_n 1, 1), (13, .invokevirtual 310, 3), (16, .if_icmp .ge 90, 3), (19, .iconst (-1), 1), (20, .istore 5, 2), (22, .iconst 0, 1), (23, .istore 6, 2), (25, .iload 6, 2), (27, .aload_n 0, 1), (28, .getfield 304, 3), (31, .if_icmp .ge 56, 3), (34, .iload_n 2, 1), (35, .iload 6, 2), (37, .invokestatic 246, 3), (40, .ifCond .eq 15, 3), (43, .aload_n 0, 1), (44, .iload 6, 2), (46, .iload_n 1, 1), (47, .iload 4, 2), (49, .invokevirtual 347, 3), (52, .goto 4, 3), (55, .iconst (-1), 1), (56, .istore 7, 2), (58, .iload 7, 2), (60, .iconst (-1), 1), (61, .if_icmp .eq 20, 3), (64, .iload 5, 2), (66, .iconst (-1), 1), (67, .if_icmp .eq 10, 3), (70, .iload 7, 2), (72, .iload 5, 2), (74, .if_icmp .ge 7, 3), (77, .iload 7, 2), (79, .istore 5, 2), (81, .iinc 6 1, 3), (84, .goto (-59), 3), (87, .iload 5, 2), (89, .iconst (-1), 1), (90, .if_icmp .ne 5, 3), (93, .iconst (-1), 1), (94, .ireturn, 1), (95, .iload_n 3, 1), (96, .iload 5, 2), (98, .iadd, 1), (99, .istore_n 3, 1), (100, .iinc 4 1, 3), (103, .goto (-94), 3), (106, .iload_n 3, 1), (107, .ireturn, 1)]
def aM_X12_teamOf : aM := (yX12_teamOf, cX12_teamOf, 8, (some .int), aC_RX12, aL_X12_teamOf, 1825)
def aL_X12_team : List (Nat × Instr × Nat) := [(0, .aload_n 0, 1), (1, .iconst 0, 1), (2, .putfield 117, 3), (5, .aload_n 0, 1), (6, .iload_n 1, 1), (7, .invokevirtual 354, 3), (10, .ifCond .eq 26, 3), (13, .iload_n 2, 1), (14, .ifCond .lt 22, 3), (17, .iload_n 2, 1), (18, .iconst 1, 1), (19, .aload_n 0, 1), (20, .getfield 304, 3), (23, .ishl, 1), (24, .if_icmp .ge 12, 3), (27, .aload_n 0, 1), (28, .iload_n 1, 1), (29, .iload_n 2, 1), (30, .invokevirtual 366, 3), (33, .goto 4, 3), (36, .iconst (-1), 1), (37, .ireturn, 1)]
def aM_X12_team : aM := (yX12_team, cX12_team, 3, (some .int), aC_RX12, aL_X12_team, 1821)
def aL_X12_helpers : List (Nat × Instr × Nat) := [(0, .aload_n 0, 1), (1, .iconst 0, 1), (2, .putfield 117, 3), (5, .aload_n 0, 1), (6, .iload_n 1, 1), (7, .invokevirtual 354, 3), (10, .ifCond .ne 5, 3), (13, .iconst (-1), 1), (14, .ireturn, 1), (15, .iconst (-1), 1), (16, .istore_n 2, 1), (17, .iconst 0, 1), (18, .istore_n 3, 1), (19, .iload_n 3, 1), (20, .iconst 1, 1), (21, .aload_n 0, 1), (22, .getfield 304, 3), (25, .ishl, 1), (26, .if_icmp .ge 41, 3), (29, .iload_n 2, 1), (30, .iconst (-1), 1), (31, .if_icmp .eq 14, 3), (34, .iload_n 3, 1), (35, .invokestatic 369, 3), (38, .iload_n 2, 1), (39, .invokestatic 369, 3), (42, .if_icmp .ge 19, 3), (45, .aload_n 0, 1), (46, .iload_n 1, 1), (47, .aload_n 0, 1), (48, .iload_n 1, 1), (49, .iload_n 3, 1), (50, .invokevirtual 366, 3), (53, .invokevirtual 360, 3), (56, .ifCond .eq 5, 3), (59, .iload_n 3, 1), (60, .istore_n 2, 1), (61, .iinc 3 1, 3), (64, .goto (-45), 3), (67, .iload_n 2, 1), (68, .ireturn, 1)]
def aM_X12_helpers : aM := (yX12_helpers, cX12_helpers, 4, (some .int), aC_RX12, aL_X12_helpers, 1829)
def aL_X12_remember : List (Nat × Instr × Nat) := [(0, .aload_n 0, 1), (1, .getfield 316, 3), (4, .bipush 40, 2), (6, .if_icmp .ne 43, 3), (9, .iconst 0, 1), (10, .istore_n 1, 1), (11, .iload_n 1, 1), (12, .sipush 2613, 3), (15, .if_icmp .ge 24, 3), (18, .aload_n 0, 1), (19, .getfield 74, 3), (22, .iload_n 1, 1), (23, .aload_n 0, 1), (24, .getfield 74, 3), (27, .iload_n 1, 1), (28, .bipush 67, 2), (30, .iadd, 1), (31, .iaload, 1), (32, .iastore, 1), (33, .iinc 1 1, 3), (36, .goto (-25), 3), (39, .aload_n 0, 1), (40, .dup, 1), (41, .getfield 316, 3), (44, .iconst 1, 1), (45, .isub, 1), (46, .putfield 316, 3), (49, .iconst 0, 1), (50, .istore_n 1, 1), (51, .iload_n 1, 1), (52, .bipush 67, 2), (54, .if_icmp .ge 29, 3), (57, .aload_n 0, 1), (58, .getfield 74, 3), (61, .bipush 67, 2), (63, .aload_n 0, 1), (64, .getfield 316, 3), (67, .imul, 1), (68, .iload_n 1, 1), (69, .iadd, 1), (70, .aload_n 0, 1), (71, .getfield 67, 3), (74, .iload_n 1, 1), (75, .iaload, 1), (76, .iastore, 1), (77, .iinc 1 1, 3), (80, .goto (-29), 3), (83, .aload_n 0, 1), (84, .dup, 1), (85, .getfield 316, 3), (88, .iconst 1, 1), (89, .iadd, 1), (90, .putfield 316, 3), (93, .return_, 1)]
def aM_X12_remember : aM := (yX12_remember, cX12_remember, 2, none, aC_RX12, aL_X12_remember, 1838)
def aL_X12_give : List (Nat × Instr × Nat) := [(0, .aload_n 0, 1), (1, .iconst 0, 1), (2, .putfield 117, 3), (5, .aload_n 0, 1), (6, .iload_n 1, 1), (7, .invokevirtual 354, 3), (10, .ifCond .eq 31, 3), (13, .iload_n 2, 1), (14, .iconst (-1), 1), (15, .if_icmp .eq 11, 3), (18, .aload_n 0, 1), (19, .iload_n 2, 1), (20, .invokevirtual 330, 3), (23, .ifCond .eq 18, 3), (26, .aload_n 0, 1), (27, .getfield 67, 3), (30, .bipush 6, 2), (32, .iload_n 1, 1), (33, .imul, 1), (34, .iconst 1, 1), (35, .iadd, 1), (36, .iaload, 1), (37, .iload_n 2, 1), (38, .if_icmp .ne 5, 3), (41, .iconst (-1), 1), (42, .ireturn, 1), (43, .aload_n 0, 1), (44, .invokevirtual 374, 3), (47, .aload_n 0, 1), (48, .getfield 67, 3), (51, .bipush 6, 2), (53, .iload_n 1, 1), (54, .imul, 1), (55, .iconst 1, 1), (56, .iadd, 1), (57, .iload_n 2, 1), (58, .iastore, 1), (59, .aload_n 0, 1), (60, .getfield 316, 3), (63, .ireturn, 1)]
def aM_X12_give : aM := (yX12_give, cX12_give, 3, (some .int), aC_RX12, aL_X12_give, 1834)
def aL_X12_teach : List (Nat × Instr × Nat) := [(0, .aload_n 0, 1), (1, .iconst 0, 1), (2, .putfield 117, 3), (5, .aload_n 0, 1), (6, .iload_n 1, 1), (7, .invokevirtual 330, 3), (10, .ifCond .eq 26, 3), (13, .iload_n 2, 1), (14, .i2l, 1), (15, .lconst 0, 1), (16, .ldc2_w 339, 3), (19, .invokestatic 238, 3), (22, .ifCond .eq 14, 3), (25, .aload_n 0, 1), (26, .iload_n 1, 1), (27, .iload_n 2, 1), (28, .invokevirtual 335, 3), (31, .bipush 9, 2), (33, .if_icmp .ne 5, 3), (36, .iconst (-1), 1), (37, .ireturn, 1), (38, .aload_n 0, 1), (39, .invokevirtual 374, 3), (42, .aload_n 0, 1), (43, .getfield 67, 3), (46, .bipush 36, 2), (48, .iconst 5, 1), (49, .iload_n 1, 1), (50, .imul, 1), (51, .iadd, 1), (52, .iload_n 2, 1), (53, .iadd, 1), (54, .dup2, 1), (55, .iaload, 1), (56, .iconst 1, 1), (57, .iadd, 1), (58, .iastore, 1), (59, .aload_n 0, 1), (60, .iload_n 1, 1), (61, .iload_n 2, 1), (62, .invokevirtual 335, 3), (65, .ireturn, 1)]
def aM_X12_teach : aM := (yX12_teach, cX12_teach, 3, (some .int), aC_RX12, aL_X12_teach, 1842)
def aL_X12_works : List (Nat × Instr × Nat) := [(0, .iconst 0, 1), (1, .istore_n 2, 1), (2, .iload_n 2, 1), (3, .aload_n 0, 1), (4, .getfield 301, 3), (7, .if_icmp .ge 181, 3), (10, .bipush 6, 2), (12, .iload_n 2, 1), (13, .imul, 1), (14, .istore_n 3, 1), (15, .aload_n 0, 1), (16, .getfield 67, 3), (19, .iload_n 3, 1), (20, .iconst 1, 1), (21, .iadd, 1), (22, .iaload, 1), (23, .iload_n 1, 1), (24, .if_icmp .ne 158, 3), (27, .aload_n 0, 1), (28, .getfield 67, 3), (31, .iload_n 3, 1), (32, .iconst 2, 1), (33, .iadd, 1), (34, .iaload, 1), (35, .ifCond .ne 147, 3), (38, .aload_n 0, 1), (39, .getfield 67, 3), (42, .iload_n 3, 1), (43, .iaload, 1), (44, .aload_n 0, 1), (45, .iload_n 2, 1), (46, .invokevirtual 310, 3), (49, .if_icmp .lt 6, 3), (52, .goto 130, 3), (55, .aload_n 0, 1), (56, .iload_n 2, 1), (57, .aload_n 0, 1), (58, .getfield 67, 3), (61, .iload_n 3, 1), (62, .iaload, 1), (63, .invokevirtual 341, 3), (66, .istore 4, 2), (68, .aload_n 0, 1), (69, .iload_n 1, 1), (70, .iload 4, 2), (72, .invokevirtual 335, 3), (75, .ifCond .ne 6, 3), (78, .goto 104, 3), (81, .aload_n 0, 1), (82, .getfield 55, 3), (85, .iload 4, 2), (87, .iaload, 1), (88, .ifCond .le 21, 3), (91, .aload_n 0, 1), (92, .getfield 77, 3), (95, .iload 4, 2), (97, .iaload, 1), (98, .aload_n 0, 1), (99, .getfield 55, 3), (102, .iload 4, 2), (104, .iaload, 1), (105, .if_icmp .lt 4, 3), (108, .return_, 1), (109, .aload_n 0, 1), (110, .getfield 77, 3), (113, .iload 4, 2), (115, .dup2, 1), (116, .iaload, 1), (117, .iconst 1, 1), (118, .iadd, 1), (119, .iastore, 1), (120, .aload_n 0, 1), (121, .getfield 67, 3), (124, .iload_n 3, 1), (125, .iconst 3, 1), (126, .iadd, 1), (127, .dup2, 1), (128, .iaload, 1), (129, .aload_n 0, 1), (130, .iload_n 1, 1), (131, .iload 4, 2), (133, .invokevirtual 335, 3), (136, .iadd, 1), (137, .iastore, 1), (138, .aload_n 0, 1), (139, .getfield 67, 3), (142, .iload_n 3, 1), (143, .iconst 3, 1), (144, .iadd, 1), (145, .iaload, 1), (146, .iconst 3, 1), (147, .aload_n 0, 1), (148, .iload_n 2, 1), (149, .aload_n 0, 1), (150, .getfield 67, 3), (153, .iload_n 3, 1), (154, .iaload, 1), (155, .invokevirtual 344, 3), (158, .imul, 1), (159, .if_icmp .lt 22, 3), (162, .aload_n 0, 1), (163, .getfield 67, 3), (166, .iload_n 3, 1), (167, .dup2, 1), (168, .iaload, 1), (169, .iconst 1, 1), (170, .iadd, 1), (171, .iastore, 1), (172, .aload_n 0, 1), (173, .getfield 67, 3), (176, .iload_n 3, 1), (177, .iconst 3, 1), (178, .iadd, 1), (179, .iconst 0, 1), (180, .iastore, 1), (181, .return_, 1), (182, .iinc 2 1, 3), (185, .goto (-183), 3), (188, .return_, 1)]
def aM_X12_works : aM := (yX12_works, cX12_works, 5, none, aC_RX12, aL_X12_works, 1855)
def aL_X12_goDay : List (Nat × Instr × Nat) := [(0, .iconst 0, 1), (1, .istore_n 1, 1), (2, .iload_n 1, 1), (3, .iconst 5, 1), (4, .if_icmp .ge 16, 3), (7, .aload_n 0, 1), (8, .getfield 77, 3), (11, .iload_n 1, 1), (12, .iconst 0, 1), (13, .iastore, 1), (14, .iinc 1 1, 3), (17, .goto (-15), 3), (20, .iconst 0, 1), (21, .istore_n 1, 1), (22, .iload_n 1, 1), (23, .aload_n 0, 1), (24, .getfield 304, 3), (27, .if_icmp .ge 14, 3), (30, .aload_n 0, 1), (31, .iload_n 1, 1), (32, .invokevirtual 377, 3), (35, .iinc 1 1, 3), (38, .goto (-16), 3), (41, .aload_n 0, 1), (42, .getfield 67, 3), (45, .bipush 66, 2), (47, .dup2, 1), (48, .iaload, 1), (49, .iconst 1, 1), (50, .iadd, 1), (51, .iastore, 1), (52, .iconst 0, 1), (53, .istore_n 1, 1), (54, .iload_n 1, 1), (55, .aload_n 0, 1), (56, .getfield 301, 3), (59, .if_icmp .ge 114, 3), (62, .bipush 6, 2), (64, .iload_n 1, 1), (65, .imul, 1), (66, .istore_n 2, 1), (67, .aload_n 0, 1), (68, .getfield 67, 3), (71, .iload_n 2, 1), (72, .iconst 2, 1), (73, .iadd, 1), (74, .iaload, 1), (75, .ifCond .eq 6, 3), (78, .goto 89, 3), (81, .aload_n 0, 1), (82, .getfield 67, 3), (85, .iload_n 2, 1), (86, .iaload, 1), (87, .aload_n 0, 1), (88, .iload_n 1, 1), (89, .invokevirtual 310, 3), (92, .if_icmp .ne 46, 3), (95, .aload_n 0, 1), (96, .getfield 67, 3), (99, .iload_n 2, 1), (100, .iconst 2, 1), (101, .iadd, 1), (102, .iconst 1, 1), (103, .iastore, 1), (104, .aload_n 0, 1), (105, .getfield 67, 3), (108, .iload_n 2, 1), (109, .iconst 4, 1), (110, .iadd, 1), (111, .aload_n 0, 1), (112, .getfield 67, 3), (115, .bipush 66, 2), (117, .iaload, 1), (118, .iastore, 1), (119, .aload_n 0, 1), (120, .getfield 67, 3), (123, .iload_n 2, 1), (124, .iconst 5, 1), (125, .iadd, 1), (126, .aload_n 0, 1), (127, .getfield 67, 3), (130, .iload_n 2, 1), (131, .iconst 1, 1), (132, .iadd, 1), (133, .iaload, 1), (134, .iastore, 1), (135, .goto 32, 3), (138, .aload_n 0, 1), (139, .getfield 37, 3), (142, .iconst 4, 1), (143, .iload_n 1, 1), (144, .imul, 1), (145, .iconst 1, 1), (146, .iadd, 1), (147, .iaload, 1), (148, .aload_n 0, 1), (149, .getfield 67, 3), (152, .bipush 66, 2), (154, .iaload, 1), (155, .if_icmp .gt 12, 3), (158, .aload_n 0, 1), (159, .getfield 67, 3), (162, .iload_n 2, 1), (163, .iconst 2, 1), (164, .iadd, 1), (165, .iconst 2, 1), (166, .iastore, 1), (167, .iinc 1 1, 3), (170, .goto (-116), 3), (173, .return_, 1)]
def aM_X12_goDay : aM := (yX12_goDay, cX12_goDay, 3, none, aC_RX12, aL_X12_goDay, 1851)
def aL_X12_days : List (Nat × Instr × Nat) := [(0, .aload_n 0, 1), (1, .iconst 0, 1), (2, .putfield 117, 3), (5, .aload_n 0, 1), (6, .getfield 301, 3), (9, .ifCond .eq 30, 3), (12, .iload_n 1, 1), (13, .i2l, 1), (14, .lconst 1, 1), (15, .ldc2_w 380, 3), (18, .invokestatic 238, 3), (21, .ifCond .eq 18, 3), (24, .aload_n 0, 1), (25, .getfield 67, 3), (28, .bipush 66, 2), (30, .iaload, 1), (31, .iload_n 1, 1), (32, .iadd, 1), (33, .sipush 999, 3), (36, .if_icmp .le 5, 3), (39, .iconst (-1), 1), (40, .ireturn, 1), (41, .iconst 0, 1), (42, .istore_n 2, 1), (43, .iload_n 2, 1), (44, .iload_n 1, 1), (45, .if_icmp .ge 17, 3), (48, .aload_n 0, 1), (49, .invokevirtual 374, 3), (52, .aload_n 0, 1), (53, .invokevirtual 382, 3), (56, .iinc 2 1, 3), (59, .goto (-16), 3), (62, .aload_n 0, 1), (63, .getfield 67, 3), (66, .bipush 66, 2), (68, .iaload, 1), (69, .ireturn, 1)]
def aM_X12_days : aM := (yX12_days, cX12_days, 3, (some .int), aC_RX12, aL_X12_days, 1846)
def aL_X12_draw : List (Nat × Instr × Nat) := [(0, .aload_n 0, 1), (1, .aload_n 0, 1), (2, .getfield 385, 3), (5, .ldc2_w 389, 3), (8, .lmul, 1), (9, .ldc2_w 391, 3), (12, .ladd, 1), (13, .putfield 385, 3), (16, .aload_n 0, 1), (17, .getfield 385, 3), (20, .bipush 33, 2), (22, .lushr, 1), (23, .iload_n 1, 1), (24, .i2l, 1), (25, .lrem, 1), (26, .l2i, 1), (27, .ireturn, 1)]
def aM_X12_draw : aM := (yX12_draw, cX12_draw, 2, (some .int), aC_RX12, aL_X12_draw, 1863)
def aL_X12_generation : List (Nat × Instr × Nat) := [(0, .aload_n 0, 1), (1, .iconst 0, 1), (2, .putfield 117, 3), (5, .aload_n 0, 1), (6, .getfield 301, 3), (9, .ifCond .ne 5, 3), (12, .iconst (-1), 1), (13, .ireturn, 1), (14, .aload_n 0, 1), (15, .invokevirtual 374, 3), (18, .aload_n 0, 1), (19, .lload_n 1, 1), (20, .putfield 385, 3), (23, .iconst 0, 1), (24, .istore_n 3, 1), (25, .iconst 0, 1), (26, .istore 4, 2), (28, .iload 4, 2), (30, .iconst 5, 1), (31, .aload_n 0, 1), (32, .getfield 304, 3), (35, .imul, 1), (36, .if_icmp .ge 89, 3), (39, .aload_n 0, 1), (40, .bipush 10, 2), (42, .invokevirtual 393, 3), (45, .istore 5, 2), (47, .aload_n 0, 1), (48, .getfield 67, 3), (51, .bipush 36, 2), (53, .iload 4, 2), (55, .iadd, 1), (56, .iaload, 1), (57, .istore 6, 2), (59, .aload_n 0, 1), (60, .getfield 67, 3), (63, .bipush 36, 2), (65, .iload 4, 2), (67, .iadd, 1), (68, .iload 5, 2), (70, .ifCond .ne 7, 3), (73, .iconst 0, 1), (74, .goto 23, 3), (77, .iload 5, 2), (79, .iconst 1, 1), (80, .if_icmp .ne 15, 3), (83, .bipush 9, 2), (85, .iload 6, 2), (87, .iconst 1, 1), (88, .iadd, 1), (89, .invokestatic 396, 3), (92, .goto 5, 3), (95, .iload 6, 2), (97, .iastore, 1), (98, .iload_n 3, 1), (99, .aload_n 0, 1), (100, .getfield 67, 3), (103, .bipush 36, 2), (105, .iload 4, 2), (107, .iadd, 1), (108, .iaload, 1), (109, .ifCond .le 7, 3), (112, .iconst 1, 1), (113, .goto 4, 3), (116, .iconst 0, 1), (117, .iadd, 1), (118, .istore_n 3, 1), (119, .iinc 4 1, 3), (122, .goto (-94), 3), (125, .iconst 0, 1), (126, .istore 4, 2), (128, .iload 4, 2), (130, .aload_n 0, 1), (131, .getfield 301, 3), (134, .if_icmp .ge 22, 3), (137, .aload_n 0, 1), (138, .getfield 67, 3), (141, .bipush 6, 2), (143, .iload 4, 2), (145, .imul, 1), (146, .iconst 1, 1), (147, .iadd, 1), (148, .iconst (-1), 1), (149, .iastore, 1), (150, .iinc 4 1, 3), (153, .goto (-25), 3), (156, .iload_n 3, 1), (157, .ireturn, 1)]
def aM_X12_generation : aM := (yX12_generation, cX12_generation, 7, (some .int), aC_RX12, aL_X12_generation, 1859)
def aL_X12_undo : List (Nat × Instr × Nat) := [(0, .aload_n 0, 1), (1, .iconst 0, 1), (2, .putfield 117, 3), (5, .aload_n 0, 1), (6, .getfield 316, 3), (9, .ifCond .ne 5, 3), (12, .iconst (-1), 1), (13, .ireturn, 1), (14, .aload_n 0, 1), (15, .dup, 1), (16, .getfield 316, 3), (19, .iconst 1, 1), (20, .isub, 1), (21, .putfield 316, 3), (24, .iconst 0, 1), (25, .istore_n 1, 1), (26, .iload_n 1, 1), (27, .bipush 67, 2), (29, .if_icmp .ge 29, 3), (32, .aload_n 0, 1), (33, .getfield 67, 3), (36, .iload_n 1, 1), (37, .aload_n 0, 1), (38, .getfield 74, 3), (41, .bipush 67, 2), (43, .aload_n 0, 1), (44, .getfield 316, 3), (47, .imul, 1), (48, .iload_n 1, 1), (49, .iadd, 1), (50, .iaload, 1), (51, .iastore, 1), (52, .iinc 1 1, 3), (55, .goto (-29), 3), (58, .aload_n 0, 1), (59, .getfield 316, 3), (62, .ireturn, 1)]
def aM_X12_undo : aM := (yX12_undo, cX12_undo, 2, (some .int), aC_RX12, aL_X12_undo, 1870)
def aL_X12_askAsItIs : List (Nat × Instr × Nat) := [(0, .iconst 0, 1), (1, .istore_n 1, 1), (2, .iload_n 1, 1), (3, .aload_n 0, 1), (4, .getfield 301, 3), (7, .if_icmp .ge 20, 3), (10, .aload_n 0, 1), (11, .getfield 80, 3), (14, .iload_n 1, 1), (15, .aload_n 0, 1), (16, .iload_n 1, 1), (17, .invokevirtual 327, 3), (20, .iastore, 1), (21, .iinc 1 1, 3), (24, .goto (-22), 3), (27, .return_, 1)]
def aM_X12_askAsItIs : aM := (yX12_askAsItIs, cX12_askAsItIs, 2, none, aC_RX12, aL_X12_askAsItIs, 1878)
def aL_X12_isDealt : List (Nat × Instr × Nat) := [(0, .aload_n 0, 1), (1, .getfield 67, 3), (4, .bipush 6, 2), (6, .iload_n 1, 1), (7, .imul, 1), (8, .iconst 2, 1), (9, .iadd, 1), (10, .iaload, 1), (11, .ifCond .ne 21, 3), (14, .aload_n 0, 1), (15, .getfield 80, 3), (18, .iload_n 1, 1), (19, .iaload, 1), (20, .aload_n 0, 1), (21, .iload_n 1, 1), (22, .invokevirtual 310, 3), (25, .if_icmp .ge 7, 3), (28, .iconst 1, 1), (29, .goto 4, 3), (32, .iconst 0, 1), (33, .ireturn, 1)]
def aM_X12_isDealt : aM := (yX12_isDealt, cX12_isDealt, 2, (some .boolean), aC_RX12, aL_X12_isDealt, 1886)
def aL_X12_canDo : List (Nat × Instr × Nat) := [(0, .iload_n 3, 1), (1, .istore 4, 2), (3, .iload_n 2, 1), (4, .istore 5, 2), (6, .iload 5, 2), (8, .ifCond .eq 133, 3), (11, .iconst (-1), 1), (12, .istore 6, 2), (14, .iconst 0, 1), (15, .istore 7, 2), (17, .iload 7, 2), (19, .aload_n 0, 1), (20, .getfield 301, 3), (23, .if_icmp .ge 54, 3), (26, .iload 5, 2), (28, .iload 7, 2), (30, .invokestatic 246, 3), (33, .ifCond .eq 38, 3), (36, .iload 6, 2), (38, .iconst (-1), 1), (39, .if_icmp .eq 28, 3), (42, .aload_n 0, 1), (43, .getfield 37, 3), (46, .iconst 4, 1), (47, .iload 7, 2), (49, .imul, 1), (50, .iconst 1, 1), (51, .iadd, 1), (52, .iaload, 1), (53, .aload_n 0, 1), (54, .getfield 37, 3), (57, .iconst 4, 1), (58, .iload 6, 2), (60, .imul, 1), (61, .iconst 1, 1), (62, .iadd, 1), (63, .iaload, 1), (64, .if_icmp .ge 7, 3), (67, .iload 7, 2), (69, .istore 6, 2), (71, .iinc 7 1, 3), (74, .goto (-57), 3), (77, .aload_n 0, 1), (78, .iload_n 1, 1), (79, .iload 6, 2), (81, .aload_n 0, 1), (82, .getfield 80, 3), (85, .iload 6, 2), (87, .iaload, 1), (88, .invokevirtual 351, 3), (91, .istore 7, 2), (93, .iload 7, 2), (95, .iconst (-1), 1), (96, .if_icmp .eq 22, 3), (99, .iload 4, 2), (101, .iload 7, 2), (103, .iadd, 1), (104, .aload_n 0, 1), (105, .getfield 37, 3), (108, .iconst 4, 1), (109, .iload 6, 2), (111, .imul, 1), (112, .iconst 1, 1), (113, .iadd, 1), (114, .iaload, 1), (115, .if_icmp .le 5, 3), (118, .iconst 0, 1), (119, .ireturn, 1), (120, .iload 4, 2), (122, .iload 7, 2), (124, .iadd, 1), (125, .istore 4, 2), (127, .iload 5, 2), (129, .iconst 1, 1), (130, .iload 6, 2), (132, .ishl, 1), (133, .iconst (-1), 1), (134, .ixor, 1), (135, .iand, 1), (136, .istore 5, 2), (138, .goto (-132), 3), (141, .iconst 1, 1), (142, .ireturn, 1)]
def aM_X12_canDo : aM := (yX12_canDo, cX12_canDo, 8, (some .boolean), aC_RX12, aL_X12_canDo, 1890)
def aL_X12_layDeal : List (Nat × Instr × Nat) := [(0, .iconst 0, 1), (1, .istore_n 1, 1), (2, .iload_n 1, 1), (3, .aload_n 0, 1), (4, .getfield 304, 3), (7, .if_icmp .ge 111, 3), (10, .iconst 0, 1), (11, .istore_n 2, 1), (12, .iload_n 2, 1), (13, .iconst 1, 1), (14, .aload_n 0, 1), (15, .getfield 301, 3), (18, .ishl, 1), (19, .if_icmp .ge 93, 3), (22, .iconst 1, 1), (23, .istore_n 3, 1), (24, .iconst 0, 1), (25, .istore 4, 2), (27, .iload 4, 2), (29, .aload_n 0, 1), (30, .getfield 301, 3), (33, .if_icmp .ge 37, 3), (36, .iload_n 3, 1), (37, .ifCond .eq 25, 3), (40, .iload_n 2, 1), (41, .iload 4, 2), (43, .invokestatic 246, 3), (46, .ifCond .eq 12, 3), (49, .aload_n 0, 1), (50, .iload 4, 2), (52, .invokevirtual 398, 3), (55, .ifCond .eq 7, 3), (58, .iconst 1, 1), (59, .goto 4, 3), (62, .iconst 0, 1), (63, .istore_n 3, 1), (64, .iinc 4 1, 3), (67, .goto (-40), 3), (70, .aload_n 0, 1), (71, .getfield 83, 3), (74, .iload_n 1, 1), (75, .bipush 6, 2), (77, .ishl, 1), (78, .iload_n 2, 1), (79, .iadd, 1), (80, .iload_n 3, 1), (81, .ifCond .eq 23, 3), (84, .aload_n 0, 1), (85, .iload_n 1, 1), (86, .iload_n 2, 1), (87, .aload_n 0, 1), (88, .getfield 67, 3), (91, .bipush 66, 2), (93, .iaload, 1), (94, .invokevirtual 401, 3), (97, .ifCond .eq 7, 3), (100, .iconst 1, 1), (101, .goto 4, 3), (104, .iconst 0, 1), (105, .bastore, 1), (106, .iinc 2 1, 3), (109, .goto (-97), 3), (112, .iinc 1 1, 3), (115, .goto (-113), 3), (118, .aload_n 0, 1), (119, .iconst (-1), 1), (120, .putfield 405, 3), (123, .aload_n 0, 1), (124, .iconst 0, 1), (125, .iconst 0, 1), (126, .invokevirtual 408, 3), (129, .return_, 1)]
def aM_X12_layDeal : aM := (yX12_layDeal, cX12_layDeal, 5, none, aC_RX12, aL_X12_layDeal, 1882)
def aL_X12_goDeal : List (Nat × Instr × Nat) := [(0, .iload_n 1, 1), (1, .aload_n 0, 1), (2, .getfield 301, 3), (5, .if_icmp .ne 46, 3), (8, .iload_n 2, 1), (9, .aload_n 0, 1), (10, .getfield 405, 3), (13, .if_icmp .gt 4, 3), (16, .return_, 1), (17, .aload_n 0, 1), (18, .iload_n 2, 1), (19, .putfield 405, 3), (22, .iconst 0, 1), (23, .istore_n 3, 1), (24, .iload_n 3, 1), (25, .aload_n 0, 1), (26, .getfield 301, 3), (29, .if_icmp .ge 21, 3), (32, .aload_n 0, 1), (33, .getfield 90, 3), (36, .iload_n 3, 1), (37, .aload_n 0, 1), (38, .getfield 87, 3), (41, .iload_n 3, 1), (42, .iaload, 1), (43, .iastore, 1), (44, .iinc 3 1, 3), (47, .goto (-23), 3), (50, .return_, 1), (51, .iconst 0, 1), (52, .istore_n 3, 1), (53, .iload_n 3, 1), (54, .aload_n 0, 1), (55, .getfield 304, 3), (58, .if_icmp .ge 93, 3), (61, .aload_n 0, 1), (62, .iload_n 1, 1), (63, .invokevirtual 398, 3), (66, .ifCond .eq 85, 3), (69, .aload_n 0, 1), (70, .getfield 83, 3), (73, .iload_n 3, 1), (74, .bipush 6, 2), (76, .ishl, 1), (77, .aload_n 0, 1), (78, .getfield 93, 3), (81, .iload_n 3, 1), (82, .iaload, 1), (83, .iconst 1, 1), (84, .iload_n 1, 1), (85, .ishl, 1), (86, .ior, 1), (87, .iadd, 1), (88, .baload, 1), (89, .ifCond .ne 6, 3), (92, .goto 53, 3), (95, .aload_n 0, 1), (96, .getfield 93, 3), (99, .iload_n 3, 1), (100, .dup2, 1), (101, .iaload, 1), (102, .iconst 1, 1), (103, .iload_n 1, 1), (104, .ishl, 1), (105, .ior, 1), (106, .iastore, 1), (107, .aload_n 0, 1), (108, .getfield 87, 3), (111, .iload_n 1, 1), (112, .iload_n 3, 1), (113, .iastore, 1), (114, .aload_n 0, 1), (115, .iload_n 1, 1), (116, .iconst 1, 1), (117, .iadd, 1), (118, .iload_n 2, 1), (119, .aload_n 0, 1), (120, .getfield 37, 3), (123, .iconst 4, 1), (124, .iload_n 1, 1), (125, .imul, 1), (126, .iaload, 1), (127, .iadd, 1), (128, .invokevirtual 408, 3), (131, .aload_n 0, 1), (132, .getfield 93, 3), (135, .iload_n 3, 1), (136, .dup2, 1), (137, .iaload, 1), (138, .iconst 1, 1), (139, .iload_n 1, 1), (140, .ishl, 1), (141, .iconst (-1), 1), (142, .ixor, 1), (143, .iand, 1), (144, .iastore, 1), (145, .iinc 3 1, 3), (148, .goto (-95), 3), (151, .aload_n 0, 1), (152, .getfield 87, 3), (155, .iload_n 1, 1), (156, .bipush 9, 2), (158, .iastore, 1), (159, .aload_n 0, 1), (160, .iload_n 1, 1), (161, .iconst 1, 1), (162, .iadd, 1), (163, .iload_n 2, 1), (164, .invokevirtual 408, 3), (167, .return_, 1)]
def aM_X12_goDeal : aM := (yX12_goDeal, cX12_goDeal, 4, none, aC_RX12, aL_X12_goDeal, 1894)
def aL_X12_deal : List (Nat × Instr × Nat) := [(0, .aload_n 0, 1), (1, .iconst 0, 1), (2, .putfield 117, 3), (5, .aload_n 0, 1), (6, .getfield 301, 3), (9, .ifCond .eq 13, 3), (12, .iload_n 1, 1), (13, .i2l, 1), (14, .lconst 0, 1), (15, .lconst 1, 1), (16, .invokestatic 238, 3), (19, .ifCond .ne 5, 3), (22, .iconst (-1), 1), (23, .ireturn, 1), (24, .aload_n 0, 1), (25, .invokevirtual 412, 3), (28, .aload_n 0, 1), (29, .invokevirtual 415, 3), (32, .iload_n 1, 1), (33, .iconst 1, 1), (34, .if_icmp .ne 8, 3), (37, .aload_n 0, 1), (38, .getfield 405, 3), (41, .ireturn, 1), (42, .iconst 0, 1), (43, .istore_n 2, 1), (44, .iconst 0, 1), (45, .istore_n 3, 1), (46, .iload_n 3, 1), (47, .aload_n 0, 1), (48, .getfield 301, 3), (51, .if_icmp .ge 21, 3), (54, .bipush 10, 2), (56, .iload_n 2, 1), (57, .imul, 1), (58, .aload_n 0, 1), (59, .getfield 90, 3), (62, .iload_n 3, 1), (63, .iaload, 1), (64, .iadd, 1), (65, .istore_n 2, 1), (66, .iinc 3 1, 3), (69, .goto (-23), 3), (72, .iload_n 2, 1), (73, .ireturn, 1)]
def aM_X12_deal : aM := (yX12_deal, cX12_deal, 4, (some .int), aC_RX12, aL_X12_deal, 1874)
def aL_X12_bestOf : List (Nat × Instr × Nat) := [(0, .iconst 0, 1), (1, .istore 4, 2), (3, .iconst 0, 1), (4, .istore 5, 2), (6, .iload 5, 2), (8, .iconst 1, 1), (9, .aload_n 0, 1), (10, .getfield 301, 3), (13, .ishl, 1), (14, .if_icmp .ge 90, 3), (17, .iload 5, 2), (19, .iload_n 2, 1), (20, .iconst (-1), 1), (21, .ixor, 1), (22, .iand, 1), (23, .ifCond .ne 75, 3), (26, .aload_n 0, 1), (27, .iload_n 1, 1), (28, .iload 5, 2), (30, .iload_n 3, 1), (31, .invokevirtual 401, 3), (34, .ifCond .ne 6, 3), (37, .goto 61, 3), (40, .iconst 0, 1), (41, .istore 6, 2), (43, .iconst 0, 1), (44, .istore 7, 2), (46, .iload 7, 2), (48, .aload_n 0, 1), (49, .getfield 301, 3), (52, .if_icmp .ge 37, 3), (55, .iload 6, 2), (57, .iload 5, 2), (59, .iload 7, 2), (61, .invokestatic 246, 3), (64, .ifCond .eq 15, 3), (67, .aload_n 0, 1), (68, .getfield 37, 3), (71, .iconst 4, 1), (72, .iload 7, 2), (74, .imul, 1), (75, .iaload, 1), (76, .goto 4, 3), (79, .iconst 0, 1), (80, .iadd, 1), (81, .istore 6, 2), (83, .iinc 7 1, 3), (86, .goto (-40), 3), (89, .iload 4, 2), (91, .iload 6, 2), (93, .invokestatic 418, 3), (96, .istore 4, 2), (98, .iinc 5 1, 3), (101, .goto (-95), 3), (104, .iload 4, 2), (106, .ireturn, 1)]
def aM_X12_bestOf : aM := (yX12_bestOf, cX12_bestOf, 8, (some .int), aC_RX12, aL_X12_bestOf, 1906)
def aL_X12_toDo : List (Nat × Instr × Nat) := [(0, .iconst 0, 1), (1, .istore_n 1, 1), (2, .iconst 0, 1), (3, .istore_n 2, 1), (4, .iload_n 2, 1), (5, .aload_n 0, 1), (6, .getfield 301, 3), (9, .if_icmp .ge 27, 3), (12, .iload_n 1, 1), (13, .aload_n 0, 1), (14, .iload_n 2, 1), (15, .invokevirtual 354, 3), (18, .ifCond .eq 9, 3), (21, .iconst 1, 1), (22, .iload_n 2, 1), (23, .ishl, 1), (24, .goto 4, 3), (27, .iconst 0, 1), (28, .ior, 1), (29, .istore_n 1, 1), (30, .iinc 2 1, 3), (33, .goto (-29), 3), (36, .iload_n 1, 1), (37, .ireturn, 1)]
def aM_X12_toDo : aM := (yX12_toDo, cX12_toDo, 3, (some .int), aC_RX12, aL_X12_toDo, 1902)
def aL_X12_best : List (Nat × Instr × Nat) := [(0, .aload_n 0, 1), (1, .iconst 0, 1), (2, .putfield 117, 3), (5, .aload_n 0, 1), (6, .iload_n 1, 1), (7, .invokevirtual 330, 3), (10, .ifCond .eq 17, 3), (13, .iload_n 2, 1), (14, .ifCond .lt 13, 3), (17, .iload_n 2, 1), (18, .iconst 1, 1), (19, .aload_n 0, 1), (20, .getfield 301, 3), (23, .ishl, 1), (24, .if_icmp .lt 5, 3), (27, .iconst (-1), 1), (28, .ireturn, 1), (29, .aload_n 0, 1), (30, .invokevirtual 412, 3), (33, .aload_n 0, 1), (34, .iload_n 1, 1), (35, .iload_n 2, 1), (36, .aload_n 0, 1), (37, .invokevirtual 420, 3), (40, .iand, 1), (41, .aload_n 0, 1), (42, .getfield 67, 3), (45, .bipush 66, 2), (47, .iaload, 1), (48, .invokevirtual 423, 3), (51, .ireturn, 1)]
def aM_X12_best : aM := (yX12_best, cX12_best, 3, (some .int), aC_RX12, aL_X12_best, 1898)
def aL_X12_learn : List (Nat × Instr × Nat) := [(0, .aload_n 0, 1), (1, .iconst 0, 1), (2, .putfield 117, 3), (5, .aload_n 0, 1), (6, .getfield 301, 3), (9, .ifCond .eq 13, 3), (12, .iload_n 1, 1), (13, .i2l, 1), (14, .lconst 0, 1), (15, .lconst 1, 1), (16, .invokestatic 238, 3), (19, .ifCond .ne 5, 3), (22, .iconst (-1), 1), (23, .ireturn, 1), (24, .aload_n 0, 1), (25, .invokevirtual 412, 3), (28, .iconst (-1), 1), (29, .istore_n 2, 1), (30, .iconst 0, 1), (31, .istore_n 3, 1), (32, .iconst 0, 1), (33, .istore 4, 2), (35, .iload 4, 2), (37, .aload_n 0, 1), (38, .getfield 304, 3), (41, .if_icmp .ge 112, 3), (44, .iconst 0, 1), (45, .istore 5, 2), (47, .iload 5, 2), (49, .iconst 5, 1), (50, .if_icmp .ge 97, 3), (53, .aload_n 0, 1), (54, .iload 4, 2), (56, .iload 5, 2), (58, .invokevirtual 335, 3), (61, .bipush 9, 2), (63, .if_icmp .ne 6, 3), (66, .goto 75, 3), (69, .aload_n 0, 1), (70, .getfield 67, 3), (73, .bipush 36, 2), (75, .iconst 5, 1), (76, .iload 4, 2), (78, .imul, 1), (79, .iadd, 1), (80, .iload 5, 2), (82, .iadd, 1), (83, .dup2, 1), (84, .iaload, 1), (85, .iconst 1, 1), (86, .iadd, 1), (87, .iastore, 1), (88, .aload_n 0, 1), (89, .invokevirtual 415, 3), (92, .aload_n 0, 1), (93, .getfield 67, 3), (96, .bipush 36, 2), (98, .iconst 5, 1), (99, .iload 4, 2), (101, .imul, 1), (102, .iadd, 1), (103, .iload 5, 2), (105, .iadd, 1), (106, .dup2, 1), (107, .iaload, 1), (108, .iconst 1, 1), (109, .isub, 1), (110, .iastore, 1), (111, .iload_n 2, 1), (112, .iconst (-1), 1), (113, .if_icmp .eq 14, 3), (116, .aload_n 0, 1), (117, .getfield 405, 3), (120, .iload_n 3, 1), (121, .if_icmp .gt 6, 3), (124, .goto 17, 3), (127, .bipush 10, 2), (129, .iload 4, 2), (131, .imul, 1), (132, .iload 5, 2), (134, .iadd, 1), (135, .istore_n 2, 1), (136, .aload_n 0, 1), (137, .getfield 405, 3), (140, .istore_n 3, 1), (141, .iinc 5 1, 3), (144, .goto (-97), 3), (147, .iinc 4 1, 3), (150, .goto (-115), 3), (153, .iload_n 2, 1), (154, .iconst (-1), 1), (155, .if_icmp .eq 7, 3), (158, .iload_n 1, 1), (159, .ifCond .ne 7, 3), (162, .iload_n 2, 1), (163, .goto 4, 3), (166, .iload_n 3, 1), (167, .ireturn, 1)]
def aM_X12_learn : aM := (yX12_learn, cX12_learn, 6, (some .int), aC_RX12, aL_X12_learn, 1911)
def aL_X12_goBegin : List (Nat × Instr × Nat) := [(0, .iload_n 1, 1), (1, .aload_n 0, 1), (2, .getfield 301, 3), (5, .if_icmp .ne 146, 3), (8, .iconst 0, 1), (9, .istore_n 3, 1), (10, .iconst 0, 1), (11, .istore 4, 2), (13, .iload 4, 2), (15, .aload_n 0, 1), (16, .getfield 301, 3), (19, .if_icmp .ge 71, 3), (22, .aload_n 0, 1), (23, .getfield 80, 3), (26, .iload 4, 2), (28, .aload_n 0, 1), (29, .iload 4, 2), (31, .invokevirtual 327, 3), (34, .aload_n 0, 1), (35, .getfield 96, 3), (38, .iload 4, 2), (40, .iaload, 1), (41, .iadd, 1), (42, .iastore, 1), (43, .iload_n 3, 1), (44, .aload_n 0, 1), (45, .iload 4, 2), (47, .invokevirtual 354, 3), (50, .ifCond .eq 31, 3), (53, .aload_n 0, 1), (54, .getfield 80, 3), (57, .iload 4, 2), (59, .iaload, 1), (60, .aload_n 0, 1), (61, .iload 4, 2), (63, .invokevirtual 310, 3), (66, .if_icmp .ne 15, 3), (69, .aload_n 0, 1), (70, .getfield 37, 3), (73, .iconst 4, 1), (74, .iload 4, 2), (76, .imul, 1), (77, .iaload, 1), (78, .goto 4, 3), (81, .iconst 0, 1), (82, .iadd, 1), (83, .istore_n 3, 1), (84, .iinc 4 1, 3), (87, .goto (-74), 3), (90, .aload_n 0, 1), (91, .invokevirtual 415, 3), (94, .iload_n 3, 1), (95, .aload_n 0, 1), (96, .getfield 405, 3), (99, .iadd, 1), (100, .aload_n 0, 1), (101, .getfield 426, 3), (104, .if_icmp .gt 4, 3), (107, .return_, 1), (108, .aload_n 0, 1), (109, .iload_n 3, 1), (110, .aload_n 0, 1), (111, .getfield 405, 3), (114, .iadd, 1), (115, .putfield 426, 3), (118, .iconst 0, 1), (119, .istore 4, 2), (121, .iload 4, 2), (123, .aload_n 0, 1), (124, .getfield 301, 3), (127, .if_icmp .ge 23, 3), (130, .aload_n 0, 1), (131, .getfield 99, 3), (134, .iload 4, 2), (136, .aload_n 0, 1), (137, .getfield 96, 3), (140, .iload 4, 2), (142, .iaload, 1), (143, .iastore, 1), (144, .iinc 4 1, 3), (147, .goto (-26), 3), (150, .return_, 1), (151, .aload_n 0, 1), (152, .getfield 96, 3), (155, .iload_n 1, 1), (156, .iconst 0, 1), (157, .iastore, 1), (158, .aload_n 0, 1), (159, .iload_n 1, 1), (160, .iconst 1, 1), (161, .iadd, 1), (162, .iload_n 2, 1), (163, .invokevirtual 429, 3), (166, .iconst 0, 1), (167, .istore_n 3, 1), (168, .aload_n 0, 1), (169, .iload_n 1, 1), (170, .invokevirtual 327, 3), (173, .istore 4, 2), (175, .iload 4, 2), (177, .aload_n 0, 1), (178, .iload_n 1, 1), (179, .invokevirtual 310, 3), (182, .if_icmp .ge 61, 3), (185, .aload_n 0, 1), (186, .iload_n 1, 1), (187, .invokevirtual 354, 3), (190, .ifCond .eq 53, 3), (193, .iload_n 3, 1), (194, .aload_n 0, 1), (195, .iload_n 1, 1), (196, .iload 4, 2), (198, .invokevirtual 344, 3), (201, .iadd, 1), (202, .istore_n 3, 1), (203, .iload_n 3, 1), (204, .iload_n 2, 1), (205, .if_icmp .le 6, 3), (208, .goto 35, 3), (211, .aload_n 0, 1), (212, .getfield 96, 3), (215, .iload_n 1, 1), (216, .iload 4, 2), (218, .aload_n 0, 1), (219, .iload_n 1, 1), (220, .invokevirtual 327, 3), (223, .isub, 1), (224, .iconst 1, 1), (225, .iadd, 1), (226, .iastore, 1), (227, .aload_n 0, 1), (228, .iload_n 1, 1), (229, .iconst 1, 1), (230, .iadd, 1), (231, .iload_n 2, 1), (232, .iload_n 3, 1), (233, .isub, 1), (234, .invokevirtual 429, 3), (237, .iinc 4 1, 3), (240, .goto (-65), 3), (243, .aload_n 0, 1), (244, .getfield 96, 3), (247, .iload_n 1, 1), (248, .iconst 0, 1), (249, .iastore, 1), (250, .return_, 1)]
def aM_X12_goBegin : aM := (yX12_goBegin, cX12_goBegin, 5, none, aC_RX12, aL_X12_goBegin, 1920)
def aL_X12_begin : List (Nat × Instr × Nat) := [(0, .aload_n 0, 1), (1, .iconst 0, 1), (2, .putfield 117, 3), (5, .aload_n 0, 1), (6, .getfield 301, 3), (9, .ifCond .eq 25, 3), (12, .iload_n 1, 1), (13, .i2l, 1), (14, .lconst 0, 1), (15, .ldc2_w 432, 3), (18, .invokestatic 238, 3), (21, .ifCond .eq 13, 3), (24, .iload_n 2, 1), (25, .i2l, 1), (26, .lconst 0, 1), (27, .lconst 1, 1), (28, .invokestatic 238, 3), (31, .ifCond .ne 5, 3), (34, .iconst (-1), 1), (35, .ireturn, 1), (36, .aload_n 0, 1), (37, .iconst (-1), 1), (38, .putfield 426, 3), (41, .aload_n 0, 1), (42, .iconst 0, 1), (43, .iload_n 1, 1), (44, .invokevirtual 429, 3), (47, .iload_n 2, 1), (48, .iconst 1, 1), (49, .if_icmp .ne 8, 3), (52, .aload_n 0, 1), (53, .getfield 426, 3), (56, .ireturn, 1), (57, .iconst 0, 1), (58, .istore_n 3, 1), (59, .iconst 0, 1), (60, .istore 4, 2), (62, .iload 4, 2), (64, .aload_n 0, 1), (65, .getfield 301, 3), (68, .if_icmp .ge 22, 3), (71, .bipush 10, 2), (73, .iload_n 3, 1), (74, .imul, 1), (75, .aload_n 0, 1), (76, .getfield 99, 3), (79, .iload 4, 2), (81, .iaload, 1), (82, .iadd, 1), (83, .istore_n 3, 1), (84, .iinc 4 1, 3), (87, .goto (-25), 3), (90, .iload_n 3, 1), (91, .ireturn, 1)]
def aM_X12_begin : aM := (yX12_begin, cX12_begin, 5, (some .int), aC_RX12, aL_X12_begin, 1915)
def aL_X12_spited : List (Nat × Instr × Nat) := [(0, .aload_n 0, 1), (1, .iload_n 1, 1), (2, .iload_n 2, 1), (3, .invokevirtual 357, 3), (6, .istore_n 3, 1), (7, .iload_n 3, 1), (8, .iconst (-1), 1), (9, .if_icmp .ne 5, 3), (12, .iconst 0, 1), (13, .ireturn, 1), (14, .aload_n 0, 1), (15, .iload_n 2, 1), (16, .iload_n 3, 1), (17, .invokevirtual 360, 3), (20, .ifCond .eq 14, 3), (23, .aload_n 0, 1), (24, .getfield 37, 3), (27, .iconst 4, 1), (28, .iload_n 2, 1), (29, .imul, 1), (30, .iaload, 1), (31, .goto 4, 3), (34, .iconst 0, 1), (35, .aload_n 0, 1), (36, .iload_n 1, 1), (37, .aload_n 0, 1), (38, .invokevirtual 420, 3), (41, .iconst 1, 1), (42, .iload_n 2, 1), (43, .ishl, 1), (44, .iconst (-1), 1), (45, .ixor, 1), (46, .iand, 1), (47, .aload_n 0, 1), (48, .getfield 67, 3), (51, .bipush 66, 2), (53, .iaload, 1), (54, .iload_n 3, 1), (55, .iadd, 1), (56, .invokevirtual 423, 3), (59, .iadd, 1), (60, .ireturn, 1)]
def aM_X12_spited : aM := (yX12_spited, cX12_spited, 4, (some .int), aC_RX12, aL_X12_spited, 1928)
def aL_X12_spite : List (Nat × Instr × Nat) := [(0, .aload_n 0, 1), (1, .iconst 0, 1), (2, .putfield 117, 3), (5, .aload_n 0, 1), (6, .iload_n 1, 1), (7, .invokevirtual 330, 3), (10, .ifCond .eq 20, 3), (13, .aload_n 0, 1), (14, .invokevirtual 420, 3), (17, .ifCond .eq 13, 3), (20, .iload_n 2, 1), (21, .i2l, 1), (22, .lconst 0, 1), (23, .lconst 1, 1), (24, .invokestatic 238, 3), (27, .ifCond .ne 5, 3), (30, .iconst (-1), 1), (31, .ireturn, 1), (32, .aload_n 0, 1), (33, .invokevirtual 412, 3), (36, .iconst (-1), 1), (37, .istore_n 3, 1), (38, .iconst 0, 1), (39, .istore 4, 2), (41, .iconst 0, 1), (42, .istore 5, 2), (44, .iload 5, 2), (46, .aload_n 0, 1), (47, .getfield 301, 3), (50, .if_icmp .ge 52, 3), (53, .aload_n 0, 1), (54, .iload 5, 2), (56, .invokevirtual 354, 3), (59, .ifCond .ne 6, 3), (62, .goto 34, 3), (65, .aload_n 0, 1), (66, .iload_n 1, 1), (67, .iload 5, 2), (69, .invokevirtual 434, 3), (72, .istore 6, 2), (74, .iload_n 3, 1), (75, .iconst (-1), 1), (76, .if_icmp .eq 13, 3), (79, .iload 6, 2), (81, .iload 4, 2), (83, .if_icmp .lt 6, 3), (86, .goto 10, 3), (89, .iload 5, 2), (91, .istore_n 3, 1), (92, .iload 6, 2), (94, .istore 4, 2), (96, .iinc 5 1, 3), (99, .goto (-55), 3), (102, .iload_n 2, 1), (103, .ifCond .ne 7, 3), (106, .iload_n 3, 1), (107, .goto 5, 3), (110, .iload 4, 2), (112, .ireturn, 1)]
def aM_X12_spite : aM := (yX12_spite, cX12_spite, 7, (some .int), aC_RX12, aL_X12_spite, 1924)
def aL_X12_worthBy : List (Nat × Instr × Nat) := [(0, .aload_n 0, 1), (1, .aload_n 0, 1), (2, .getfield 13, 3), (5, .sipush 240, 3), (8, .iload_n 1, 1), (9, .imul, 1), (10, .aload_n 0, 1), (11, .getfield 16, 3), (14, .iload_n 1, 1), (15, .iaload, 1), (16, .invokevirtual 287, 3), (19, .aload_n 0, 1), (20, .getfield 225, 3), (23, .ireturn, 1)]
def aM_X12_worthBy : aM := (yX12_worthBy, cX12_worthBy, 2, (some .int), aC_RX12, aL_X12_worthBy, 1940)
def aL_X12_wishOf : List (Nat × Instr × Nat) := [(0, .aload_n 0, 1), (1, .getfield 70, 3), (4, .iconst (-1), 1), (5, .if_icmp .ne 12, 3), (8, .aload_n 0, 1), (9, .getfield 37, 3), (12, .iconst 4, 1), (13, .iload_n 2, 1), (14, .imul, 1), (15, .iaload, 1), (16, .ireturn, 1), (17, .iconst 0, 1), (18, .istore_n 3, 1), (19, .iconst 0, 1), (20, .istore 4, 2), (22, .iload 4, 2), (24, .iconst 5, 1), (25, .if_icmp .ge 19, 3), (28, .iload_n 3, 1), (29, .aload_n 0, 1), (30, .iload_n 1, 1), (31, .iload 4, 2), (33, .invokevirtual 335, 3), (36, .iadd, 1), (37, .istore_n 3, 1), (38, .iinc 4 1, 3), (41, .goto (-19), 3), (44, .aload_n 0, 1), (45, .getfield 20, 3), (48, .bipush 118, 2), (50, .aload_n 0, 1), (51, .getfield 37, 3), (54, .iconst 4, 1), (55, .iload_n 2, 1), (56, .imul, 1), (57, .iaload, 1), (58, .iastore, 1), (59, .aload_n 0, 1), (60, .getfield 20, 3), (63, .bipush 107, 2), (65, .aload_n 0, 1), (66, .getfield 49, 3), (69, .bipush 6, 2), (71, .iload_n 1, 1), (72, .imul, 1), (73, .iconst 5, 1), (74, .iadd, 1), (75, .iaload, 1), (76, .iastore, 1), (77, .aload_n 0, 1), (78, .getfield 20, 3), (81, .bipush 115, 2), (83, .iload_n 3, 1), (84, .iastore, 1), (85, .aload_n 0, 1), (86, .getfield 20, 3), (89, .bipush 100, 2), (91, .aload_n 0, 1), (92, .iload_n 2, 1), (93, .invokevirtual 354, 3), (96, .ifCond .eq 16, 3), (99, .iconst 0, 1), (100, .aload_n 0, 1), (101, .iload_n 1, 1), (102, .iload_n 2, 1), (103, .invokevirtual 357, 3), (106, .invokestatic 418, 3), (109, .goto 4, 3), (112, .iconst 0, 1), (113, .iastore, 1), (114, .aload_n 0, 1), (115, .getfield 20, 3), (118, .bipush 110, 2), (120, .aload_n 0, 1), (121, .iload_n 2, 1), (122, .invokevirtual 310, 3), (125, .aload_n 0, 1), (126, .iload_n 2, 1), (127, .invokevirtual 327, 3), (130, .isub, 1), (131, .iastore, 1), (132, .aload_n 0, 1), (133, .getfield 20, 3), (136, .bipush 112, 2), (138, .iconst 0, 1), (139, .iastore, 1), (140, .aload_n 0, 1), (141, .getfield 20, 3), (144, .bipush 99, 2), (146, .iconst 0, 1), (147, .iastore, 1), (148, .aload_n 0, 1), (149, .getfield 20, 3), (152, .bipush 105, 2), (154, .iconst 0, 1), (155, .iastore, 1), (156, .aload_n 0, 1), (157, .aload_n 0, 1), (158, .getfield 70, 3), (161, .invokevirtual 437, 3), (164, .ireturn, 1)]
def aM_X12_wishOf : aM := (yX12_wishOf, cX12_wishOf, 5, (some .int), aC_RX12, aL_X12_wishOf, 1936)
def aL_X12_wish : List (Nat × Instr × Nat) := [(0, .aload_n 0, 1), (1, .iconst 0, 1), (2, .putfield 117, 3), (5, .aload_n 0, 1), (6, .iload_n 1, 1), (7, .invokevirtual 330, 3), (10, .ifCond .eq 20, 3), (13, .aload_n 0, 1), (14, .iload_n 2, 1), (15, .invokevirtual 322, 3), (18, .ifCond .eq 12, 3), (21, .aload_n 0, 1), (22, .iload_n 1, 1), (23, .iload_n 2, 1), (24, .invokevirtual 440, 3), (27, .goto 6, 3), (30, .ldc_w 443, 3), (33, .ireturn, 1)]
def aM_X12_wish : aM := (yX12_wish, cX12_wish, 3, (some .int), aC_RX12, aL_X12_wish, 1932)
def aL_X12_gainOf : List (Nat × Instr × Nat) := [(0, .aload_n 0, 1), (1, .getfield 102, 3), (4, .iload_n 1, 1), (5, .iaload, 1), (6, .istore_n 2, 1), (7, .iload_n 2, 1), (8, .bipush 9, 2), (10, .if_icmp .ne 5, 3), (13, .iconst 0, 1), (14, .ireturn, 1), (15, .iconst (-1), 1), (16, .istore_n 3, 1), (17, .iconst 0, 1), (18, .istore 4, 2), (20, .iload 4, 2), (22, .aload_n 0, 1), (23, .getfield 304, 3), (26, .if_icmp .ge 62, 3), (29, .aload_n 0, 1), (30, .getfield 102, 3), (33, .iload 4, 2), (35, .iaload, 1), (36, .iload_n 2, 1), (37, .if_icmp .ne 45, 3), (40, .aload_n 0, 1), (41, .iload_n 2, 1), (42, .aload_n 0, 1), (43, .iload 4, 2), (45, .iload_n 2, 1), (46, .invokevirtual 357, 3), (49, .invokevirtual 360, 3), (52, .ifCond .ne 6, 3), (55, .goto 27, 3), (58, .iload_n 3, 1), (59, .iconst (-1), 1), (60, .if_icmp .eq 19, 3), (63, .aload_n 0, 1), (64, .iload 4, 2), (66, .iload_n 2, 1), (67, .invokevirtual 357, 3), (70, .aload_n 0, 1), (71, .iload_n 3, 1), (72, .iload_n 2, 1), (73, .invokevirtual 357, 3), (76, .if_icmp .ge 6, 3), (79, .iload 4, 2), (81, .istore_n 3, 1), (82, .iinc 4 1, 3), (85, .goto (-65), 3), (88, .iload_n 3, 1), (89, .iload_n 1, 1), (90, .if_icmp .ne 12, 3), (93, .aload_n 0, 1), (94, .iload_n 1, 1), (95, .iload_n 2, 1), (96, .invokevirtual 440, 3), (99, .goto 4, 3), (102, .iconst 0, 1), (103, .ireturn, 1)]
def aM_X12_gainOf : aM := (yX12_gainOf, cX12_gainOf, 5, (some .int), aC_RX12, aL_X12_gainOf, 1953)
def aL_X12_layRow : List (Nat × Instr × Nat) := [(0, .iload_n 1, 1), (1, .ifCond .ge 5, 3), (4, .iconst 0, 1), (5, .ireturn, 1), (6, .iload_n 1, 1), (7, .istore_n 2, 1), (8, .aload_n 0, 1), (9, .getfield 304, 3), (12, .iconst 1, 1), (13, .isub, 1), (14, .istore_n 3, 1), (15, .iload_n 3, 1), (16, .ifCond .lt 50, 3), (19, .aload_n 0, 1), (20, .getfield 102, 3), (23, .iload_n 3, 1), (24, .iload_n 2, 1), (25, .bipush 10, 2), (27, .irem, 1), (28, .iastore, 1), (29, .iload_n 2, 1), (30, .bipush 10, 2), (32, .idiv, 1), (33, .istore_n 2, 1), (34, .aload_n 0, 1), (35, .getfield 102, 3), (38, .iload_n 3, 1), (39, .iaload, 1), (40, .bipush 9, 2), (42, .if_icmp .eq 18, 3), (45, .aload_n 0, 1), (46, .aload_n 0, 1), (47, .getfield 102, 3), (50, .iload_n 3, 1), (51, .iaload, 1), (52, .invokevirtual 354, 3), (55, .ifCond .ne 5, 3), (58, .iconst 0, 1), (59, .ireturn, 1), (60, .iinc 3 (-1), 3), (63, .goto (-48), 3), (66, .iload_n 2, 1), (67, .ifCond .ne 7, 3), (70, .iconst 1, 1), (71, .goto 4, 3), (74, .iconst 0, 1), (75, .ireturn, 1)]
def aM_X12_layRow : aM := (yX12_layRow, cX12_layRow, 4, (some .boolean), aC_RX12, aL_X12_layRow, 1949)
def aL_X12_gains : List (Nat × Instr × Nat) := [(0, .aload_n 0, 1), (1, .iconst 0, 1), (2, .putfield 117, 3), (5, .aload_n 0, 1), (6, .iload_n 2, 1), (7, .invokevirtual 330, 3), (10, .ifCond .eq 27, 3), (13, .aload_n 0, 1), (14, .getfield 304, 3), (17, .iconst 4, 1), (18, .if_icmp .gt 19, 3), (21, .aload_n 0, 1), (22, .iload_n 1, 1), (23, .invokevirtual 444, 3), (26, .ifCond .eq 11, 3), (29, .aload_n 0, 1), (30, .iload_n 2, 1), (31, .invokevirtual 447, 3), (34, .goto 6, 3), (37, .ldc_w 443, 3), (40, .ireturn, 1)]
def aM_X12_gains : aM := (yX12_gains, cX12_gains, 3, (some .int), aC_RX12, aL_X12_gains, 1945)
def aL_X12_isRest : List (Nat × Instr × Nat) := [(0, .iconst 0, 1), (1, .istore_n 1, 1), (2, .iload_n 1, 1), (3, .aload_n 0, 1), (4, .getfield 304, 3), (7, .if_icmp .ge 103, 3), (10, .aload_n 0, 1), (11, .getfield 102, 3), (14, .iload_n 1, 1), (15, .iaload, 1), (16, .istore_n 2, 1), (17, .aload_n 0, 1), (18, .iload_n 1, 1), (19, .invokevirtual 447, 3), (22, .istore_n 3, 1), (23, .iconst 0, 1), (24, .istore 4, 2), (26, .iconst 0, 1), (27, .istore 5, 2), (29, .iload 5, 2), (31, .bipush 9, 2), (33, .if_icmp .gt 57, 3), (36, .iload 5, 2), (38, .bipush 9, 2), (40, .if_icmp .eq 15, 3), (43, .aload_n 0, 1), (44, .iload 5, 2), (46, .invokevirtual 354, 3), (49, .ifCond .ne 6, 3), (52, .goto 32, 3), (55, .aload_n 0, 1), (56, .getfield 102, 3), (59, .iload_n 1, 1), (60, .iload 5, 2), (62, .iastore, 1), (63, .iload 4, 2), (65, .ifCond .ne 12, 3), (68, .aload_n 0, 1), (69, .iload_n 1, 1), (70, .invokevirtual 447, 3), (73, .iload_n 3, 1), (74, .if_icmp .le 7, 3), (77, .iconst 1, 1), (78, .goto 4, 3), (81, .iconst 0, 1), (82, .istore 4, 2), (84, .iinc 5 1, 3), (87, .goto (-58), 3), (90, .aload_n 0, 1), (91, .getfield 102, 3), (94, .iload_n 1, 1), (95, .iload_n 2, 1), (96, .iastore, 1), (97, .iload 4, 2), (99, .ifCond .eq 5, 3), (102, .iconst 0, 1), (103, .ireturn, 1), (104, .iinc 1 1, 3), (107, .goto (-105), 3), (110, .iconst 1, 1), (111, .ireturn, 1)]
def aM_X12_isRest : aM := (yX12_isRest, cX12_isRest, 6, (some .boolean), aC_RX12, aL_X12_isRest, 1965)
def aL_X12_goRests : List (Nat × Instr × Nat) := [(0, .aload_n 0, 1), (1, .getfield 450, 3), (4, .iconst (-1), 1), (5, .if_icmp .eq 4, 3), (8, .return_, 1), (9, .iload_n 1, 1), (10, .aload_n 0, 1), (11, .getfield 304, 3), (14, .if_icmp .ne 38, 3), (17, .aload_n 0, 1), (18, .invokevirtual 453, 3), (21, .ifCond .ne 4, 3), (24, .return_, 1), (25, .aload_n 0, 1), (26, .getfield 456, 3), (29, .aload_n 0, 1), (30, .getfield 459, 3), (33, .if_icmp .ne 8, 3), (36, .aload_n 0, 1), (37, .iload_n 2, 1), (38, .putfield 450, 3), (41, .aload_n 0, 1), (42, .dup, 1), (43, .getfield 456, 3), (46, .iconst 1, 1), (47, .iadd, 1), (48, .putfield 456, 3), (51, .return_, 1), (52, .iconst 0, 1), (53, .istore_n 3, 1), (54, .iload_n 3, 1), (55, .bipush 9, 2), (57, .if_icmp .gt 46, 3), (60, .iload_n 3, 1), (61, .bipush 9, 2), (63, .if_icmp .eq 14, 3), (66, .aload_n 0, 1), (67, .iload_n 3, 1), (68, .invokevirtual 354, 3), (71, .ifCond .ne 6, 3), (74, .goto 23, 3), (77, .aload_n 0, 1), (78, .getfield 102, 3), (81, .iload_n 1, 1), (82, .iload_n 3, 1), (83, .iastore, 1), (84, .aload_n 0, 1), (85, .iload_n 1, 1), (86, .iconst 1, 1), (87, .iadd, 1), (88, .bipush 10, 2), (90, .iload_n 2, 1), (91, .imul, 1), (92, .iload_n 3, 1), (93, .iadd, 1), (94, .invokevirtual 462, 3), (97, .iinc 3 1, 3), (100, .goto (-46), 3), (103, .return_, 1)]
def aM_X12_goRests : aM := (yX12_goRests, cX12_goRests, 4, none, aC_RX12, aL_X12_goRests, 1961)
def aL_X12_rests : List (Nat × Instr × Nat) := [(0, .aload_n 0, 1), (1, .iconst 0, 1), (2, .putfield 117, 3), (5, .aload_n 0, 1), (6, .getfield 301, 3), (9, .ifCond .le 15, 3), (12, .aload_n 0, 1), (13, .getfield 304, 3), (16, .iconst 4, 1), (17, .if_icmp .le 7, 3), (20, .ldc_w 443, 3), (23, .ireturn, 1), (24, .aload_n 0, 1), (25, .getfield 301, 3), (28, .ifCond .eq 8, 3), (31, .iload_n 1, 1), (32, .iconst (-1), 1), (33, .if_icmp .ge 5, 3), (36, .iconst (-1), 1), (37, .ireturn, 1), (38, .aload_n 0, 1), (39, .iconst 0, 1), (40, .putfield 456, 3), (43, .aload_n 0, 1), (44, .iload_n 1, 1), (45, .putfield 459, 3), (48, .aload_n 0, 1), (49, .iconst (-1), 1), (50, .putfield 450, 3), (53, .aload_n 0, 1), (54, .iconst 0, 1), (55, .iconst 0, 1), (56, .invokevirtual 462, 3), (59, .iload_n 1, 1), (60, .iconst (-1), 1), (61, .if_icmp .ne 10, 3), (64, .aload_n 0, 1), (65, .getfield 456, 3), (68, .goto 7, 3), (71, .aload_n 0, 1), (72, .getfield 450, 3), (75, .ireturn, 1)]
def aM_X12_rests : aM := (yX12_rests, cX12_rests, 2, (some .int), aC_RX12, aL_X12_rests, 1957)
def aL_X12_isRow : List (Nat × Instr × Nat) := [(0, .iload_n 1, 1), (1, .ifCond .lt 15, 3), (4, .iload_n 1, 1), (5, .aload_n 0, 1), (6, .getfield 296, 3), (9, .if_icmp .ge 7, 3), (12, .iconst 1, 1), (13, .goto 4, 3), (16, .iconst 0, 1), (17, .ireturn, 1)]
def aM_X12_isRow : aM := (yX12_isRow, cX12_isRow, 2, (some .boolean), aC_RX12, aL_X12_isRow, 1973)
def aL_X12_isLaw : List (Nat × Instr × Nat) := [(0, .iload_n 1, 1), (1, .ifCond .lt 15, 3), (4, .iload_n 1, 1), (5, .aload_n 0, 1), (6, .getfield 293, 3), (9, .if_icmp .ge 7, 3), (12, .iconst 1, 1), (13, .goto 4, 3), (16, .iconst 0, 1), (17, .ireturn, 1)]
def aM_X12_isLaw : aM := (yX12_isLaw, cX12_isLaw, 2, (some .boolean), aC_RX12, aL_X12_isLaw, 1977)
def aL_X12_tens : List (Nat × Instr × Nat) := [(0, .iconst 1, 1), (1, .istore_n 1, 1), (2, .iconst 0, 1), (3, .istore_n 2, 1), (4, .iload_n 2, 1), (5, .iload_n 0, 1), (6, .if_icmp .ge 14, 3), (9, .iload_n 1, 1), (10, .bipush 10, 2), (12, .imul, 1), (13, .istore_n 1, 1), (14, .iinc 2 1, 3), (17, .goto (-13), 3), (20, .iload_n 1, 1), (21, .ireturn, 1)]
def aM_X12_tens : aM := (yX12_tens, cX12_tens, 3, (some .int), aC_RX12, aL_X12_tens, 1980)
def aL_X12_isFit : List (Nat × Instr × Nat) := [(0, .iload 4, 2), (2, .bipush 10, 2), (4, .irem, 1), (5, .ifCond .eq 5, 3), (8, .iconst 0, 1), (9, .ireturn, 1), (10, .aload_n 0, 1), (11, .getfield 61, 3), (14, .bipush 12, 2), (16, .iload_n 1, 1), (17, .imul, 1), (18, .aload_n 0, 1), (19, .getfield 64, 3), (22, .iload_n 1, 1), (23, .iaload, 1), (24, .iadd, 1), (25, .iconst 1, 1), (26, .isub, 1), (27, .iaload, 1), (28, .istore 5, 2), (30, .iconst 0, 1), (31, .istore 6, 2), (33, .iload 6, 2), (35, .iload_n 3, 1), (36, .if_icmp .ge 114, 3), (39, .iload 4, 2), (41, .iload_n 3, 1), (42, .iconst 1, 1), (43, .isub, 1), (44, .iload 6, 2), (46, .isub, 1), (47, .invokestatic 465, 3), (50, .idiv, 1), (51, .bipush 10, 2), (53, .irem, 1), (54, .istore 7, 2), (56, .aload_n 0, 1), (57, .getfield 20, 3), (60, .bipush 118, 2), (62, .iconst 0, 1), (63, .iastore, 1), (64, .aload_n 0, 1), (65, .getfield 20, 3), (68, .bipush 107, 2), (70, .iconst 0, 1), (71, .iastore, 1), (72, .aload_n 0, 1), (73, .getfield 20, 3), (76, .bipush 115, 2), (78, .iconst 0, 1), (79, .iastore, 1), (80, .aload_n 0, 1), (81, .getfield 20, 3), (84, .bipush 100, 2), (86, .iconst 0, 1), (87, .iastore, 1), (88, .aload_n 0, 1), (89, .getfield 20, 3), (92, .bipush 110, 2), (94, .iconst 0, 1), (95, .iastore, 1), (96, .aload_n 0, 1), (97, .getfield 20, 3), (100, .bipush 112, 2), (102, .iload 5, 2), (104, .iastore, 1), (105, .aload_n 0, 1), (106, .getfield 20, 3), (109, .bipush 99, 2), (111, .iload 7, 2), (113, .iastore, 1), (114, .aload_n 0, 1), (115, .getfield 20, 3), (118, .bipush 105, 2), (120, .aload_n 0, 1), (121, .getfield 64, 3), (124, .iload_n 1, 1), (125, .iaload, 1), (126, .iload 6, 2), (128, .iadd, 1), (129, .iastore, 1), (130, .aload_n 0, 1), (131, .iload_n 2, 1), (132, .invokevirtual 437, 3), (135, .ifCond .gt 5, 3), (138, .iconst 0, 1), (139, .ireturn, 1), (140, .iload 7, 2), (142, .istore 5, 2), (144, .iinc 6 1, 3), (147, .goto (-114), 3), (150, .iconst 1, 1), (151, .ireturn, 1)]
def aM_X12_isFit : aM := (yX12_isFit, cX12_isFit, 8, (some .boolean), aC_RX12, aL_X12_isFit, 1984)
def aL_X12_ends : List (Nat × Instr × Nat) := [(0, .aload_n 0, 1), (1, .iconst 0, 1), (2, .putfield 117, 3), (5, .aload_n 0, 1), (6, .iload_n 1, 1), (7, .invokevirtual 468, 3), (10, .ifCond .eq 29, 3), (13, .aload_n 0, 1), (14, .iload_n 2, 1), (15, .invokevirtual 471, 3), (18, .ifCond .eq 21, 3), (21, .iload_n 3, 1), (22, .i2l, 1), (23, .lconst 1, 1), (24, .ldc2_w 339, 3), (27, .invokestatic 238, 3), (30, .ifCond .eq 9, 3), (33, .iload 4, 2), (35, .iconst (-1), 1), (36, .if_icmp .ge 5, 3), (39, .iconst (-1), 1), (40, .ireturn, 1), (41, .iconst 0, 1), (42, .istore 5, 2), (44, .iconst 1, 1), (45, .istore 6, 2), (47, .iload 6, 2), (49, .iload_n 3, 1), (50, .if_icmp .gt 63, 3), (53, .iconst 0, 1), (54, .istore 7, 2), (56, .iload 7, 2), (58, .iload 6, 2), (60, .invokestatic 465, 3), (63, .if_icmp .ge 44, 3), (66, .aload_n 0, 1), (67, .iload_n 1, 1), (68, .iload_n 2, 1), (69, .iload 6, 2), (71, .iload 7, 2), (73, .invokevirtual 474, 3), (76, .ifCond .ne 6, 3), (79, .goto 22, 3), (82, .iload 5, 2), (84, .iload 4, 2), (86, .if_icmp .ne 12, 3), (89, .iload 6, 2), (91, .invokestatic 465, 3), (94, .iload 7, 2), (96, .iadd, 1), (97, .ireturn, 1), (98, .iinc 5 1, 3), (101, .iinc 7 10, 3), (104, .goto (-48), 3), (107, .iinc 6 1, 3), (110, .goto (-63), 3), (113, .iload 4, 2), (115, .iconst (-1), 1), (116, .if_icmp .ne 8, 3), (119, .iload 5, 2), (121, .goto 4, 3), (124, .iconst (-1), 1), (125, .ireturn, 1)]
def aM_X12_ends : aM := (yX12_ends, cX12_ends, 8, (some .int), aC_RX12, aL_X12_ends, 1969)
def aL_X12_shortest : List (Nat × Instr × Nat) := [(0, .aload_n 0, 1), (1, .iconst 0, 1), (2, .putfield 117, 3), (5, .aload_n 0, 1), (6, .iload_n 1, 1), (7, .invokevirtual 468, 3), (10, .ifCond .eq 23, 3), (13, .aload_n 0, 1), (14, .iload_n 2, 1), (15, .invokevirtual 471, 3), (18, .ifCond .eq 15, 3), (21, .iload_n 3, 1), (22, .i2l, 1), (23, .lconst 1, 1), (24, .ldc2_w 339, 3), (27, .invokestatic 238, 3), (30, .ifCond .ne 5, 3), (33, .iconst (-1), 1), (34, .ireturn, 1), (35, .iconst 1, 1), (36, .istore 4, 2), (38, .iload 4, 2), (40, .iload_n 3, 1), (41, .if_icmp .gt 44, 3), (44, .iconst 0, 1), (45, .istore 5, 2), (47, .iload 5, 2), (49, .iload 4, 2), (51, .invokestatic 465, 3), (54, .if_icmp .ge 25, 3), (57, .aload_n 0, 1), (58, .iload_n 1, 1), (59, .iload_n 2, 1), (60, .iload 4, 2), (62, .iload 5, 2), (64, .invokevirtual 474, 3), (67, .ifCond .eq 6, 3), (70, .iload 4, 2), (72, .ireturn, 1), (73, .iinc 5 10, 3), (76, .goto (-29), 3), (79, .iinc 4 1, 3), (82, .goto (-44), 3), (85, .iconst (-1), 1), (86, .ireturn, 1)]
def aM_X12_shortest : aM := (yX12_shortest, cX12_shortest, 6, (some .int), aC_RX12, aL_X12_shortest, 1988)
def aL_X12_judgedOf : List (Nat × Instr × Nat) := [(0, .iconst 0, 1), (1, .istore 4, 2), (3, .iconst 0, 1), (4, .istore 5, 2), (6, .iload 5, 2), (8, .aload_n 0, 1), (9, .getfield 293, 3), (12, .if_icmp .ge 34, 3), (15, .iload 4, 2), (17, .aload_n 0, 1), (18, .iload_n 1, 1), (19, .iload 5, 2), (21, .iload_n 2, 1), (22, .iload_n 3, 1), (23, .invokevirtual 474, 3), (26, .ifCond .eq 10, 3), (29, .iconst 1, 1), (30, .iload 5, 2), (32, .ishl, 1), (33, .goto 4, 3), (36, .iconst 0, 1), (37, .ior, 1), (38, .istore 4, 2), (40, .iinc 5 1, 3), (43, .goto (-37), 3), (46, .iload 4, 2), (48, .ireturn, 1)]
def aM_X12_judgedOf : aM := (yX12_judgedOf, cX12_judgedOf, 6, (some .int), aC_RX12, aL_X12_judgedOf, 1996)
def aL_X12_judged : List (Nat × Instr × Nat) := [(0, .aload_n 0, 1), (1, .iconst 0, 1), (2, .putfield 117, 3), (5, .aload_n 0, 1), (6, .iload_n 1, 1), (7, .invokevirtual 468, 3), (10, .ifCond .eq 37, 3), (13, .iload_n 2, 1), (14, .i2l, 1), (15, .lconst 1, 1), (16, .ldc2_w 339, 3), (19, .invokestatic 238, 3), (22, .ifCond .eq 25, 3), (25, .iload_n 3, 1), (26, .ifCond .lt 21, 3), (29, .iload_n 3, 1), (30, .iload_n 2, 1), (31, .invokestatic 465, 3), (34, .if_icmp .ge 13, 3), (37, .aload_n 0, 1), (38, .iload_n 1, 1), (39, .iload_n 2, 1), (40, .iload_n 3, 1), (41, .invokevirtual 478, 3), (44, .goto 4, 3), (47, .iconst (-1), 1), (48, .ireturn, 1)]
def aM_X12_judged : aM := (yX12_judged, cX12_judged, 4, (some .int), aC_RX12, aL_X12_judged, 1992)
def aL_X12_dearest : List (Nat × Instr × Nat) := [(0, .aload_n 0, 1), (1, .iconst 0, 1), (2, .putfield 117, 3), (5, .aload_n 0, 1), (6, .iload_n 1, 1), (7, .invokevirtual 468, 3), (10, .ifCond .eq 25, 3), (13, .iload_n 2, 1), (14, .i2l, 1), (15, .lconst 1, 1), (16, .ldc2_w 339, 3), (19, .invokestatic 238, 3), (22, .ifCond .eq 13, 3), (25, .iload_n 3, 1), (26, .i2l, 1), (27, .lconst 0, 1), (28, .lconst 1, 1), (29, .invokestatic 238, 3), (32, .ifCond .ne 5, 3), (35, .iconst (-1), 1), (36, .ireturn, 1), (37, .iconst (-1), 1), (38, .istore 4, 2), (40, .iconst 0, 1), (41, .istore 5, 2), (43, .iconst 1, 1), (44, .istore 6, 2), (46, .iload 6, 2), (48, .iload_n 2, 1), (49, .if_icmp .gt 66, 3), (52, .iconst 0, 1), (53, .istore 7, 2), (55, .iload 7, 2), (57, .iload 6, 2), (59, .invokestatic 465, 3), (62, .if_icmp .ge 47, 3), (65, .aload_n 0, 1), (66, .iload_n 1, 1), (67, .iload 6, 2), (69, .iload 7, 2), (71, .invokevirtual 478, 3), (74, .invokestatic 369, 3), (77, .istore 8, 2), (79, .iload 8, 2), (81, .iload 5, 2), (83, .if_icmp .gt 6, 3), (86, .goto 17, 3), (89, .iload 6, 2), (91, .invokestatic 465, 3), (94, .iload 7, 2), (96, .iadd, 1), (97, .istore 4, 2), (99, .iload 8, 2), (101, .istore 5, 2), (103, .iinc 7 10, 3), (106, .goto (-51), 3), (109, .iinc 6 1, 3), (112, .goto (-66), 3), (115, .iload 4, 2), (117, .iconst (-1), 1), (118, .if_icmp .eq 7, 3), (121, .iload_n 3, 1), (122, .ifCond .ne 8, 3), (125, .iload 4, 2), (127, .goto 5, 3), (130, .iload 5, 2), (132, .ireturn, 1)]
def aM_X12_dearest : aM := (yX12_dearest, cX12_dearest, 9, (some .int), aC_RX12, aL_X12_dearest, 2000)
def aL_X12_sign : List (Nat × Instr × Nat) := [(0, .aload_n 0, 1), (1, .iconst 0, 1), (2, .putfield 117, 3), (5, .aload_n 0, 1), (6, .iload_n 1, 1), (7, .invokevirtual 468, 3), (10, .ifCond .eq 23, 3), (13, .iload_n 2, 1), (14, .i2l, 1), (15, .ldc2_w 481, 3), (18, .aload_n 0, 1), (19, .getfield 64, 3), (22, .iload_n 1, 1), (23, .iaload, 1), (24, .iconst 1, 1), (25, .isub, 1), (26, .i2l, 1), (27, .invokestatic 238, 3), (30, .ifCond .ne 5, 3), (33, .iconst (-1), 1), (34, .ireturn, 1), (35, .iload_n 2, 1), (36, .iconst (-1), 1), (37, .if_icmp .ne 12, 3), (40, .aload_n 0, 1), (41, .getfield 64, 3), (44, .iload_n 1, 1), (45, .iaload, 1), (46, .goto 14, 3), (49, .aload_n 0, 1), (50, .getfield 61, 3), (53, .bipush 12, 2), (55, .iload_n 1, 1), (56, .imul, 1), (57, .iload_n 2, 1), (58, .iadd, 1), (59, .iaload, 1), (60, .ireturn, 1)]
def aM_X12_sign : aM := (yX12_sign, cX12_sign, 3, (some .int), aC_RX12, aL_X12_sign, 2004)
def aL_X12_ended : List (Nat × Instr × Nat) := [(0, .aload_n 0, 1), (1, .iconst 0, 1), (2, .putfield 117, 3), (5, .aload_n 0, 1), (6, .iload_n 1, 1), (7, .invokevirtual 322, 3), (10, .ifCond .eq 32, 3), (13, .aload_n 0, 1), (14, .iload_n 2, 1), (15, .invokevirtual 330, 3), (18, .ifCond .eq 24, 3), (21, .iload_n 3, 1), (22, .i2l, 1), (23, .lconst 1, 1), (24, .ldc2_w 380, 3), (27, .invokestatic 238, 3), (30, .ifCond .eq 12, 3), (33, .aload_n 0, 1), (34, .getfield 313, 3), (37, .bipush 12, 2), (39, .if_icmp .ne 5, 3), (42, .iconst (-1), 1), (43, .ireturn, 1), (44, .aload_n 0, 1), (45, .getfield 105, 3), (48, .aload_n 0, 1), (49, .getfield 313, 3), (52, .iload_n 1, 1), (53, .iastore, 1), (54, .aload_n 0, 1), (55, .getfield 108, 3), (58, .aload_n 0, 1), (59, .getfield 313, 3), (62, .iload_n 2, 1), (63, .iastore, 1), (64, .aload_n 0, 1), (65, .getfield 111, 3), (68, .aload_n 0, 1), (69, .getfield 313, 3), (72, .iload_n 3, 1), (73, .iastore, 1), (74, .aload_n 0, 1), (75, .dup, 1), (76, .getfield 313, 3), (79, .iconst 1, 1), (80, .iadd, 1), (81, .putfield 313, 3), (84, .aload_n 0, 1), (85, .getfield 313, 3), (88, .ireturn, 1)]
def aM_X12_ended : aM := (yX12_ended, cX12_ended, 4, (some .int), aC_RX12, aL_X12_ended, 2009)
def aL_X12_stood : List (Nat × Instr × Nat) := [(0, .aload_n 0, 1), (1, .iconst 0, 1), (2, .putfield 117, 3), (5, .aload_n 0, 1), (6, .iload_n 1, 1), (7, .invokevirtual 322, 3), (10, .ifCond .ne 5, 3), (13, .iconst (-1), 1), (14, .ireturn, 1), (15, .iconst 0, 1), (16, .istore_n 2, 1), (17, .iconst 0, 1), (18, .istore_n 3, 1), (19, .iload_n 3, 1), (20, .aload_n 0, 1), (21, .iload_n 1, 1), (22, .invokevirtual 310, 3), (25, .if_icmp .gt 91, 3), (28, .iconst 1, 1), (29, .istore 4, 2), (31, .iconst 0, 1), (32, .istore 5, 2), (34, .iload 5, 2), (36, .aload_n 0, 1), (37, .getfield 313, 3), (40, .if_icmp .ge 55, 3), (43, .iload 4, 2), (45, .ifCond .eq 41, 3), (48, .aload_n 0, 1), (49, .getfield 105, 3), (52, .iload 5, 2), (54, .iaload, 1), (55, .iload_n 1, 1), (56, .if_icmp .ne 26, 3), (59, .aload_n 0, 1), (60, .aload_n 0, 1), (61, .getfield 108, 3), (64, .iload 5, 2), (66, .iaload, 1), (67, .iload_n 1, 1), (68, .iload_n 3, 1), (69, .invokevirtual 351, 3), (72, .aload_n 0, 1), (73, .getfield 111, 3), (76, .iload 5, 2), (78, .iaload, 1), (79, .if_icmp .ne 7, 3), (82, .iconst 1, 1), (83, .goto 4, 3), (86, .iconst 0, 1), (87, .istore 4, 2), (89, .iinc 5 1, 3), (92, .goto (-58), 3), (95, .iload_n 2, 1), (96, .iload 4, 2), (98, .ifCond .eq 9, 3), (101, .iconst 1, 1), (102, .iload_n 3, 1), (103, .ishl, 1), (104, .goto 4, 3), (107, .iconst 0, 1), (108, .ior, 1), (109, .istore_n 2, 1), (110, .iinc 3 1, 3), (113, .goto (-94), 3), (116, .iload_n 2, 1), (117, .ireturn, 1)]
def aM_X12_stood : aM := (yX12_stood, cX12_stood, 6, (some .int), aC_RX12, aL_X12_stood, 2013)
def aL_X12_sold : List (Nat × Instr × Nat) := [(0, .aload_n 0, 1), (1, .iconst 0, 1), (2, .putfield 117, 3), (5, .aload_n 0, 1), (6, .getfield 301, 3), (9, .ifCond .ne 5, 3), (12, .iconst (-1), 1), (13, .ireturn, 1), (14, .iconst 0, 1), (15, .istore_n 1, 1), (16, .iconst 0, 1), (17, .istore_n 2, 1), (18, .iload_n 2, 1), (19, .aload_n 0, 1), (20, .getfield 301, 3), (23, .if_icmp .ge 61, 3), (26, .iload_n 1, 1), (27, .aload_n 0, 1), (28, .iload_n 2, 1), (29, .invokevirtual 354, 3), (32, .ifCond .eq 43, 3), (35, .aload_n 0, 1), (36, .iload_n 2, 1), (37, .invokevirtual 363, 3), (40, .ifCond .ne 35, 3), (43, .aload_n 0, 1), (44, .iload_n 2, 1), (45, .aload_n 0, 1), (46, .iload_n 2, 1), (47, .iconst 1, 1), (48, .aload_n 0, 1), (49, .getfield 304, 3), (52, .ishl, 1), (53, .iconst 1, 1), (54, .isub, 1), (55, .invokevirtual 366, 3), (58, .invokevirtual 360, 3), (61, .ifCond .eq 14, 3), (64, .aload_n 0, 1), (65, .getfield 37, 3), (68, .iconst 4, 1), (69, .iload_n 2, 1), (70, .imul, 1), (71, .iaload, 1), (72, .goto 4, 3), (75, .iconst 0, 1), (76, .iadd, 1), (77, .istore_n 1, 1), (78, .iinc 2 1, 3), (81, .goto (-63), 3), (84, .iload_n 1, 1), (85, .ireturn, 1)]
def aM_X12_sold : aM := (yX12_sold, cX12_sold, 3, (some .int), aC_RX12, aL_X12_sold, 2017)
def aL_X12_image : List (Nat × Instr × Nat) := [(0, .aload_n 0, 1), (1, .iconst 0, 1), (2, .putfield 117, 3), (5, .aload_n 0, 1), (6, .getfield 301, 3), (9, .ifCond .ne 5, 3), (12, .iconst (-1), 1), (13, .ireturn, 1), (14, .iconst 0, 1), (15, .istore_n 1, 1), (16, .iload_n 1, 1), (17, .bipush 67, 2), (19, .if_icmp .ge 21, 3), (22, .aload_n 0, 1), (23, .getfield 114, 3), (26, .iload_n 1, 1), (27, .aload_n 0, 1), (28, .getfield 67, 3), (31, .iload_n 1, 1), (32, .iaload, 1), (33, .iastore, 1), (34, .iinc 1 1, 3), (37, .goto (-21), 3), (40, .aload_n 0, 1), (41, .iconst 1, 1), (42, .putfield 319, 3), (45, .aload_n 0, 1), (46, .getfield 67, 3), (49, .bipush 66, 2), (51, .iaload, 1), (52, .ireturn, 1)]
def aM_X12_image : aM := (yX12_image, cX12_image, 2, (some .int), aC_RX12, aL_X12_image, 2021)
def aL_X12_back : List (Nat × Instr × Nat) := [(0, .aload_n 0, 1), (1, .iconst 0, 1), (2, .putfield 117, 3), (5, .aload_n 0, 1), (6, .getfield 319, 3), (9, .ifCond .ne 5, 3), (12, .iconst (-1), 1), (13, .ireturn, 1), (14, .iconst 0, 1), (15, .istore_n 1, 1), (16, .iload_n 1, 1), (17, .bipush 67, 2), (19, .if_icmp .ge 21, 3), (22, .aload_n 0, 1), (23, .getfield 67, 3), (26, .iload_n 1, 1), (27, .aload_n 0, 1), (28, .getfield 114, 3), (31, .iload_n 1, 1), (32, .iaload, 1), (33, .iastore, 1), (34, .iinc 1 1, 3), (37, .goto (-21), 3), (40, .aload_n 0, 1), (41, .iconst 0, 1), (42, .putfield 316, 3), (45, .aload_n 0, 1), (46, .getfield 67, 3), (49, .bipush 66, 2), (51, .iaload, 1), (52, .ireturn, 1)]
def aM_X12_back : aM := (yX12_back, cX12_back, 2, (some .int), aC_RX12, aL_X12_back, 2025)
def aL_X12_thatAre : List (Nat × Instr × Nat) := [(0, .iconst 0, 1), (1, .istore_n 3, 1), (2, .iconst 0, 1), (3, .istore 4, 2), (5, .iload 4, 2), (7, .aload_n 0, 1), (8, .getfield 301, 3), (11, .if_icmp .ge 49, 3), (14, .iload_n 3, 1), (15, .aload_n 0, 1), (16, .getfield 67, 3), (19, .bipush 6, 2), (21, .iload 4, 2), (23, .imul, 1), (24, .iconst 2, 1), (25, .iadd, 1), (26, .iaload, 1), (27, .iload_n 1, 1), (28, .if_icmp .eq 7, 3), (31, .iconst 0, 1), (32, .goto 20, 3), (35, .iload_n 2, 1), (36, .ifCond .eq 15, 3), (39, .aload_n 0, 1), (40, .getfield 37, 3), (43, .iconst 4, 1), (44, .iload 4, 2), (46, .imul, 1), (47, .iaload, 1), (48, .goto 4, 3), (51, .iconst 1, 1), (52, .iadd, 1), (53, .istore_n 3, 1), (54, .iinc 4 1, 3), (57, .goto (-52), 3), (60, .iload_n 3, 1), (61, .ireturn, 1)]
def aM_X12_thatAre : aM := (yX12_thatAre, cX12_thatAre, 5, (some .int), aC_RX12, aL_X12_thatAre, 2033)
def aL_X12_count : List (Nat × Instr × Nat) := [(0, .aload_n 0, 1), (1, .iconst 0, 1), (2, .putfield 117, 3), (5, .iload_n 1, 1), (6, .tableswitch 140 0 12 #[66, 71, 76, 81, 86, 91, 96, 104, 109, 114, 119, 126, 133], 66), (72, .aload_n 0, 1), (73, .getfield 301, 3), (76, .ireturn, 1), (77, .aload_n 0, 1), (78, .getfield 304, 3), (81, .ireturn, 1), (82, .aload_n 0, 1), (83, .getfield 307, 3), (86, .ireturn, 1), (87, .aload_n 0, 1), (88, .getfield 293, 3), (91, .ireturn, 1), (92, .aload_n 0, 1), (93, .getfield 296, 3), (96, .ireturn, 1), (97, .aload_n 0, 1), (98, .getfield 130, 3), (101, .ireturn, 1), (102, .aload_n 0, 1), (103, .getfield 67, 3), (106, .bipush 66, 2), (108, .iaload, 1), (109, .ireturn, 1), (110, .aload_n 0, 1), (111, .getfield 70, 3), (114, .ireturn, 1), (115, .aload_n 0, 1), (116, .getfield 313, 3), (119, .ireturn, 1), (120, .aload_n 0, 1), (121, .getfield 316, 3), (124, .ireturn, 1), (125, .aload_n 0, 1), (126, .iconst 1, 1), (127, .iconst 0, 1), (128, .invokevirtual 483, 3), (131, .ireturn, 1), (132, .aload_n 0, 1), (133, .iconst 2, 1), (134, .iconst 0, 1), (135, .invokevirtual 483, 3), (138, .ireturn, 1), (139, .aload_n 0, 1), (140, .iconst 1, 1), (141, .iconst 1, 1), (142, .invokevirtual 483, 3), (145, .ireturn, 1), (146, .ldc_w 443, 3), (149, .ireturn, 1)]
def aM_X12_count : aM := (yX12_count, cX12_count, 2, (some .int), aC_RX12, aL_X12_count, 2029)
def aL_J6_bitCount_0f7a4 : List (Nat × Instr × Nat) := [(0, .iload_n 0, 1), (1, .iload_n 0, 1), (2, .iconst 1, 1), (3, .iushr, 1), (4, .ldc_w 265, 3), (7, .iand, 1), (8, .isub, 1), (9, .istore_n 0, 1), (10, .iload_n 0, 1), (11, .ldc_w 266, 3), (14, .iand, 1), (15, .iload_n 0, 1), (16, .iconst 2, 1), (17, .iushr, 1), (18, .ldc_w 266, 3), (21, .iand, 1), (22, .iadd, 1), (23, .istore_n 0, 1), (24, .iload_n 0, 1), (25, .iload_n 0, 1), (26, .iconst 4, 1), (27, .iushr, 1), (28, .iadd, 1), (29, .ldc_w 267, 3), (32, .iand, 1), (33, .istore_n 0, 1), (34, .iload_n 0, 1), (35, .iload_n 0, 1), (36, .bipush 8, 2), (38, .iushr, 1), (39, .iadd, 1), (40, .istore_n 0, 1), (41, .iload_n 0, 1), (42, .iload_n 0, 1), (43, .bipush 16, 2), (45, .iushr, 1), (46, .iadd, 1), (47, .istore_n 0, 1), (48, .iload_n 0, 1), (49, .bipush 63, 2), (51, .iand, 1), (52, .ireturn, 1)]
def aM_J6_bitCount_0f7a4 : aM := (yJ6_bitCount_0f7a4, cJ6_bitCount_0f7a4, 1, (some .int), aC_RJ6, aL_J6_bitCount_0f7a4, 838)
def aL_J7_fill_53178 : List (Nat × Instr × Nat) := [(0, .iconst 0, 1), (1, .istore_n 2, 1), (2, .aload_n 0, 1), (3, .arraylength, 1), (4, .istore_n 3, 1), (5, .iload_n 2, 1), (6, .iload_n 3, 1), (7, .if_icmp .ge 13, 3), (10, .aload_n 0, 1), (11, .iload_n 2, 1), (12, .iload_n 1, 1), (13, .iastore, 1), (14, .iinc 2 1, 3), (17, .goto (-12), 3), (20, .return_, 1)]
def aM_J7_fill_53178 : aM := (yJ7_fill_53178, cJ7_fill_53178, 4, none, aC_RJ7, aL_J7_fill_53178, 532)
def aL_law : List (Nat × Instr × Nat) := [(0, .new 8, 3), (3, .dup, 1), (4, .invokespecial 15, 3), (7, .astore_n 1, 1), (8, .new 16, 3), (11, .dup, 1), (12, .invokespecial 18, 3), (15, .astore_n 2, 1), (16, .iconst 1, 1), (17, .newarray .long, 2), (19, .astore_n 3, 1), (20, .iconst 0, 1), (21, .istore 4, 2), (23, .iload 4, 2), (25, .aload_n 0, 1), (26, .arraylength, 1), (27, .bipush 6, 2), (29, .isub, 1), (30, .if_icmp .gt 1550, 3), (33, .aload_n 0, 1), (34, .iload 4, 2), (36, .iaload, 1), (37, .bipush 63, 2), (39, .iand, 1), (40, .tableswitch 1534 0 38 #[172, 245, 270, 295, 320, 388, 437, 474, 499, 524, 573, 610, 635, 660, 697, 722, 759, 796, 821, 878, 891, 916, 953, 978, 1015, 1052, 1089, 1114, 1151, 1212, 1261, 1310, 1359, 1408, 1433, 1446, 1483, 1496, 1509], 172), (212, .aload_n 1, 1), (213, .aload_n 0, 1), (214, .iload 4, 2), (216, .iconst 1, 1), (217, .iadd, 1), (218, .iaload, 1), (219, .aload_n 0, 1), (220, .iload 4, 2), (222, .iconst 2, 1), (223, .iadd, 1), (224, .iaload, 1), (225, .aload_n 0, 1), (226, .iload 4, 2), (228, .iconst 3, 1), (229, .iadd, 1), (230, .iaload, 1), (231, .aload_n 0, 1), (232, .iload 4, 2), (234, .iconst 4, 1), (235, .iadd, 1), (236, .iaload, 1), (237, .aload_n 0, 1), (238, .iload 4, 2), (240, .iconst 5, 1), (241, .iadd, 1), (242, .iaload, 1), (243, .invokevirtual 19, 3), (246, .aload_n 2, 1), (247, .aload_n 0, 1), (248, .iload 4, 2), (250, .iconst 1, 1), (251, .iadd, 1), (252, .iaload, 1), (253, .aload_n 0, 1), (254, .iload 4, 2), (256, .iconst 2, 1), (257, .iadd, 1), (258, .iaload, 1), (259, .aload_n 0, 1), (260, .iload 4, 2), (262, .iconst 3, 1), (263, .iadd, 1), (264, .iaload, 1), (265, .aload_n 0, 1), (266, .iload 4, 2), (268, .iconst 4, 1), (269, .iadd, 1), (270, .iaload, 1), (271, .aload_n 0, 1), (272, .iload 4, 2), (274, .iconst 5, 1), (275, .iadd, 1), (276, .iaload, 1), (277, .invokevirtual 23, 3), (280, .if_icmp .eq 1294, 3), (283, .iconst 0, 1), (284, .ireturn, 1), (285, .aload_n 1, 1), (286, .aload_n 0, 1), (287, .iload 4, 2), (289, .iconst 1, 1), (290, .iadd, 1), (291, .iaload, 1), (292, .invokevirtual 24, 3), (295, .aload_n 2, 1), (296, .aload_n 0, 1), (297, .iload 4, 2), (299, .iconst 1, 1), (300, .iadd, 1), (301, .iaload, 1), (302, .invokevirtual 28, 3), (305, .if_icmp .eq 1269, 3), (308, .iconst 0, 1), (309, .ireturn, 1), (310, .aload_n 1, 1), (311, .aload_n 0, 1), (312, .iload 4, 2), (314, .iconst 1, 1), (315, .iadd, 1), (316, .iaload, 1), (317, .invokevirtual 29, 3), (320, .aload_n 2, 1), (321, .aload_n 0, 1), (322, .iload 4, 2), (324, .iconst 1, 1), (325, .iadd, 1), (326, .iaload, 1), (327, .invokevirtual 33, 3), (330, .if_icmp .eq 1244, 3), (333, .iconst 0, 1), (334, .ireturn, 1), (335, .aload_n 1, 1), (336, .aload_n 0, 1), (337, .iload 4, 2), (339, .iconst 1, 1), (340, .iadd, 1), (341, .iaload, 1), (342, .invokevirtual 34, 3), (345, .aload_n 2, 1), (346, .aload_n 0, 1), (347, .iload 4, 2), (349, .iconst 1, 1), (350, .iadd, 1), (351, .iaload, 1), (352, .invokevirtual 37, 3), (355, .if_icmp .eq 1219, 3), (358, .iconst 0, 1), (359, .ireturn, 1), (360, .aload_n 1, 1), (361, .aload_n 0, 1), (362, .iload 4, 2), (364, .iconst 1, 1), (365, .iadd, 1), (366, .iaload, 1), (367, .aload_n 0, 1), (368, .iload 4, 2), (370, .iconst 2, 1), (371, .iadd, 1), (372, .iaload, 1), (373, .aload_n 3, 1), (374, .invokestatic 38, 3), (377, .istore 5, 2), (379, .aload_n 2, 1), (380, .aload_n 0, 1), (381, .iload 4, 2), (383, .iconst 1, 1), (384, .iadd, 1), (385, .iaload, 1), (386, .aload_n 0, 1), (387, .iload 4, 2), (389, .iconst 2, 1), (390, .iadd, 1), (391, .iaload, 1), (392, .invokevirtual 43, 3), (395, .istore 6, 2), (397, .aload_n 2, 1), (398, .invokevirtual 44, 3), (401, .iload 5, 2), (403, .if_icmp .eq 5, 3), (406, .iconst 0, 1), (407, .ireturn, 1), (408, .iload 5, 2), (410, .ifCond .ne 15, 3), (413, .aload_n 3, 1), (414, .iconst 0, 1), (415, .laload, 1), (416, .iload 6, 2), (418, .i2l, 1), (419, .lcmp, 1), (420, .ifCond .eq 5, 3), (423, .iconst 0, 1), (424, .ireturn, 1), (425, .goto 1149, 3), (428, .aload_n 1, 1), (429, .aload_n 0, 1), (430, .iload 4, 2), (432, .iconst 1, 1), (433, .iadd, 1), (434, .iaload, 1), (435, .aload_n 0, 1), (436, .iload 4, 2), (438, .iconst 2, 1), (439, .iadd, 1), (440, .iaload, 1), (441, .aload_n 0, 1), (442, .iload 4, 2), (444, .iconst 3, 1), (445, .iadd, 1), (446, .iaload, 1), (447, .invokevirtual 48, 3), (450, .aload_n 2, 1), (451, .aload_n 0, 1), (452, .iload 4, 2), (454, .iconst 1, 1), (455, .iadd, 1), (456, .iaload, 1), (457, .aload_n 0, 1), (458, .iload 4, 2), (460, .iconst 2, 1), (461, .iadd, 1), (462, .iaload, 1), (463, .aload_n 0, 1), (464, .iload 4, 2), (466, .iconst 3, 1), (467, .iadd, 1), (468, .iaload, 1), (469, .invokevirtual 52, 3), (472, .if_icmp .eq 1102, 3), (475, .iconst 0, 1), (476, .ireturn, 1), (477, .aload_n 1, 1), (478, .aload_n 0, 1), (479, .iload 4, 2), (481, .iconst 1, 1), (482, .iadd, 1), (483, .iaload, 1), (484, .aload_n 0, 1), (485, .iload 4, 2), (487, .iconst 2, 1), (488, .iadd, 1), (489, .iaload, 1), (490, .invokevirtual 53, 3), (493, .aload_n 2, 1), (494, .aload_n 0, 1), (495, .iload 4, 2), (497, .iconst 1, 1), (498, .iadd, 1), (499, .iaload, 1), (500, .aload_n 0, 1), (501, .iload 4, 2), (503, .iconst 2, 1), (504, .iadd, 1), (505, .iaload, 1), (506, .invokevirtual 56, 3), (509, .if_icmp .eq 1065, 3), (512, .iconst 0, 1), (513, .ireturn, 1), (514, .aload_n 1, 1), (515, .aload_n 0, 1), (516, .iload 4, 2), (518, .iconst 1, 1), (519, .iadd, 1), (520, .iaload, 1), (521, .invokevirtual 57, 3), (524, .aload_n 2, 1), (525, .aload_n 0, 1), (526, .iload 4, 2), (528, .iconst 1, 1), (529, .iadd, 1), (530, .iaload, 1), (531, .invokevirtual 60, 3), (534, .if_icmp .eq 1040, 3), (537, .iconst 0, 1), (538, .ireturn, 1), (539, .aload_n 1, 1), (540, .aload_n 0, 1), (541, .iload 4, 2), (543, .iconst 1, 1), (544, .iadd, 1), (545, .iaload, 1), (546, .invokevirtual 61, 3), (549, .aload_n 2, 1), (550, .aload_n 0, 1), (551, .iload 4, 2), (553, .iconst 1, 1), (554, .iadd, 1), (555, .iaload, 1), (556, .invokevirtual 64, 3), (559, .if_icmp .eq 1015, 3), (562, .iconst 0, 1), (563, .ireturn, 1), (564, .aload_n 1, 1), (565, .aload_n 0, 1), (566, .iload 4, 2), (568, .iconst 1, 1), (569, .iadd, 1), (570, .iaload, 1), (571, .aload_n 0, 1), (572, .iload 4, 2), (574, .iconst 2, 1), (575, .iadd, 1), (576, .iaload, 1), (577, .aload_n 0, 1), (578, .iload 4, 2), (580, .iconst 3, 1), (581, .iadd, 1), (582, .iaload, 1), (583, .invokevirtual 65, 3), (586, .aload_n 2, 1), (587, .aload_n 0, 1), (588, .iload 4, 2), (590, .iconst 1, 1), (591, .iadd, 1), (592, .iaload, 1), (593, .aload_n 0, 1), (594, .iload 4, 2), (596, .iconst 2, 1), (597, .iadd, 1), (598, .iaload, 1), (599, .aload_n 0, 1), (600, .iload 4, 2), (602, .iconst 3, 1), (603, .iadd, 1), (604, .iaload, 1), (605, .invokevirtual 68, 3), (608, .if_icmp .eq 966, 3), (611, .iconst 0, 1), (612, .ireturn, 1), (613, .aload_n 1, 1), (614, .aload_n 0, 1), (615, .iload 4, 2), (617, .iconst 1, 1), (618, .iadd, 1), (619, .iaload, 1), (620, .aload_n 0, 1), (621, .iload 4, 2), (623, .iconst 2, 1), (624, .iadd, 1), (625, .iaload, 1), (626, .invokevirtual 69, 3), (629, .aload_n 2, 1), (630, .aload_n 0, 1), (631, .iload 4, 2), (633, .iconst 1, 1), (634, .iadd, 1), (635, .iaload, 1), (636, .aload_n 0, 1), (637, .iload 4, 2), (639, .iconst 2, 1), (640, .iadd, 1), (641, .iaload, 1), (642, .invokevirtual 72, 3), (645, .if_icmp .eq 929, 3), (648, .iconst 0, 1), (649, .ireturn, 1), (650, .aload_n 1, 1), (651, .aload_n 0, 1), (652, .iload 4, 2), (654, .iconst 1, 1), (655, .iadd, 1), (656, .iaload, 1), (657, .invokevirtual 73, 3), (660, .aload_n 2, 1), (661, .aload_n 0, 1), (662, .iload 4, 2), (664, .iconst 1, 1), (665, .iadd, 1), (666, .iaload, 1), (667, .invokevirtual 76, 3), (670, .if_icmp .eq 904, 3), (673, .iconst 0, 1), (674, .ireturn, 1), (675, .aload_n 1, 1), (676, .aload_n 0, 1), (677, .iload 4, 2), (679, .iconst 1, 1), (680, .iadd, 1), (681, .iaload, 1), (682, .invokevirtual 77, 3), (685, .aload_n 2, 1), (686, .aload_n 0, 1), (687, .iload 4, 2), (689, .iconst 1, 1), (690, .iadd, 1), (691, .iaload, 1), (692, .invokevirtual 80, 3), (695, .if_icmp .eq 879, 3), (698, .iconst 0, 1), (699, .ireturn, 1), (700, .aload_n 1, 1), (701, .aload_n 0, 1), (702, .iload 4, 2), (704, .iconst 1, 1), (705, .iadd, 1), (706, .iaload, 1), (707, .aload_n 0, 1), (708, .iload 4, 2), (710, .iconst 2, 1), (711, .iadd, 1), (712, .iaload, 1), (713, .invokevirtual 81, 3), (716, .aload_n 2, 1), (717, .aload_n 0, 1), (718, .iload 4, 2), (720, .iconst 1, 1), (721, .iadd, 1), (722, .iaload, 1), (723, .aload_n 0, 1), (724, .iload 4, 2), (726, .iconst 2, 1), (727, .iadd, 1), (728, .iaload, 1), (729, .invokevirtual 84, 3), (732, .if_icmp .eq 842, 3), (735, .iconst 0, 1), (736, .ireturn, 1), (737, .aload_n 1, 1), (738, .aload_n 0, 1), (739, .iload 4, 2), (741, .iconst 1, 1), (742, .iadd, 1), (743, .iaload, 1), (744, .invokevirtual 85, 3), (747, .aload_n 2, 1), (748, .aload_n 0, 1), (749, .iload 4, 2), (751, .iconst 1, 1), (752, .iadd, 1), (753, .iaload, 1), (754, .invokevirtual 88, 3), (757, .if_icmp .eq 817, 3), (760, .iconst 0, 1), (761, .ireturn, 1), (762, .aload_n 1, 1), (763, .aload_n 0, 1), (764, .iload 4, 2), (766, .iconst 1, 1), (767, .iadd, 1), (768, .iaload, 1), (769, .aload_n 0, 1), (770, .iload 4, 2), (772, .iconst 2, 1), (773, .iadd, 1), (774, .iaload, 1), (775, .invokevirtual 89, 3), (778, .aload_n 2, 1), (779, .aload_n 0, 1), (780, .iload 4, 2), (782, .iconst 1, 1), (783, .iadd, 1), (784, .iaload, 1), (785, .aload_n 0, 1), (786, .iload 4, 2), (788, .iconst 2, 1), (789, .iadd, 1), (790, .iaload, 1), (791, .invokevirtual 92, 3), (794, .if_icmp .eq 780, 3), (797, .iconst 0, 1), (798, .ireturn, 1), (799, .aload_n 1, 1), (800, .aload_n 0, 1), (801, .iload 4, 2), (803, .iconst 1, 1), (804, .iadd, 1), (805, .iaload, 1), (806, .aload_n 0, 1), (807, .iload 4, 2), (809, .iconst 2, 1), (810, .iadd, 1), (811, .iaload, 1), (812, .invokevirtual 93, 3), (815, .aload_n 2, 1), (816, .aload_n 0, 1), (817, .iload 4, 2), (819, .iconst 1, 1), (820, .iadd, 1), (821, .iaload, 1), (822, .aload_n 0, 1), (823, .iload 4, 2), (825, .iconst 2, 1), (826, .iadd, 1), (827, .iaload, 1), (828, .invokevirtual 96, 3), (831, .if_icmp .eq 743, 3), (834, .iconst 0, 1), (835, .ireturn, 1), (836, .aload_n 1, 1), (837, .aload_n 0, 1), (838, .iload 4, 2), (840, .iconst 1, 1), (841, .iadd, 1), (842, .iaload, 1), (843, .invokevirtual 97, 3), (846, .aload_n 2, 1), (847, .aload_n 0, 1), (848, .iload 4, 2), (850, .iconst 1, 1), (851, .iadd, 1), (852, .iaload, 1), (853, .invokevirtual 100, 3), (856, .if_icmp .eq 718, 3), (859, .iconst 0, 1), (860, .ireturn, 1), (861, .aload_n 1, 1), (862, .aload_n 0, 1), (863, .iload 4, 2), (865, .iconst 1, 1), (866, .iadd, 1), (867, .iaload, 1), (868, .i2l, 1), (869, .bipush 32, 2), (871, .lshl, 1), (872, .aload_n 0, 1), (873, .iload 4, 2), (875, .iconst 2, 1), (876, .iadd, 1), (877, .iaload, 1), (878, .i2l, 1), (879, .ldc2_w 101, 3), (882, .land, 1), (883, .lor, 1), (884, .invokevirtual 103, 3), (887, .aload_n 2, 1), (888, .aload_n 0, 1), (889, .iload 4, 2), (891, .iconst 1, 1), (892, .iadd, 1), (893, .iaload, 1), (894, .i2l, 1), (895, .bipush 32, 2), (897, .lshl, 1), (898, .aload_n 0, 1), (899, .iload 4, 2), (901, .iconst 2, 1), (902, .iadd, 1), (903, .iaload, 1), (904, .i2l, 1), (905, .ldc2_w 101, 3), (908, .land, 1), (909, .lor, 1), (910, .invokevirtual 107, 3), (913, .if_icmp .eq 661, 3), (916, .iconst 0, 1), (917, .ireturn, 1), (918, .aload_n 1, 1), (919, .invokevirtual 108, 3), (922, .aload_n 2, 1), (923, .invokevirtual 111, 3), (926, .if_icmp .eq 648, 3), (929, .iconst 0, 1), (930, .ireturn, 1), (931, .aload_n 1, 1), (932, .aload_n 0, 1), (933, .iload 4, 2), (935, .iconst 1, 1), (936, .iadd, 1), (937, .iaload, 1), (938, .invokevirtual 112, 3), (941, .aload_n 2, 1), (942, .aload_n 0, 1), (943, .iload 4, 2), (945, .iconst 1, 1), (946, .iadd, 1), (947, .iaload, 1), (948, .invokevirtual 115, 3), (951, .if_icmp .eq 623, 3), (954, .iconst 0, 1), (955, .ireturn, 1), (956, .aload_n 1, 1), (957, .aload_n 0, 1), (958, .iload 4, 2), (960, .iconst 1, 1), (961, .iadd, 1), (962, .iaload, 1), (963, .aload_n 0, 1), (964, .iload 4, 2), (966, .iconst 2, 1), (967, .iadd, 1), (968, .iaload, 1), (969, .invokevirtual 116, 3), (972, .aload_n 2, 1), (973, .aload_n 0, 1), (974, .iload 4, 2), (976, .iconst 1, 1), (977, .iadd, 1), (978, .iaload, 1), (979, .aload_n 0, 1), (980, .iload 4, 2), (982, .iconst 2, 1), (983, .iadd, 1), (984, .iaload, 1), (985, .invokevirtual 119, 3), (988, .if_icmp .eq 586, 3), (991, .iconst 0, 1), (992, .ireturn, 1), (993, .aload_n 1, 1), (994, .aload_n 0, 1), (995, .iload 4, 2), (997, .iconst 1, 1), (998, .iadd, 1), (999, .iaload, 1), (1000, .invokevirtual 120, 3), (1003, .aload_n 2, 1), (1004, .aload_n 0, 1), (1005, .iload 4, 2), (1007, .iconst 1, 1), (1008, .iadd, 1), (1009, .iaload, 1), (1010, .invokevirtual 123, 3), (1013, .if_icmp .eq 561, 3), (1016, .iconst 0, 1), (1017, .ireturn, 1), (1018, .aload_n 1, 1), (1019, .aload_n 0, 1), (1020, .iload 4, 2), (1022, .iconst 1, 1), (1023, .iadd, 1), (1024, .iaload, 1), (1025, .aload_n 0, 1), (1026, .iload 4, 2), (1028, .iconst 2, 1), (1029, .iadd, 1), (1030, .iaload, 1), (1031, .invokevirtual 124, 3), (1034, .aload_n 2, 1), (1035, .aload_n 0, 1), (1036, .iload 4, 2), (1038, .iconst 1, 1), (1039, .iadd, 1), (1040, .iaload, 1), (1041, .aload_n 0, 1), (1042, .iload 4, 2), (1044, .iconst 2, 1), (1045, .iadd, 1), (1046, .iaload, 1), (1047, .invokevirtual 127, 3), (1050, .if_icmp .eq 524, 3), (1053, .iconst 0, 1), (1054, .ireturn, 1), (1055, .aload_n 1, 1), (1056, .aload_n 0, 1), (1057, .iload 4, 2), (1059, .iconst 1, 1), (1060, .iadd, 1), (1061, .iaload, 1), (1062, .aload_n 0, 1), (1063, .iload 4, 2), (1065, .iconst 2, 1), (1066, .iadd, 1), (1067, .iaload, 1), (1068, .invokevirtual 128, 3), (1071, .aload_n 2, 1), (1072, .aload_n 0, 1), (1073, .iload 4, 2), (1075, .iconst 1, 1), (1076, .iadd, 1), (1077, .iaload, 1), (1078, .aload_n 0, 1), (1079, .iload 4, 2), (1081, .iconst 2, 1), (1082, .iadd, 1), (1083, .iaload, 1), (1084, .invokevirtual 131, 3), (1087, .if_icmp .eq 487, 3), (1090, .iconst 0, 1), (1091, .ireturn, 1), (1092, .aload_n 1, 1), (1093, .aload_n 0, 1), (1094, .iload 4, 2), (1096, .iconst 1, 1), (1097, .iadd, 1), (1098, .iaload, 1), (1099, .aload_n 0, 1), (1100, .iload 4, 2), (1102, .iconst 2, 1), (1103, .iadd, 1), (1104, .iaload, 1), (1105, .invokevirtual 132, 3), (1108, .aload_n 2, 1), (1109, .aload_n 0, 1), (1110, .iload 4, 2), (1112, .iconst 1, 1), (1113, .iadd, 1), (1114, .iaload, 1), (1115, .aload_n 0, 1), (1116, .iload 4, 2), (1118, .iconst 2, 1), (1119, .iadd, 1), (1120, .iaload, 1), (1121, .invokevirtual 135, 3), (1124, .if_icmp .eq 450, 3), (1127, .iconst 0, 1), (1128, .ireturn, 1), (1129, .aload_n 1, 1), (1130, .aload_n 0, 1), (1131, .iload 4, 2), (1133, .iconst 1, 1), (1134, .iadd, 1), (1135, .iaload, 1), (1136, .invokevirtual 136, 3), (1139, .aload_n 2, 1), (1140, .aload_n 0, 1), (1141, .iload 4, 2), (1143, .iconst 1, 1), (1144, .iadd, 1), (1145, .iaload, 1), (1146, .invokevirtual 139, 3), (1149, .if_icmp .eq 425, 3), (1152, .iconst 0, 1), (1153, .ireturn, 1), (1154, .aload_n 1, 1), (1155, .aload_n 0, 1), (1156, .iload 4, 2), (1158, .iconst 1, 1), (1159, .iadd, 1), (1160, .iaload, 1), (1161, .aload_n 0, 1), (1162, .iload 4, 2), (1164, .iconst 2, 1), (1165, .iadd, 1), (1166, .iaload, 1), (1167, .invokevirtual 140, 3), (1170, .aload_n 2, 1), (1171, .aload_n 0, 1), (1172, .iload 4, 2), (1174, .iconst 1, 1), (1175, .iadd, 1), (1176, .iaload, 1), (1177, .aload_n 0, 1), (1178, .iload 4, 2), (1180, .iconst 2, 1), (1181, .iadd, 1), (1182, .iaload, 1), (1183, .invokevirtual 143, 3), (1186, .if_icmp .eq 388, 3), (1189, .iconst 0, 1), (1190, .ireturn, 1), (1191, .aload_n 1, 1), (1192, .aload_n 0, 1), (1193, .iload 4, 2), (1195, .iconst 1, 1), (1196, .iadd, 1), (1197, .iaload, 1), (1198, .aload_n 0, 1), (1199, .iload 4, 2), (1201, .iconst 2, 1), (1202, .iadd, 1), (1203, .iaload, 1), (1204, .aload_n 0, 1), (1205, .iload 4, 2), (1207, .iconst 3, 1), (1208, .iadd, 1), (1209, .iaload, 1), (1210, .aload_n 0, 1), (1211, .iload 4, 2), (1213, .iconst 4, 1), (1214, .iadd, 1), (1215, .iaload, 1), (1216, .invokevirtual 144, 3), (1219, .aload_n 2, 1), (1220, .aload_n 0, 1), (1221, .iload 4, 2), (1223, .iconst 1, 1), (1224, .iadd, 1), (1225, .iaload, 1), (1226, .aload_n 0, 1), (1227, .iload 4, 2), (1229, .iconst 2, 1), (1230, .iadd, 1), (1231, .iaload, 1), (1232, .aload_n 0, 1), (1233, .iload 4, 2), (1235, .iconst 3, 1), (1236, .iadd, 1), (1237, .iaload, 1), (1238, .aload_n 0, 1), (1239, .iload 4, 2), (1241, .iconst 4, 1), (1242, .iadd, 1), (1243, .iaload, 1), (1244, .invokevirtual 148, 3), (1247, .if_icmp .eq 327, 3), (1250, .iconst 0, 1), (1251, .ireturn, 1), (1252, .aload_n 1, 1), (1253, .aload_n 0, 1), (1254, .iload 4, 2), (1256, .iconst 1, 1), (1257, .iadd, 1), (1258, .iaload, 1), (1259, .aload_n 0, 1), (1260, .iload 4, 2), (1262, .iconst 2, 1), (1263, .iadd, 1), (1264, .iaload, 1), (1265, .aload_n 0, 1), (1266, .iload 4, 2), (1268, .iconst 3, 1), (1269, .iadd, 1), (1270, .iaload, 1), (1271, .invokevirtual 149, 3), (1274, .aload_n 2, 1), (1275, .aload_n 0, 1), (1276, .iload 4, 2), (1278, .iconst 1, 1), (1279, .iadd, 1), (1280, .iaload, 1), (1281, .aload_n 0, 1), (1282, .iload 4, 2), (1284, .iconst 2, 1), (1285, .iadd, 1), (1286, .iaload, 1), (1287, .aload_n 0, 1), (1288, .iload 4, 2), (1290, .iconst 3, 1), (1291, .iadd, 1), (1292, .iaload, 1), (1293, .invokevirtual 152, 3), (1296, .if_icmp .eq 278, 3), (1299, .iconst 0, 1), (1300, .ireturn, 1), (1301, .aload_n 1, 1), (1302, .aload_n 0, 1), (1303, .iload 4, 2), (1305, .iconst 1, 1), (1306, .iadd, 1), (1307, .iaload, 1), (1308, .aload_n 0, 1), (1309, .iload 4, 2), (1311, .iconst 2, 1), (1312, .iadd, 1), (1313, .iaload, 1), (1314, .aload_n 0, 1), (1315, .iload 4, 2), (1317, .iconst 3, 1), (1318, .iadd, 1), (1319, .iaload, 1), (1320, .invokevirtual 153, 3), (1323, .aload_n 2, 1), (1324, .aload_n 0, 1), (1325, .iload 4, 2), (1327, .iconst 1, 1), (1328, .iadd, 1), (1329, .iaload, 1), (1330, .aload_n 0, 1), (1331, .iload 4, 2), (1333, .iconst 2, 1), (1334, .iadd, 1), (1335, .iaload, 1), (1336, .aload_n 0, 1), (1337, .iload 4, 2), (1339, .iconst 3, 1), (1340, .iadd, 1), (1341, .iaload, 1), (1342, .invokevirtual 156, 3), (1345, .if_icmp .eq 229, 3), (1348, .iconst 0, 1), (1349, .ireturn, 1), (1350, .aload_n 1, 1), (1351, .aload_n 0, 1), (1352, .iload 4, 2), (1354, .iconst 1, 1), (1355, .iadd, 1), (1356, .iaload, 1), (1357, .aload_n 0, 1), (1358, .iload 4, 2), (1360, .iconst 2, 1), (1361, .iadd, 1), (1362, .iaload, 1), (1363, .aload_n 0, 1), (1364, .iload 4, 2), (1366, .iconst 3, 1), (1367, .iadd, 1), (1368, .iaload, 1), (1369, .invokevirtual 157, 3), (1372, .aload_n 2, 1), (1373, .aload_n 0, 1), (1374, .iload 4, 2), (1376, .iconst 1, 1), (1377, .iadd, 1), (1378, .iaload, 1), (1379, .aload_n 0, 1), (1380, .iload 4, 2), (1382, .iconst 2, 1), (1383, .iadd, 1), (1384, .iaload, 1), (1385, .aload_n 0, 1), (1386, .iload 4, 2), (1388, .iconst 3, 1), (1389, .iadd, 1), (1390, .iaload, 1), (1391, .invokevirtual 160, 3), (1394, .if_icmp .eq 180, 3), (1397, .iconst 0, 1), (1398, .ireturn, 1), (1399, .aload_n 1, 1), (1400, .aload_n 0, 1), (1401, .iload 4, 2), (1403, .iconst 1, 1), (1404, .iadd, 1), (1405, .iaload, 1), (1406, .aload_n 0, 1), (1407, .iload 4, 2), (1409, .iconst 2, 1), (1410, .iadd, 1), (1411, .iaload, 1), (1412, .aload_n 0, 1), (1413, .iload 4, 2), (1415, .iconst 3, 1), (1416, .iadd, 1), (1417, .iaload, 1), (1418, .invokevirtual 161, 3), (1421, .aload_n 2, 1), (1422, .aload_n 0, 1), (1423, .iload 4, 2), (1425, .iconst 1, 1), (1426, .iadd, 1), (1427, .iaload, 1), (1428, .aload_n 0, 1), (1429, .iload 4, 2), (1431, .iconst 2, 1), (1432, .iadd, 1), (1433, .iaload, 1), (1434, .aload_n 0, 1), (1435, .iload 4, 2), (1437, .iconst 3, 1), (1438, .iadd, 1), (1439, .iaload, 1), (1440, .invokevirtual 164, 3), (1443, .if_icmp .eq 131, 3), (1446, .iconst 0, 1), (1447, .ireturn, 1), (1448, .aload_n 1, 1), (1449, .aload_n 0, 1), (1450, .iload 4, 2), (1452, .iconst 1, 1), (1453, .iadd, 1), (1454, .iaload, 1), (1455, .invokevirtual 165, 3), (1458, .aload_n 2, 1), (1459, .aload_n 0, 1), (1460, .iload 4, 2), (1462, .iconst 1, 1), (1463, .iadd, 1), (1464, .iaload, 1), (1465, .invokevirtual 168, 3), (1468, .if_icmp .eq 106, 3), (1471, .iconst 0, 1), (1472, .ireturn, 1), (1473, .aload_n 1, 1), (1474, .invokevirtual 169, 3), (1477, .aload_n 2, 1), (1478, .invokevirtual 172, 3), (1481, .if_icmp .eq 93, 3), (1484, .iconst 0, 1), (1485, .ireturn, 1), (1486, .aload_n 1, 1), (1487, .aload_n 0, 1), (1488, .iload 4, 2), (1490, .iconst 1, 1), (1491, .iadd, 1), (1492, .iaload, 1), (1493, .aload_n 0, 1), (1494, .iload 4, 2), (1496, .iconst 2, 1), (1497, .iadd, 1), (1498, .iaload, 1), (1499, .invokevirtual 173, 3), (1502, .aload_n 2, 1), (1503, .aload_n 0, 1), (1504, .iload 4, 2), (1506, .iconst 1, 1), (1507, .iadd, 1), (1508, .iaload, 1), (1509, .aload_n 0, 1), (1510, .iload 4, 2), (1512, .iconst 2, 1), (1513, .iadd, 1), (1514, .iaload, 1), (1515, .invokevirtual 176, 3), (1518, .if_icmp .eq 56, 3), (1521, .iconst 0, 1), (1522, .ireturn, 1), (1523, .aload_n 1, 1), (1524, .invokevirtual 177, 3), (1527, .aload_n 2, 1), (1528, .invokevirtual 180, 3), (1531, .if_icmp .eq 43, 3), (1534, .iconst 0, 1), (1535, .ireturn, 1), (1536, .aload_n 1, 1), (1537, .invokevirtual 181, 3), (1540, .aload_n 2, 1), (1541, .invokevirtual 184, 3), (1544, .if_icmp .eq 30, 3), (1547, .iconst 0, 1), (1548, .ireturn, 1), (1549, .aload_n 1, 1), (1550, .aload_n 0, 1), (1551, .iload 4, 2), (1553, .iconst 1, 1), (1554, .iadd, 1), (1555, .iaload, 1), (1556, .invokevirtual 185, 3), (1559, .aload_n 2, 1), (1560, .aload_n 0, 1), (1561, .iload 4, 2), (1563, .iconst 1, 1), (1564, .iadd, 1), (1565, .iaload, 1), (1566, .invokevirtual 188, 3), (1569, .if_icmp .eq 5, 3), (1572, .iconst 0, 1), (1573, .ireturn, 1), (1574, .iinc 4 6, 3), (1577, .goto (-1554), 3), (1580, .iconst 1, 1), (1581, .ireturn, 1)]
def aM_law : aM := (x, code, 7, ret, aC_RL, aL_law, 0)
def aP_0 : List aM := [aM_X0_has, aM_X0_read, aM_X0_add, aM_X1_full, aM_X1_lineUp, aM_X1_putInOrder, aM_X1_placeOf, aM_X1_spanSets, aM_X1_dealNothing, aM_X1_shareOf, aM_X1_dealTo, aM_X1_dealToAllBut, aM_X1_dealAll, aM_X1_valuesOf, aM_X1_digitsOf, aM_X1_learnBest, aM_X1_valuesLearnt, aM_X1_mostWithin, aM_X1_mostAlone, aM_X1_spiteOn]
def aP_1 : List aM := [aM_X1_valuesBehind, aM_X2_beginBest, aM_X2_openRanges, aM_X2_cutRange, aM_X2_mostBegun, aM_X2_dealNothing, aM_X2_undealt, aM_X2_findDays, aM_X2_findPrices, aM_X2_quickestBy, aM_X2_shareOut, aM_X3_add, aM_X3_doneOf, aM_X3_isSo, aM_X4_clear, aM_X4_addThing, aM_X4_addStep, aM_X4_settle, aM_X4_addHeir, aM_X4_addTool]
def aP_2 : List aM := [aM_X4_isWhole, aM_X4_isTold, aM_X4_hasThing, aM_X4_hasHeir, aM_X4_hasStep, aM_X4_hasSet, aM_X4_isOpen, aM_X4_skill, aM_X4_addSkill, aM_X4_allSkills, aM_X4_heldBy, aM_X4_countOf, aM_X4_finishedValues, aM_X4_daysFor, aM_X4_stepDays, aM_X4_daysFrom, aM_X4_aloneDays, aM_X4_isInTime, aM_X4_daysInTime, aM_X4_aloneInTime]
def aP_3 : List aM := [aM_X4_bestSkill, aM_X4_everyone, aM_X4_firstStuck, aM_X4_teamDays, aM_X4_fewestInTime, aM_X4_paidByGuilds, aM_X4_passDay, aM_X4_workOf, aM_X4_workAt, aM_X4_closeDay, aM_X4_raiseHeirs, aM_X5_open, aM_X5_addThing, aM_X5_tellOf, aM_X5_isChoice, aM_X5_takeRow, aM_X5_findLeads, aM_X5_gainOf, aM_X5_isContent, aM_X5_areContent]
def aP_4 : List aM := [aM_X5_restingRow, aM_X5_pickBy, aM_X6_read, aM_X6_emit, aM_X6_readClause, aM_X6_readCondition, aM_X6_readTruth, aM_X6_readUnit, aM_X6_readNested, aM_X6_readSum, aM_X6_readTerm, aM_X6_readAtom, aM_X6_comparison, aM_X6_letterOf, aM_X7_has, aM_X7_add, aM_X7_tellOfWish, aM_X7_likes, aM_X7_signsLiked, aM_X7_worth]
def aP_5 : List aM := [aM_X7_joined, aM_X7_reckoned, aM_X7_push, aM_X7_pop, aM_X8_forget, aM_X8_keep, aM_X8_takeBack, aM_X8_keepImage, aM_X8_bringBack, aM_X9_bytesOf, aM_X9_add, aM_X9_rewind, aM_X9_peek, aM_X9_skip, aM_X9_fails, aM_X9_must, aM_X9_number, aM_X9_isDigit, aM_X10_read, aM_X10_readClause]
def aP_6 : List aM := [aM_X10_readThing, aM_X10_thingItem, aM_X10_putItem, aM_X10_readSteps, aM_X10_readHeir, aM_X10_readTool, aM_X10_tradeOf, aM_X11_feed, aM_X11_end, aM_X11_fault, aM_X11_text, aM_X11_putWill, aM_X11_step, aM_X11_heir, aM_X11_tools, aM_X11_law, aM_X11_takes, aM_X11_alone, aM_X11_who, aM_X11_stuck]
def aP_7 : List aM := [aM_X11_team, aM_X11_helpers, aM_X11_sold, aM_X11_give, aM_X11_teach, aM_X11_days, aM_X11_generation, aM_X11_undo, aM_X11_image, aM_X11_back, aM_X11_deal, aM_X11_best, aM_X11_learn, aM_X11_begin, aM_X11_spite, aM_X11_wish, aM_X11_wishOf, aM_X11_rests, aM_X11_gains, aM_X11_layOutGame]
def aP_8 : List aM := [aM_X11_ends, aM_X11_shortest, aM_X11_judged, aM_X11_dearest, aM_X11_fitting, aM_X11_fits, aM_X11_isBehind, aM_X11_sign, aM_X11_ended, aM_X11_stood, aM_X11_count, aM_X11_isTrade, aM_X12_thrown, aM_X12_isIn, aM_X12_has, aM_X12_isAmong, aM_X12_bytesIn, aM_X12_put, aM_X12_feed, aM_X12_end]
def aP_9 : List aM := [aM_X12_look, aM_X12_fails, aM_X12_goesIn, aM_X12_takes, aM_X12_isDigit, aM_X12_within, aM_X12_atom, aM_X12_term, aM_X12_sum, aM_X12_isSign, aM_X12_compares, aM_X12_unit, aM_X12_part, aM_X12_condition, aM_X12_clause, aM_X12_starts, aM_X12_goThrough, aM_X12_here, aM_X12_placeOf, aM_X12_readItem]
def aP_10 : List aM := [aM_X12_readItems, aM_X12_readSteps, aM_X12_readThing, aM_X12_readClause, aM_X12_readWill, aM_X12_readRow, aM_X12_fault, aM_X12_text, aM_X12_isThing, aM_X12_isHeir, aM_X12_stepsOf, aM_X12_doneOf, aM_X12_isToDo, aM_X12_skill, aM_X12_tradeOf, aM_X12_daysOf, aM_X12_thing, aM_X12_step, aM_X12_heir, aM_X12_tools]
def aP_11 : List aM := [aM_X12_law, aM_X12_takesOf, aM_X12_takes_, aM_X12_aloneFrom, aM_X12_aloneOf, aM_X12_isInTime, aM_X12_alone, aM_X12_whoOf, aM_X12_who, aM_X12_stuck, aM_X12_teamOf, aM_X12_team, aM_X12_helpers, aM_X12_remember, aM_X12_give, aM_X12_teach, aM_X12_works, aM_X12_goDay, aM_X12_days, aM_X12_draw]
def aP_12 : List aM := [aM_X12_generation, aM_X12_undo, aM_X12_askAsItIs, aM_X12_isDealt, aM_X12_canDo, aM_X12_layDeal, aM_X12_goDeal, aM_X12_deal, aM_X12_bestOf, aM_X12_toDo, aM_X12_best, aM_X12_learn, aM_X12_goBegin, aM_X12_begin, aM_X12_spited, aM_X12_spite, aM_X12_worthBy, aM_X12_wishOf, aM_X12_wish, aM_X12_gainOf]
def aP_13 : List aM := [aM_X12_layRow, aM_X12_gains, aM_X12_isRest, aM_X12_goRests, aM_X12_rests, aM_X12_isRow, aM_X12_isLaw, aM_X12_tens, aM_X12_isFit, aM_X12_ends, aM_X12_shortest, aM_X12_judgedOf, aM_X12_judged, aM_X12_dearest, aM_X12_sign, aM_X12_ended, aM_X12_stood, aM_X12_sold, aM_X12_image, aM_X12_back]
def aP_14 : List aM := [aM_X12_thatAre, aM_X12_count, aM_J6_bitCount_0f7a4, aM_J7_fill_53178]
def aProg : List aM := [aM_X0_has, aM_X0_read, aM_X0_add, aM_X1_full, aM_X1_lineUp, aM_X1_putInOrder, aM_X1_placeOf, aM_X1_spanSets, aM_X1_dealNothing, aM_X1_shareOf, aM_X1_dealTo, aM_X1_dealToAllBut, aM_X1_dealAll, aM_X1_valuesOf, aM_X1_digitsOf, aM_X1_learnBest, aM_X1_valuesLearnt, aM_X1_mostWithin, aM_X1_mostAlone, aM_X1_spiteOn, aM_X1_valuesBehind, aM_X2_beginBest, aM_X2_openRanges, aM_X2_cutRange, aM_X2_mostBegun, aM_X2_dealNothing, aM_X2_undealt, aM_X2_findDays, aM_X2_findPrices, aM_X2_quickestBy, aM_X2_shareOut, aM_X3_add, aM_X3_doneOf, aM_X3_isSo, aM_X4_clear, aM_X4_addThing, aM_X4_addStep, aM_X4_settle, aM_X4_addHeir, aM_X4_addTool, aM_X4_isWhole, aM_X4_isTold, aM_X4_hasThing, aM_X4_hasHeir, aM_X4_hasStep, aM_X4_hasSet, aM_X4_isOpen, aM_X4_skill, aM_X4_addSkill, aM_X4_allSkills, aM_X4_heldBy, aM_X4_countOf, aM_X4_finishedValues, aM_X4_daysFor, aM_X4_stepDays, aM_X4_daysFrom, aM_X4_aloneDays, aM_X4_isInTime, aM_X4_daysInTime, aM_X4_aloneInTime, aM_X4_bestSkill, aM_X4_everyone, aM_X4_firstStuck, aM_X4_teamDays, aM_X4_fewestInTime, aM_X4_paidByGuilds, aM_X4_passDay, aM_X4_workOf, aM_X4_workAt, aM_X4_closeDay, aM_X4_raiseHeirs, aM_X5_open, aM_X5_addThing, aM_X5_tellOf, aM_X5_isChoice, aM_X5_takeRow, aM_X5_findLeads, aM_X5_gainOf, aM_X5_isContent, aM_X5_areContent, aM_X5_restingRow, aM_X5_pickBy, aM_X6_read, aM_X6_emit, aM_X6_readClause, aM_X6_readCondition, aM_X6_readTruth, aM_X6_readUnit, aM_X6_readNested, aM_X6_readSum, aM_X6_readTerm, aM_X6_readAtom, aM_X6_comparison, aM_X6_letterOf, aM_X7_has, aM_X7_add, aM_X7_tellOfWish, aM_X7_likes, aM_X7_signsLiked, aM_X7_worth, aM_X7_joined, aM_X7_reckoned, aM_X7_push, aM_X7_pop, aM_X8_forget, aM_X8_keep, aM_X8_takeBack, aM_X8_keepImage, aM_X8_bringBack, aM_X9_bytesOf, aM_X9_add, aM_X9_rewind, aM_X9_peek, aM_X9_skip, aM_X9_fails, aM_X9_must, aM_X9_number, aM_X9_isDigit, aM_X10_read, aM_X10_readClause, aM_X10_readThing, aM_X10_thingItem, aM_X10_putItem, aM_X10_readSteps, aM_X10_readHeir, aM_X10_readTool, aM_X10_tradeOf, aM_X11_feed, aM_X11_end, aM_X11_fault, aM_X11_text, aM_X11_putWill, aM_X11_step, aM_X11_heir, aM_X11_tools, aM_X11_law, aM_X11_takes, aM_X11_alone, aM_X11_who, aM_X11_stuck, aM_X11_team, aM_X11_helpers, aM_X11_sold, aM_X11_give, aM_X11_teach, aM_X11_days, aM_X11_generation, aM_X11_undo, aM_X11_image, aM_X11_back, aM_X11_deal, aM_X11_best, aM_X11_learn, aM_X11_begin, aM_X11_spite, aM_X11_wish, aM_X11_wishOf, aM_X11_rests, aM_X11_gains, aM_X11_layOutGame, aM_X11_ends, aM_X11_shortest, aM_X11_judged, aM_X11_dearest, aM_X11_fitting, aM_X11_fits, aM_X11_isBehind, aM_X11_sign, aM_X11_ended, aM_X11_stood, aM_X11_count, aM_X11_isTrade, aM_X12_thrown, aM_X12_isIn, aM_X12_has, aM_X12_isAmong, aM_X12_bytesIn, aM_X12_put, aM_X12_feed, aM_X12_end, aM_X12_look, aM_X12_fails, aM_X12_goesIn, aM_X12_takes, aM_X12_isDigit, aM_X12_within, aM_X12_atom, aM_X12_term, aM_X12_sum, aM_X12_isSign, aM_X12_compares, aM_X12_unit, aM_X12_part, aM_X12_condition, aM_X12_clause, aM_X12_starts, aM_X12_goThrough, aM_X12_here, aM_X12_placeOf, aM_X12_readItem, aM_X12_readItems, aM_X12_readSteps, aM_X12_readThing, aM_X12_readClause, aM_X12_readWill, aM_X12_readRow, aM_X12_fault, aM_X12_text, aM_X12_isThing, aM_X12_isHeir, aM_X12_stepsOf, aM_X12_doneOf, aM_X12_isToDo, aM_X12_skill, aM_X12_tradeOf, aM_X12_daysOf, aM_X12_thing, aM_X12_step, aM_X12_heir, aM_X12_tools, aM_X12_law, aM_X12_takesOf, aM_X12_takes_, aM_X12_aloneFrom, aM_X12_aloneOf, aM_X12_isInTime, aM_X12_alone, aM_X12_whoOf, aM_X12_who, aM_X12_stuck, aM_X12_teamOf, aM_X12_team, aM_X12_helpers, aM_X12_remember, aM_X12_give, aM_X12_teach, aM_X12_works, aM_X12_goDay, aM_X12_days, aM_X12_draw, aM_X12_generation, aM_X12_undo, aM_X12_askAsItIs, aM_X12_isDealt, aM_X12_canDo, aM_X12_layDeal, aM_X12_goDeal, aM_X12_deal, aM_X12_bestOf, aM_X12_toDo, aM_X12_best, aM_X12_learn, aM_X12_goBegin, aM_X12_begin, aM_X12_spited, aM_X12_spite, aM_X12_worthBy, aM_X12_wishOf, aM_X12_wish, aM_X12_gainOf, aM_X12_layRow, aM_X12_gains, aM_X12_isRest, aM_X12_goRests, aM_X12_rests, aM_X12_isRow, aM_X12_isLaw, aM_X12_tens, aM_X12_isFit, aM_X12_ends, aM_X12_shortest, aM_X12_judgedOf, aM_X12_judged, aM_X12_dearest, aM_X12_sign, aM_X12_ended, aM_X12_stood, aM_X12_sold, aM_X12_image, aM_X12_back, aM_X12_thatAre, aM_X12_count, aM_J6_bitCount_0f7a4, aM_J7_fill_53178]
set_option maxRecDepth 100000 in
theorem aProg_eq : aProg = aP_0 ++ (aP_1 ++ (aP_2 ++ (aP_3 ++ (aP_4 ++ (aP_5 ++ (aP_6 ++ (aP_7 ++ (aP_8 ++ (aP_9 ++ (aP_10 ++ (aP_11 ++ (aP_12 ++ (aP_13 ++ (aP_14)))))))))))))) := rfl
/-- the words that hold in every state of the run -/
def aTB : List Cond := lw_tbl.filter goodWord
def aWd (i : Nat) (w : Cond) : Bool := decide (lw_tbl[i]? = some w) && goodWord w
theorem aWd_mem {i : Nat} {w : Cond} (h : aWd i w = true) : w ∈ aTB := by
  simp only [aWd, Bool.and_eq_true, decide_eq_true_eq] at h
  exact List.mem_filter.mpr ⟨List.mem_of_getElem? h.1, h.2⟩
def aLn (ins : Instr) (len : Nat) : Nat := match ins with
  | .tableswitch _ _ _ _ => len
  | .lookupswitch _ _ => len
  | .bipush _ => 2
  | .ldc _ => 2
  | .iload _ => 2
  | .lload _ => 2
  | .aload _ => 2
  | .istore _ => 2
  | .lstore _ => 2
  | .astore _ => 2
  | .newarray _ => 2
  | .sipush _ => 3
  | .ldc_w _ => 3
  | .ldc2_w _ => 3
  | .iinc _ _ => 3
  | .ifCond _ _ => 3
  | .if_icmp _ _ => 3
  | .goto _ => 3
  | .getfield _ => 3
  | .putfield _ => 3
  | .getstatic _ => 3
  | .invokestatic _ => 3
  | .invokevirtual _ => 3
  | .invokespecial _ => 3
  | .new _ => 3
  | .multianewarray _ _ => 4
  | _ => 1
def aKdC (kd : Nat) (t : String × String × String × Bool) : Bool := match kd with
  | 9 => true
  | 0 => !t.2.2.2 && decide (parseFieldDescriptor t.2.2.1 = some .int)
  | 1 => !t.2.2.2 && decide (parseFieldDescriptor t.2.2.1 = some .boolean)
  | 2 => !t.2.2.2 && decide (parseFieldDescriptor t.2.2.1 = some .long)
  | _ => !t.2.2.2 && match parseFieldDescriptor t.2.2.1 with
    | some ty => ty.isReference
    | none => false
def aFC (own : String) (q : Nat × Nat × Nat × Nat × Nat) : Bool := match vwCl[q.2.1]? with
  | some (_, T, N) => Nat.blt q.2.2.1 N && aWd q.2.2.2.2 (.fieldLink own q.1 (T q.2.2.1).1 (T q.2.2.1).2.1 (T q.2.2.1).2.2.1) && aKdC q.2.2.2.1 (T q.2.2.1)
  | none => false
/-- calls of the JDK's members that the machine does in one step: their words -/
def aPC (own : String) (q : Nat × Nat × Nat × Nat × Nat × Nat × Nat × Nat) : Bool := match q.2.2.1 with
  | 0 => (aWd q.2.2.2.2.1 (.methodLink own q.1 Lib.Math.max.name) && aWd q.2.2.2.2.2.1 (.static Lib.Math.max.name)) && (aWd q.2.2.2.2.2.2.1 (.code Lib.Math.max.name Lib.Math.max.code 2 (some .int)) && aWd q.2.2.2.2.2.2.2 (.initialized "java/lang/Math"))
  | 1 => (aWd q.2.2.2.2.1 (.methodLink own q.1 Lib.Math.min.name) && aWd q.2.2.2.2.2.1 (.static Lib.Math.min.name)) && (aWd q.2.2.2.2.2.2.1 (.code Lib.Math.min.name Lib.Math.min.code 2 (some .int)) && aWd q.2.2.2.2.2.2.2 (.initialized "java/lang/Math"))
  | 2 => (aWd q.2.2.2.2.1 (.methodLink own q.1 Lib.MathLoose.max_long.x) && aWd q.2.2.2.2.2.1 (.static Lib.MathLoose.max_long.x)) && (aWd q.2.2.2.2.2.2.1 (.code Lib.MathLoose.max_long.x Lib.MathLoose.max_long.code 4 (some .long)) && aWd q.2.2.2.2.2.2.2 (.initialized "java/lang/Math"))
  | 3 => (aWd q.2.2.2.2.1 (.methodLink own q.1 Lib.MathLoose.min_long.x) && aWd q.2.2.2.2.2.1 (.static Lib.MathLoose.min_long.x)) && (aWd q.2.2.2.2.2.2.1 (.code Lib.MathLoose.min_long.x Lib.MathLoose.min_long.code 4 (some .long)) && aWd q.2.2.2.2.2.2.2 (.initialized "java/lang/Math"))
  | 4 => (aWd q.2.2.2.2.1 (.methodLink own q.1 arraycopyName) && aWd q.2.2.2.2.2.1 (.static arraycopyName)) && (aWd q.2.2.2.2.2.2.1 (.native arraycopyName) && aWd q.2.2.2.2.2.2.2 (.initialized "java/lang/System"))
  | 5 => aWd q.2.2.2.2.1 (.methodLink own q.1 yJ0_length_8abf5)
  | 6 => aWd q.2.2.2.2.1 (.methodLink own q.1 yJ0_charAt_5068e)
  | 7 => aWd q.2.2.2.2.1 (.methodLink own q.1 yJ9_floorDiv_7cf53)
  | _ => false
def aCC (P : List aM) (own : String) (q : Nat × Nat × Nat × Nat × Nat × Nat × Nat × Nat) : Bool := match Nat.beq q.2.1 0 with
  | true => aPC own q
  | false => match P[q.2.2.1]? with
    | some M => (aWd q.2.2.2.2.1 (.methodLink own q.1 (aY M)) && aWd q.2.2.2.2.2.2.2 (.initialized (aY M).cls)) && (decide ((aY M).cls ≠ "java/lang/invoke/MethodHandle") && (decide ((aY M).cls ≠ "java/lang/invoke/VarHandle") && decide ((parseMethodDescriptor (aY M).desc).map (fun d => d.parameters.length) = some q.2.2.2.1))) && (match q.2.1 with
      | 0 => false
      | 1 => aWd q.2.2.2.2.2.1 (.static (aY M))
      | ci + 2 => match vwCl[ci]? with
        | some r => decide (r.1 = (aY M).cls) && (aWd q.2.2.2.2.2.1 (.instanceMethod (aY M)) && aWd q.2.2.2.2.2.2.1 (.selects (aY M).cls (aY M) (aY M)))
        | none => false)
    | none => false
/-- the static rows that are read, by the number that stands for them -/
def aStat : List (Nat × String × String × String) := [(1001, "HalfDone", "TENS", "[I"), (1002, "HalfDone$WillReader", "LEAST", "[I"), (1003, "HalfDone$WillReader", "MOST", "[I")]
/-- the texts that are read -/
def aStr : List (Nat × String) := [(2000, "y"), (2001, "vksdnpci"), (2002, "vrd"), (2003, "abcde"), (2004, "abcdek")]
/-- nest mates' links -/
def aNest : List Cond := [.fieldLinkNest RX1 44 "HalfDone" "TENS" "[I" "HalfDone", .fieldLinkNest RX5 41 "HalfDone" "TENS" "[I" "HalfDone"]
def aKC (own : String) (q : Nat × Value × Nat) : Bool := match q.2.1 with
  | .int v => aWd q.2.2 (.constant own q.1 v)
  | .long v => aWd q.2.2 (.constantLong own q.1 v)
  | .ref a => match aFd aStr a with
    | some t => decide (lw_tbl[q.2.2]? = some (Cond.stringRef own q.1 t))
    | none => match aFd aStat a with
      | some (C, n, d) => aWd q.2.2 (.fieldLink own q.1 C n d) || decide (Cond.fieldLinkNest own q.1 C n d "HalfDone" ∈ aNest)
      | none => false
  | _ => false
def aClC (P : List aM) (c : aCl) : Bool := c.2.1.all (aFC c.1) && (c.2.2.1.all (aCC P c.1) && c.2.2.2.all (aKC c.1))
def aQ (b : ByteArray) (q : Nat × Instr × Nat) : Bool := decide (decode b q.1 = .ok q.2) && decide (q.2.2 = aLn q.2.1 q.2.2)
def aCoC (M : aM) : Bool := (aCo M).all (aQ (aBy M))
def aMC (M : aM) : Bool := (aWd (aWi M) (.code (aY M) (aBy M) (aML M) (aRt M)) && (plainName (aY M).cls && decide ((aY M).cls = aOwn M))) && Nat.ble (aML M) 22
theorem aAll2 {α : Type} {l : List α} {f : α → Bool} (n : Nat) (h1 : (l.take n).all f = true) (h2 : (l.drop n).all f = true) : l.all f = true := by
  rw [← List.take_append_drop n l, List.all_append, h1, h2]
  rfl

def aS : List aSh := [.inl 11, .inl 9, .inr (0, 240), .inl 10, .inl 6, .inr (0, 240), .inl 7, .inr (4, 6), .inr (0, 240), .inr (0, 240), .inr (0, 240), .inr (0, 240), .inr (0, 240), .inr (0, 240), .inr (0, 6), .inr (0, 8), .inr (0, 64), .inr (4, 6), .inr (0, 160), .inr (0, 160), .inr (0, 160), .inr (0, 160), .inr (0, 160), .inr (0, 160), .inl 0, .inr (4, 5), .inr (0, 12), .inr (0, 12), .inr (0, 12), .inr (0, 12), .inr (0, 12), .inr (0, 5), .inl 3, .inr (0, 12), .inr (0, 12), .inr (0, 12), .inl 8, .inr (4, 40), .inr (0, 67), .inr (0, 67), .inr (0, 67), .inr (0, 67), .inr (0, 67), .inr (0, 67), .inr (0, 67), .inr (0, 67), .inr (0, 67), .inr (0, 67), .inr (0, 67), .inr (0, 67), .inr (0, 67), .inr (0, 67), .inr (0, 67), .inr (0, 67), .inr (0, 67), .inr (0, 67), .inr (0, 67), .inr (0, 67), .inr (0, 67), .inr (0, 67), .inr (0, 67), .inr (0, 67), .inr (0, 67), .inr (0, 67), .inr (0, 67), .inr (0, 67), .inr (0, 67), .inr (0, 67), .inr (0, 67), .inr (0, 67), .inr (0, 67), .inr (0, 67), .inr (0, 67), .inr (0, 67), .inr (0, 67), .inr (0, 67), .inr (0, 67), .inr (0, 67), .inr (0, 67), .inl 1, .inr (0, 6), .inr (0, 64), .inr (0, 64), .inr (0, 64), .inr (0, 64), .inl 2, .inr (0, 6), .inr (0, 6), .inr (0, 6), .inr (0, 54), .inr (0, 54), .inr (0, 832), .inr (0, 64), .inr (0, 832), .inl 5, .inr (0, 7), .inr (0, 4), .inr (0, 24), .inr (0, 24), .inr (0, 6), .inl 4, .inr (0, 6), .inr (0, 6), .inr (0, 6), .inr (0, 48), .inr (0, 48), .inr (0, 6), .inr (0, 5), .inr (0, 5), .inr (0, 67), .inl 4, .inr (0, 6), .inr (0, 6), .inr (0, 6), .inr (0, 48), .inr (0, 48), .inr (0, 6), .inr (0, 5), .inr (0, 5), .inr (0, 67), .inl 12, .inr (1, 240), .inr (1, 1440), .inr (0, 6), .inr (0, 128), .inr (0, 24), .inr (0, 24), .inr (0, 96), .inr (0, 96), .inr (0, 36), .inr (0, 36), .inr (0, 5), .inr (0, 5), .inr (0, 60), .inr (0, 5), .inr (0, 67), .inr (0, 2680), .inr (0, 5), .inr (0, 6), .inr (2, 384), .inr (0, 6), .inr (0, 6), .inr (0, 6), .inr (0, 6), .inr (0, 6), .inr (0, 6), .inr (0, 12), .inr (0, 12), .inr (0, 12), .inr (0, 67), .inr (3, 1)]
end
section
/-! the checks of the program, by the kernel -/
set_option maxRecDepth 100000 in
theorem aOC_RX0 : aClC aProg aC_RX0 = true := by decide +kernel
set_option maxRecDepth 100000 in
theorem aOC_RX1 : aClC aProg aC_RX1 = true := by decide +kernel
set_option maxRecDepth 100000 in
theorem aOC_RX2 : aClC aProg aC_RX2 = true := by decide +kernel
set_option maxRecDepth 100000 in
theorem aOC_RX3 : aClC aProg aC_RX3 = true := by decide +kernel
set_option maxRecDepth 100000 in
theorem aOC_RX4 : aClC aProg aC_RX4 = true := by decide +kernel
set_option maxRecDepth 100000 in
theorem aOC_RX5 : aClC aProg aC_RX5 = true := by decide +kernel
set_option maxRecDepth 100000 in
theorem aOC_RX6 : aClC aProg aC_RX6 = true := by decide +kernel
set_option maxRecDepth 100000 in
theorem aOC_RX7 : aClC aProg aC_RX7 = true := by decide +kernel
set_option maxRecDepth 100000 in
theorem aOC_RX8 : aClC aProg aC_RX8 = true := by decide +kernel
set_option maxRecDepth 100000 in
theorem aOC_RX9 : aClC aProg aC_RX9 = true := by decide +kernel
set_option maxRecDepth 100000 in
theorem aOC_RX10 : aClC aProg aC_RX10 = true := by decide +kernel
set_option maxRecDepth 100000 in
theorem aOC_RX11 : aClC aProg aC_RX11 = true := by decide +kernel
set_option maxRecDepth 100000 in
theorem aOC_RX12 : aClC aProg aC_RX12 = true := by decide +kernel
set_option maxRecDepth 100000 in
theorem aOC_RJ6 : aClC aProg aC_RJ6 = true := by decide +kernel
set_option maxRecDepth 100000 in
theorem aOC_RJ7 : aClC aProg aC_RJ7 = true := by decide +kernel
set_option maxRecDepth 100000 in
theorem aOC_RL : aClC aProg aC_RL = true := by decide +kernel
end
section
/-! the checks of the program, by the kernel -/
set_option maxRecDepth 100000 in
theorem aOM_X0_has : aMC aM_X0_has = true := by decide +kernel
set_option maxRecDepth 100000 in
theorem aOK_X0_has : aCoC aM_X0_has = true := by decide +kernel
set_option maxRecDepth 100000 in
theorem aOM_X0_read : aMC aM_X0_read = true := by decide +kernel
set_option maxRecDepth 100000 in
theorem aOK_X0_read_0 : ((aL_X0_read).take 40).all (aQ cX0_read) = true := by decide +kernel
set_option maxRecDepth 100000 in
theorem aOK_X0_read_1 : ((aL_X0_read).drop 40).all (aQ cX0_read) = true := by decide +kernel
theorem aOK_X0_read : aCoC aM_X0_read = true := aAll2 40 aOK_X0_read_0 (aOK_X0_read_1)
set_option maxRecDepth 100000 in
theorem aOM_X0_add : aMC aM_X0_add = true := by decide +kernel
set_option maxRecDepth 100000 in
theorem aOK_X0_add : aCoC aM_X0_add = true := by decide +kernel
set_option maxRecDepth 100000 in
theorem aOM_X1_full : aMC aM_X1_full = true := by decide +kernel
set_option maxRecDepth 100000 in
theorem aOK_X1_full : aCoC aM_X1_full = true := by decide +kernel
set_option maxRecDepth 100000 in
theorem aOM_X1_lineUp : aMC aM_X1_lineUp = true := by decide +kernel
set_option maxRecDepth 100000 in
theorem aOK_X1_lineUp_0 : ((aL_X1_lineUp).take 40).all (aQ cX1_lineUp) = true := by decide +kernel
set_option maxRecDepth 100000 in
theorem aOK_X1_lineUp_1 : (((aL_X1_lineUp).drop 40).take 40).all (aQ cX1_lineUp) = true := by decide +kernel
set_option maxRecDepth 100000 in
theorem aOK_X1_lineUp_2 : (((aL_X1_lineUp).drop 40).drop 40).all (aQ cX1_lineUp) = true := by decide +kernel
theorem aOK_X1_lineUp : aCoC aM_X1_lineUp = true := aAll2 40 aOK_X1_lineUp_0 (aAll2 40 aOK_X1_lineUp_1 (aOK_X1_lineUp_2))
set_option maxRecDepth 100000 in
theorem aOM_X1_putInOrder : aMC aM_X1_putInOrder = true := by decide +kernel
set_option maxRecDepth 100000 in
theorem aOK_X1_putInOrder_0 : ((aL_X1_putInOrder).take 40).all (aQ cX1_putInOrder) = true := by decide +kernel
set_option maxRecDepth 100000 in
theorem aOK_X1_putInOrder_1 : ((aL_X1_putInOrder).drop 40).all (aQ cX1_putInOrder) = true := by decide +kernel
theorem aOK_X1_putInOrder : aCoC aM_X1_putInOrder = true := aAll2 40 aOK_X1_putInOrder_0 (aOK_X1_putInOrder_1)
set_option maxRecDepth 100000 in
theorem aOM_X1_placeOf : aMC aM_X1_placeOf = true := by decide +kernel
set_option maxRecDepth 100000 in
theorem aOK_X1_placeOf : aCoC aM_X1_placeOf = true := by decide +kernel
set_option maxRecDepth 100000 in
theorem aOM_X1_spanSets : aMC aM_X1_spanSets = true := by decide +kernel
set_option maxRecDepth 100000 in
theorem aOK_X1_spanSets_0 : ((aL_X1_spanSets).take 40).all (aQ cX1_spanSets) = true := by decide +kernel
set_option maxRecDepth 100000 in
theorem aOK_X1_spanSets_1 : ((aL_X1_spanSets).drop 40).all (aQ cX1_spanSets) = true := by decide +kernel
theorem aOK_X1_spanSets : aCoC aM_X1_spanSets = true := aAll2 40 aOK_X1_spanSets_0 (aOK_X1_spanSets_1)
set_option maxRecDepth 100000 in
theorem aOM_X1_dealNothing : aMC aM_X1_dealNothing = true := by decide +kernel
set_option maxRecDepth 100000 in
theorem aOK_X1_dealNothing : aCoC aM_X1_dealNothing = true := by decide +kernel
set_option maxRecDepth 100000 in
theorem aOM_X1_shareOf : aMC aM_X1_shareOf = true := by decide +kernel
set_option maxRecDepth 100000 in
theorem aOK_X1_shareOf_0 : ((aL_X1_shareOf).take 40).all (aQ cX1_shareOf) = true := by decide +kernel
set_option maxRecDepth 100000 in
theorem aOK_X1_shareOf_1 : ((aL_X1_shareOf).drop 40).all (aQ cX1_shareOf) = true := by decide +kernel
theorem aOK_X1_shareOf : aCoC aM_X1_shareOf = true := aAll2 40 aOK_X1_shareOf_0 (aOK_X1_shareOf_1)
set_option maxRecDepth 100000 in
theorem aOM_X1_dealTo : aMC aM_X1_dealTo = true := by decide +kernel
set_option maxRecDepth 100000 in
theorem aOK_X1_dealTo : aCoC aM_X1_dealTo = true := by decide +kernel
set_option maxRecDepth 100000 in
theorem aOM_X1_dealToAllBut : aMC aM_X1_dealToAllBut = true := by decide +kernel
set_option maxRecDepth 100000 in
theorem aOK_X1_dealToAllBut : aCoC aM_X1_dealToAllBut = true := by decide +kernel
set_option maxRecDepth 100000 in
theorem aOM_X1_dealAll : aMC aM_X1_dealAll = true := by decide +kernel
set_option maxRecDepth 100000 in
theorem aOK_X1_dealAll : aCoC aM_X1_dealAll = true := by decide +kernel
set_option maxRecDepth 100000 in
theorem aOM_X1_valuesOf : aMC aM_X1_valuesOf = true := by decide +kernel
set_option maxRecDepth 100000 in
theorem aOK_X1_valuesOf : aCoC aM_X1_valuesOf = true := by decide +kernel
set_option maxRecDepth 100000 in
theorem aOM_X1_digitsOf : aMC aM_X1_digitsOf = true := by decide +kernel
set_option maxRecDepth 100000 in
theorem aOK_X1_digitsOf : aCoC aM_X1_digitsOf = true := by decide +kernel
set_option maxRecDepth 100000 in
theorem aOM_X1_learnBest : aMC aM_X1_learnBest = true := by decide +kernel
set_option maxRecDepth 100000 in
theorem aOK_X1_learnBest_0 : ((aL_X1_learnBest).take 40).all (aQ cX1_learnBest) = true := by decide +kernel
set_option maxRecDepth 100000 in
theorem aOK_X1_learnBest_1 : ((aL_X1_learnBest).drop 40).all (aQ cX1_learnBest) = true := by decide +kernel
theorem aOK_X1_learnBest : aCoC aM_X1_learnBest = true := aAll2 40 aOK_X1_learnBest_0 (aOK_X1_learnBest_1)
set_option maxRecDepth 100000 in
theorem aOM_X1_valuesLearnt : aMC aM_X1_valuesLearnt = true := by decide +kernel
set_option maxRecDepth 100000 in
theorem aOK_X1_valuesLearnt : aCoC aM_X1_valuesLearnt = true := by decide +kernel
set_option maxRecDepth 100000 in
theorem aOM_X1_mostWithin : aMC aM_X1_mostWithin = true := by decide +kernel
set_option maxRecDepth 100000 in
theorem aOK_X1_mostWithin : aCoC aM_X1_mostWithin = true := by decide +kernel
set_option maxRecDepth 100000 in
theorem aOM_X1_mostAlone : aMC aM_X1_mostAlone = true := by decide +kernel
set_option maxRecDepth 100000 in
theorem aOK_X1_mostAlone : aCoC aM_X1_mostAlone = true := by decide +kernel
set_option maxRecDepth 100000 in
theorem aOM_X1_spiteOn : aMC aM_X1_spiteOn = true := by decide +kernel
set_option maxRecDepth 100000 in
theorem aOK_X1_spiteOn_0 : ((aL_X1_spiteOn).take 40).all (aQ cX1_spiteOn) = true := by decide +kernel
set_option maxRecDepth 100000 in
theorem aOK_X1_spiteOn_1 : ((aL_X1_spiteOn).drop 40).all (aQ cX1_spiteOn) = true := by decide +kernel
theorem aOK_X1_spiteOn : aCoC aM_X1_spiteOn = true := aAll2 40 aOK_X1_spiteOn_0 (aOK_X1_spiteOn_1)
set_option maxRecDepth 100000 in
theorem aOM_X1_valuesBehind : aMC aM_X1_valuesBehind = true := by decide +kernel
set_option maxRecDepth 100000 in
theorem aOK_X1_valuesBehind_0 : ((aL_X1_valuesBehind).take 40).all (aQ cX1_valuesBehind) = true := by decide +kernel
set_option maxRecDepth 100000 in
theorem aOK_X1_valuesBehind_1 : ((aL_X1_valuesBehind).drop 40).all (aQ cX1_valuesBehind) = true := by decide +kernel
theorem aOK_X1_valuesBehind : aCoC aM_X1_valuesBehind = true := aAll2 40 aOK_X1_valuesBehind_0 (aOK_X1_valuesBehind_1)
set_option maxRecDepth 100000 in
theorem aOM_X2_beginBest : aMC aM_X2_beginBest = true := by decide +kernel
set_option maxRecDepth 100000 in
theorem aOK_X2_beginBest_0 : ((aL_X2_beginBest).take 40).all (aQ cX2_beginBest) = true := by decide +kernel
set_option maxRecDepth 100000 in
theorem aOK_X2_beginBest_1 : ((aL_X2_beginBest).drop 40).all (aQ cX2_beginBest) = true := by decide +kernel
theorem aOK_X2_beginBest : aCoC aM_X2_beginBest = true := aAll2 40 aOK_X2_beginBest_0 (aOK_X2_beginBest_1)
set_option maxRecDepth 100000 in
theorem aOM_X2_openRanges : aMC aM_X2_openRanges = true := by decide +kernel
set_option maxRecDepth 100000 in
theorem aOK_X2_openRanges_0 : ((aL_X2_openRanges).take 40).all (aQ cX2_openRanges) = true := by decide +kernel
set_option maxRecDepth 100000 in
theorem aOK_X2_openRanges_1 : (((aL_X2_openRanges).drop 40).take 40).all (aQ cX2_openRanges) = true := by decide +kernel
set_option maxRecDepth 100000 in
theorem aOK_X2_openRanges_2 : (((aL_X2_openRanges).drop 40).drop 40).all (aQ cX2_openRanges) = true := by decide +kernel
theorem aOK_X2_openRanges : aCoC aM_X2_openRanges = true := aAll2 40 aOK_X2_openRanges_0 (aAll2 40 aOK_X2_openRanges_1 (aOK_X2_openRanges_2))
set_option maxRecDepth 100000 in
theorem aOM_X2_cutRange : aMC aM_X2_cutRange = true := by decide +kernel
set_option maxRecDepth 100000 in
theorem aOK_X2_cutRange_0 : ((aL_X2_cutRange).take 40).all (aQ cX2_cutRange) = true := by decide +kernel
set_option maxRecDepth 100000 in
theorem aOK_X2_cutRange_1 : ((aL_X2_cutRange).drop 40).all (aQ cX2_cutRange) = true := by decide +kernel
theorem aOK_X2_cutRange : aCoC aM_X2_cutRange = true := aAll2 40 aOK_X2_cutRange_0 (aOK_X2_cutRange_1)
set_option maxRecDepth 100000 in
theorem aOM_X2_mostBegun : aMC aM_X2_mostBegun = true := by decide +kernel
set_option maxRecDepth 100000 in
theorem aOK_X2_mostBegun_0 : ((aL_X2_mostBegun).take 40).all (aQ cX2_mostBegun) = true := by decide +kernel
set_option maxRecDepth 100000 in
theorem aOK_X2_mostBegun_1 : ((aL_X2_mostBegun).drop 40).all (aQ cX2_mostBegun) = true := by decide +kernel
theorem aOK_X2_mostBegun : aCoC aM_X2_mostBegun = true := aAll2 40 aOK_X2_mostBegun_0 (aOK_X2_mostBegun_1)
set_option maxRecDepth 100000 in
theorem aOM_X2_dealNothing : aMC aM_X2_dealNothing = true := by decide +kernel
set_option maxRecDepth 100000 in
theorem aOK_X2_dealNothing_0 : ((aL_X2_dealNothing).take 40).all (aQ cX2_dealNothing) = true := by decide +kernel
set_option maxRecDepth 100000 in
theorem aOK_X2_dealNothing_1 : (((aL_X2_dealNothing).drop 40).take 40).all (aQ cX2_dealNothing) = true := by decide +kernel
set_option maxRecDepth 100000 in
theorem aOK_X2_dealNothing_2 : (((aL_X2_dealNothing).drop 40).drop 40).all (aQ cX2_dealNothing) = true := by decide +kernel
theorem aOK_X2_dealNothing : aCoC aM_X2_dealNothing = true := aAll2 40 aOK_X2_dealNothing_0 (aAll2 40 aOK_X2_dealNothing_1 (aOK_X2_dealNothing_2))
set_option maxRecDepth 100000 in
theorem aOM_X2_undealt : aMC aM_X2_undealt = true := by decide +kernel
set_option maxRecDepth 100000 in
theorem aOK_X2_undealt_0 : ((aL_X2_undealt).take 40).all (aQ cX2_undealt) = true := by decide +kernel
set_option maxRecDepth 100000 in
theorem aOK_X2_undealt_1 : ((aL_X2_undealt).drop 40).all (aQ cX2_undealt) = true := by decide +kernel
theorem aOK_X2_undealt : aCoC aM_X2_undealt = true := aAll2 40 aOK_X2_undealt_0 (aOK_X2_undealt_1)
set_option maxRecDepth 100000 in
theorem aOM_X2_findDays : aMC aM_X2_findDays = true := by decide +kernel
set_option maxRecDepth 100000 in
theorem aOK_X2_findDays_0 : ((aL_X2_findDays).take 40).all (aQ cX2_findDays) = true := by decide +kernel
set_option maxRecDepth 100000 in
theorem aOK_X2_findDays_1 : ((aL_X2_findDays).drop 40).all (aQ cX2_findDays) = true := by decide +kernel
theorem aOK_X2_findDays : aCoC aM_X2_findDays = true := aAll2 40 aOK_X2_findDays_0 (aOK_X2_findDays_1)
set_option maxRecDepth 100000 in
theorem aOM_X2_findPrices : aMC aM_X2_findPrices = true := by decide +kernel
set_option maxRecDepth 100000 in
theorem aOK_X2_findPrices_0 : ((aL_X2_findPrices).take 40).all (aQ cX2_findPrices) = true := by decide +kernel
set_option maxRecDepth 100000 in
theorem aOK_X2_findPrices_1 : (((aL_X2_findPrices).drop 40).take 40).all (aQ cX2_findPrices) = true := by decide +kernel
set_option maxRecDepth 100000 in
theorem aOK_X2_findPrices_2 : (((aL_X2_findPrices).drop 40).drop 40).all (aQ cX2_findPrices) = true := by decide +kernel
theorem aOK_X2_findPrices : aCoC aM_X2_findPrices = true := aAll2 40 aOK_X2_findPrices_0 (aAll2 40 aOK_X2_findPrices_1 (aOK_X2_findPrices_2))
set_option maxRecDepth 100000 in
theorem aOM_X2_quickestBy : aMC aM_X2_quickestBy = true := by decide +kernel
set_option maxRecDepth 100000 in
theorem aOK_X2_quickestBy_0 : ((aL_X2_quickestBy).take 40).all (aQ cX2_quickestBy) = true := by decide +kernel
set_option maxRecDepth 100000 in
theorem aOK_X2_quickestBy_1 : ((aL_X2_quickestBy).drop 40).all (aQ cX2_quickestBy) = true := by decide +kernel
theorem aOK_X2_quickestBy : aCoC aM_X2_quickestBy = true := aAll2 40 aOK_X2_quickestBy_0 (aOK_X2_quickestBy_1)
set_option maxRecDepth 100000 in
theorem aOM_X2_shareOut : aMC aM_X2_shareOut = true := by decide +kernel
set_option maxRecDepth 100000 in
theorem aOK_X2_shareOut_0 : ((aL_X2_shareOut).take 40).all (aQ cX2_shareOut) = true := by decide +kernel
set_option maxRecDepth 100000 in
theorem aOK_X2_shareOut_1 : ((aL_X2_shareOut).drop 40).all (aQ cX2_shareOut) = true := by decide +kernel
theorem aOK_X2_shareOut : aCoC aM_X2_shareOut = true := aAll2 40 aOK_X2_shareOut_0 (aOK_X2_shareOut_1)
set_option maxRecDepth 100000 in
theorem aOM_X3_add : aMC aM_X3_add = true := by decide +kernel
set_option maxRecDepth 100000 in
theorem aOK_X3_add : aCoC aM_X3_add = true := by decide +kernel
set_option maxRecDepth 100000 in
theorem aOM_X3_doneOf : aMC aM_X3_doneOf = true := by decide +kernel
set_option maxRecDepth 100000 in
theorem aOK_X3_doneOf : aCoC aM_X3_doneOf = true := by decide +kernel
set_option maxRecDepth 100000 in
theorem aOM_X3_isSo : aMC aM_X3_isSo = true := by decide +kernel
set_option maxRecDepth 100000 in
theorem aOK_X3_isSo : aCoC aM_X3_isSo = true := by decide +kernel
set_option maxRecDepth 100000 in
theorem aOM_X4_clear : aMC aM_X4_clear = true := by decide +kernel
set_option maxRecDepth 100000 in
theorem aOK_X4_clear : aCoC aM_X4_clear = true := by decide +kernel
set_option maxRecDepth 100000 in
theorem aOM_X4_addThing : aMC aM_X4_addThing = true := by decide +kernel
set_option maxRecDepth 100000 in
theorem aOK_X4_addThing_0 : ((aL_X4_addThing).take 40).all (aQ cX4_addThing) = true := by decide +kernel
set_option maxRecDepth 100000 in
theorem aOK_X4_addThing_1 : ((aL_X4_addThing).drop 40).all (aQ cX4_addThing) = true := by decide +kernel
theorem aOK_X4_addThing : aCoC aM_X4_addThing = true := aAll2 40 aOK_X4_addThing_0 (aOK_X4_addThing_1)
set_option maxRecDepth 100000 in
theorem aOM_X4_addStep : aMC aM_X4_addStep = true := by decide +kernel
set_option maxRecDepth 100000 in
theorem aOK_X4_addStep : aCoC aM_X4_addStep = true := by decide +kernel
set_option maxRecDepth 100000 in
theorem aOM_X4_settle : aMC aM_X4_settle = true := by decide +kernel
set_option maxRecDepth 100000 in
theorem aOK_X4_settle : aCoC aM_X4_settle = true := by decide +kernel
set_option maxRecDepth 100000 in
theorem aOM_X4_addHeir : aMC aM_X4_addHeir = true := by decide +kernel
set_option maxRecDepth 100000 in
theorem aOK_X4_addHeir : aCoC aM_X4_addHeir = true := by decide +kernel
set_option maxRecDepth 100000 in
theorem aOM_X4_addTool : aMC aM_X4_addTool = true := by decide +kernel
set_option maxRecDepth 100000 in
theorem aOK_X4_addTool : aCoC aM_X4_addTool = true := by decide +kernel
set_option maxRecDepth 100000 in
theorem aOM_X4_isWhole : aMC aM_X4_isWhole = true := by decide +kernel
set_option maxRecDepth 100000 in
theorem aOK_X4_isWhole : aCoC aM_X4_isWhole = true := by decide +kernel
set_option maxRecDepth 100000 in
theorem aOM_X4_isTold : aMC aM_X4_isTold = true := by decide +kernel
set_option maxRecDepth 100000 in
theorem aOK_X4_isTold : aCoC aM_X4_isTold = true := by decide +kernel
set_option maxRecDepth 100000 in
theorem aOM_X4_hasThing : aMC aM_X4_hasThing = true := by decide +kernel
set_option maxRecDepth 100000 in
theorem aOK_X4_hasThing : aCoC aM_X4_hasThing = true := by decide +kernel
set_option maxRecDepth 100000 in
theorem aOM_X4_hasHeir : aMC aM_X4_hasHeir = true := by decide +kernel
set_option maxRecDepth 100000 in
theorem aOK_X4_hasHeir : aCoC aM_X4_hasHeir = true := by decide +kernel
set_option maxRecDepth 100000 in
theorem aOM_X4_hasStep : aMC aM_X4_hasStep = true := by decide +kernel
set_option maxRecDepth 100000 in
theorem aOK_X4_hasStep : aCoC aM_X4_hasStep = true := by decide +kernel
set_option maxRecDepth 100000 in
theorem aOM_X4_hasSet : aMC aM_X4_hasSet = true := by decide +kernel
set_option maxRecDepth 100000 in
theorem aOK_X4_hasSet : aCoC aM_X4_hasSet = true := by decide +kernel
set_option maxRecDepth 100000 in
theorem aOM_X4_isOpen : aMC aM_X4_isOpen = true := by decide +kernel
set_option maxRecDepth 100000 in
theorem aOK_X4_isOpen : aCoC aM_X4_isOpen = true := by decide +kernel
set_option maxRecDepth 100000 in
theorem aOM_X4_skill : aMC aM_X4_skill = true := by decide +kernel
set_option maxRecDepth 100000 in
theorem aOK_X4_skill : aCoC aM_X4_skill = true := by decide +kernel
set_option maxRecDepth 100000 in
theorem aOM_X4_addSkill : aMC aM_X4_addSkill = true := by decide +kernel
set_option maxRecDepth 100000 in
theorem aOK_X4_addSkill : aCoC aM_X4_addSkill = true := by decide +kernel
set_option maxRecDepth 100000 in
theorem aOM_X4_allSkills : aMC aM_X4_allSkills = true := by decide +kernel
set_option maxRecDepth 100000 in
theorem aOK_X4_allSkills : aCoC aM_X4_allSkills = true := by decide +kernel
set_option maxRecDepth 100000 in
theorem aOM_X4_heldBy : aMC aM_X4_heldBy = true := by decide +kernel
set_option maxRecDepth 100000 in
theorem aOK_X4_heldBy : aCoC aM_X4_heldBy = true := by decide +kernel
set_option maxRecDepth 100000 in
theorem aOM_X4_countOf : aMC aM_X4_countOf = true := by decide +kernel
set_option maxRecDepth 100000 in
theorem aOK_X4_countOf : aCoC aM_X4_countOf = true := by decide +kernel
set_option maxRecDepth 100000 in
theorem aOM_X4_finishedValues : aMC aM_X4_finishedValues = true := by decide +kernel
set_option maxRecDepth 100000 in
theorem aOK_X4_finishedValues : aCoC aM_X4_finishedValues = true := by decide +kernel
set_option maxRecDepth 100000 in
theorem aOM_X4_daysFor : aMC aM_X4_daysFor = true := by decide +kernel
set_option maxRecDepth 100000 in
theorem aOK_X4_daysFor : aCoC aM_X4_daysFor = true := by decide +kernel
set_option maxRecDepth 100000 in
theorem aOM_X4_stepDays : aMC aM_X4_stepDays = true := by decide +kernel
set_option maxRecDepth 100000 in
theorem aOK_X4_stepDays : aCoC aM_X4_stepDays = true := by decide +kernel
set_option maxRecDepth 100000 in
theorem aOM_X4_daysFrom : aMC aM_X4_daysFrom = true := by decide +kernel
set_option maxRecDepth 100000 in
theorem aOK_X4_daysFrom_0 : ((aL_X4_daysFrom).take 40).all (aQ cX4_daysFrom) = true := by decide +kernel
set_option maxRecDepth 100000 in
theorem aOK_X4_daysFrom_1 : ((aL_X4_daysFrom).drop 40).all (aQ cX4_daysFrom) = true := by decide +kernel
theorem aOK_X4_daysFrom : aCoC aM_X4_daysFrom = true := aAll2 40 aOK_X4_daysFrom_0 (aOK_X4_daysFrom_1)
set_option maxRecDepth 100000 in
theorem aOM_X4_aloneDays : aMC aM_X4_aloneDays = true := by decide +kernel
set_option maxRecDepth 100000 in
theorem aOK_X4_aloneDays : aCoC aM_X4_aloneDays = true := by decide +kernel
set_option maxRecDepth 100000 in
theorem aOM_X4_isInTime : aMC aM_X4_isInTime = true := by decide +kernel
set_option maxRecDepth 100000 in
theorem aOK_X4_isInTime : aCoC aM_X4_isInTime = true := by decide +kernel
set_option maxRecDepth 100000 in
theorem aOM_X4_daysInTime : aMC aM_X4_daysInTime = true := by decide +kernel
set_option maxRecDepth 100000 in
theorem aOK_X4_daysInTime : aCoC aM_X4_daysInTime = true := by decide +kernel
set_option maxRecDepth 100000 in
theorem aOM_X4_aloneInTime : aMC aM_X4_aloneInTime = true := by decide +kernel
set_option maxRecDepth 100000 in
theorem aOK_X4_aloneInTime : aCoC aM_X4_aloneInTime = true := by decide +kernel
end
section
/-! the checks of the program, by the kernel -/
set_option maxRecDepth 100000 in
theorem aOM_X4_bestSkill : aMC aM_X4_bestSkill = true := by decide +kernel
set_option maxRecDepth 100000 in
theorem aOK_X4_bestSkill : aCoC aM_X4_bestSkill = true := by decide +kernel
set_option maxRecDepth 100000 in
theorem aOM_X4_everyone : aMC aM_X4_everyone = true := by decide +kernel
set_option maxRecDepth 100000 in
theorem aOK_X4_everyone : aCoC aM_X4_everyone = true := by decide +kernel
set_option maxRecDepth 100000 in
theorem aOM_X4_firstStuck : aMC aM_X4_firstStuck = true := by decide +kernel
set_option maxRecDepth 100000 in
theorem aOK_X4_firstStuck : aCoC aM_X4_firstStuck = true := by decide +kernel
set_option maxRecDepth 100000 in
theorem aOM_X4_teamDays : aMC aM_X4_teamDays = true := by decide +kernel
set_option maxRecDepth 100000 in
theorem aOK_X4_teamDays_0 : ((aL_X4_teamDays).take 40).all (aQ cX4_teamDays) = true := by decide +kernel
set_option maxRecDepth 100000 in
theorem aOK_X4_teamDays_1 : ((aL_X4_teamDays).drop 40).all (aQ cX4_teamDays) = true := by decide +kernel
theorem aOK_X4_teamDays : aCoC aM_X4_teamDays = true := aAll2 40 aOK_X4_teamDays_0 (aOK_X4_teamDays_1)
set_option maxRecDepth 100000 in
theorem aOM_X4_fewestInTime : aMC aM_X4_fewestInTime = true := by decide +kernel
set_option maxRecDepth 100000 in
theorem aOK_X4_fewestInTime : aCoC aM_X4_fewestInTime = true := by decide +kernel
set_option maxRecDepth 100000 in
theorem aOM_X4_paidByGuilds : aMC aM_X4_paidByGuilds = true := by decide +kernel
set_option maxRecDepth 100000 in
theorem aOK_X4_paidByGuilds : aCoC aM_X4_paidByGuilds = true := by decide +kernel
set_option maxRecDepth 100000 in
theorem aOM_X4_passDay : aMC aM_X4_passDay = true := by decide +kernel
set_option maxRecDepth 100000 in
theorem aOK_X4_passDay_0 : ((aL_X4_passDay).take 40).all (aQ cX4_passDay) = true := by decide +kernel
set_option maxRecDepth 100000 in
theorem aOK_X4_passDay_1 : ((aL_X4_passDay).drop 40).all (aQ cX4_passDay) = true := by decide +kernel
theorem aOK_X4_passDay : aCoC aM_X4_passDay = true := aAll2 40 aOK_X4_passDay_0 (aOK_X4_passDay_1)
set_option maxRecDepth 100000 in
theorem aOM_X4_workOf : aMC aM_X4_workOf = true := by decide +kernel
set_option maxRecDepth 100000 in
theorem aOK_X4_workOf_0 : ((aL_X4_workOf).take 40).all (aQ cX4_workOf) = true := by decide +kernel
set_option maxRecDepth 100000 in
theorem aOK_X4_workOf_1 : ((aL_X4_workOf).drop 40).all (aQ cX4_workOf) = true := by decide +kernel
theorem aOK_X4_workOf : aCoC aM_X4_workOf = true := aAll2 40 aOK_X4_workOf_0 (aOK_X4_workOf_1)
set_option maxRecDepth 100000 in
theorem aOM_X4_workAt : aMC aM_X4_workAt = true := by decide +kernel
set_option maxRecDepth 100000 in
theorem aOK_X4_workAt_0 : ((aL_X4_workAt).take 40).all (aQ cX4_workAt) = true := by decide +kernel
set_option maxRecDepth 100000 in
theorem aOK_X4_workAt_1 : (((aL_X4_workAt).drop 40).take 40).all (aQ cX4_workAt) = true := by decide +kernel
set_option maxRecDepth 100000 in
theorem aOK_X4_workAt_2 : (((aL_X4_workAt).drop 40).drop 40).all (aQ cX4_workAt) = true := by decide +kernel
theorem aOK_X4_workAt : aCoC aM_X4_workAt = true := aAll2 40 aOK_X4_workAt_0 (aAll2 40 aOK_X4_workAt_1 (aOK_X4_workAt_2))
set_option maxRecDepth 100000 in
theorem aOM_X4_closeDay : aMC aM_X4_closeDay = true := by decide +kernel
set_option maxRecDepth 100000 in
theorem aOK_X4_closeDay_0 : ((aL_X4_closeDay).take 40).all (aQ cX4_closeDay) = true := by decide +kernel
set_option maxRecDepth 100000 in
theorem aOK_X4_closeDay_1 : ((aL_X4_closeDay).drop 40).all (aQ cX4_closeDay) = true := by decide +kernel
theorem aOK_X4_closeDay : aCoC aM_X4_closeDay = true := aAll2 40 aOK_X4_closeDay_0 (aOK_X4_closeDay_1)
set_option maxRecDepth 100000 in
theorem aOM_X4_raiseHeirs : aMC aM_X4_raiseHeirs = true := by decide +kernel
set_option maxRecDepth 100000 in
theorem aOK_X4_raiseHeirs_0 : ((aL_X4_raiseHeirs).take 40).all (aQ cX4_raiseHeirs) = true := by decide +kernel
set_option maxRecDepth 100000 in
theorem aOK_X4_raiseHeirs_1 : ((aL_X4_raiseHeirs).drop 40).all (aQ cX4_raiseHeirs) = true := by decide +kernel
theorem aOK_X4_raiseHeirs : aCoC aM_X4_raiseHeirs = true := aAll2 40 aOK_X4_raiseHeirs_0 (aOK_X4_raiseHeirs_1)
set_option maxRecDepth 100000 in
theorem aOM_X5_open : aMC aM_X5_open = true := by decide +kernel
set_option maxRecDepth 100000 in
theorem aOK_X5_open : aCoC aM_X5_open = true := by decide +kernel
set_option maxRecDepth 100000 in
theorem aOM_X5_addThing : aMC aM_X5_addThing = true := by decide +kernel
set_option maxRecDepth 100000 in
theorem aOK_X5_addThing : aCoC aM_X5_addThing = true := by decide +kernel
set_option maxRecDepth 100000 in
theorem aOM_X5_tellOf : aMC aM_X5_tellOf = true := by decide +kernel
set_option maxRecDepth 100000 in
theorem aOK_X5_tellOf : aCoC aM_X5_tellOf = true := by decide +kernel
set_option maxRecDepth 100000 in
theorem aOM_X5_isChoice : aMC aM_X5_isChoice = true := by decide +kernel
set_option maxRecDepth 100000 in
theorem aOK_X5_isChoice : aCoC aM_X5_isChoice = true := by decide +kernel
set_option maxRecDepth 100000 in
theorem aOM_X5_takeRow : aMC aM_X5_takeRow = true := by decide +kernel
set_option maxRecDepth 100000 in
theorem aOK_X5_takeRow_0 : ((aL_X5_takeRow).take 40).all (aQ cX5_takeRow) = true := by decide +kernel
set_option maxRecDepth 100000 in
theorem aOK_X5_takeRow_1 : ((aL_X5_takeRow).drop 40).all (aQ cX5_takeRow) = true := by decide +kernel
theorem aOK_X5_takeRow : aCoC aM_X5_takeRow = true := aAll2 40 aOK_X5_takeRow_0 (aOK_X5_takeRow_1)
set_option maxRecDepth 100000 in
theorem aOM_X5_findLeads : aMC aM_X5_findLeads = true := by decide +kernel
set_option maxRecDepth 100000 in
theorem aOK_X5_findLeads : aCoC aM_X5_findLeads = true := by decide +kernel
set_option maxRecDepth 100000 in
theorem aOM_X5_gainOf : aMC aM_X5_gainOf = true := by decide +kernel
set_option maxRecDepth 100000 in
theorem aOK_X5_gainOf : aCoC aM_X5_gainOf = true := by decide +kernel
set_option maxRecDepth 100000 in
theorem aOM_X5_isContent : aMC aM_X5_isContent = true := by decide +kernel
set_option maxRecDepth 100000 in
theorem aOK_X5_isContent_0 : ((aL_X5_isContent).take 40).all (aQ cX5_isContent) = true := by decide +kernel
set_option maxRecDepth 100000 in
theorem aOK_X5_isContent_1 : ((aL_X5_isContent).drop 40).all (aQ cX5_isContent) = true := by decide +kernel
theorem aOK_X5_isContent : aCoC aM_X5_isContent = true := aAll2 40 aOK_X5_isContent_0 (aOK_X5_isContent_1)
set_option maxRecDepth 100000 in
theorem aOM_X5_areContent : aMC aM_X5_areContent = true := by decide +kernel
set_option maxRecDepth 100000 in
theorem aOK_X5_areContent : aCoC aM_X5_areContent = true := by decide +kernel
set_option maxRecDepth 100000 in
theorem aOM_X5_restingRow : aMC aM_X5_restingRow = true := by decide +kernel
set_option maxRecDepth 100000 in
theorem aOK_X5_restingRow_0 : ((aL_X5_restingRow).take 40).all (aQ cX5_restingRow) = true := by decide +kernel
set_option maxRecDepth 100000 in
theorem aOK_X5_restingRow_1 : ((aL_X5_restingRow).drop 40).all (aQ cX5_restingRow) = true := by decide +kernel
theorem aOK_X5_restingRow : aCoC aM_X5_restingRow = true := aAll2 40 aOK_X5_restingRow_0 (aOK_X5_restingRow_1)
set_option maxRecDepth 100000 in
theorem aOM_X5_pickBy : aMC aM_X5_pickBy = true := by decide +kernel
set_option maxRecDepth 100000 in
theorem aOK_X5_pickBy_0 : ((aL_X5_pickBy).take 40).all (aQ cX5_pickBy) = true := by decide +kernel
set_option maxRecDepth 100000 in
theorem aOK_X5_pickBy_1 : ((aL_X5_pickBy).drop 40).all (aQ cX5_pickBy) = true := by decide +kernel
theorem aOK_X5_pickBy : aCoC aM_X5_pickBy = true := aAll2 40 aOK_X5_pickBy_0 (aOK_X5_pickBy_1)
set_option maxRecDepth 100000 in
theorem aOM_X6_read : aMC aM_X6_read = true := by decide +kernel
set_option maxRecDepth 100000 in
theorem aOK_X6_read : aCoC aM_X6_read = true := by decide +kernel
set_option maxRecDepth 100000 in
theorem aOM_X6_emit : aMC aM_X6_emit = true := by decide +kernel
set_option maxRecDepth 100000 in
theorem aOK_X6_emit : aCoC aM_X6_emit = true := by decide +kernel
set_option maxRecDepth 100000 in
theorem aOM_X6_readClause : aMC aM_X6_readClause = true := by decide +kernel
set_option maxRecDepth 100000 in
theorem aOK_X6_readClause_0 : ((aL_X6_readClause).take 40).all (aQ cX6_readClause) = true := by decide +kernel
set_option maxRecDepth 100000 in
theorem aOK_X6_readClause_1 : (((aL_X6_readClause).drop 40).take 40).all (aQ cX6_readClause) = true := by decide +kernel
set_option maxRecDepth 100000 in
theorem aOK_X6_readClause_2 : (((aL_X6_readClause).drop 40).drop 40).all (aQ cX6_readClause) = true := by decide +kernel
theorem aOK_X6_readClause : aCoC aM_X6_readClause = true := aAll2 40 aOK_X6_readClause_0 (aAll2 40 aOK_X6_readClause_1 (aOK_X6_readClause_2))
set_option maxRecDepth 100000 in
theorem aOM_X6_readCondition : aMC aM_X6_readCondition = true := by decide +kernel
set_option maxRecDepth 100000 in
theorem aOK_X6_readCondition : aCoC aM_X6_readCondition = true := by decide +kernel
set_option maxRecDepth 100000 in
theorem aOM_X6_readTruth : aMC aM_X6_readTruth = true := by decide +kernel
set_option maxRecDepth 100000 in
theorem aOK_X6_readTruth : aCoC aM_X6_readTruth = true := by decide +kernel
set_option maxRecDepth 100000 in
theorem aOM_X6_readUnit : aMC aM_X6_readUnit = true := by decide +kernel
set_option maxRecDepth 100000 in
theorem aOK_X6_readUnit_0 : ((aL_X6_readUnit).take 40).all (aQ cX6_readUnit) = true := by decide +kernel
set_option maxRecDepth 100000 in
theorem aOK_X6_readUnit_1 : ((aL_X6_readUnit).drop 40).all (aQ cX6_readUnit) = true := by decide +kernel
theorem aOK_X6_readUnit : aCoC aM_X6_readUnit = true := aAll2 40 aOK_X6_readUnit_0 (aOK_X6_readUnit_1)
set_option maxRecDepth 100000 in
theorem aOM_X6_readNested : aMC aM_X6_readNested = true := by decide +kernel
set_option maxRecDepth 100000 in
theorem aOK_X6_readNested_0 : ((aL_X6_readNested).take 40).all (aQ cX6_readNested) = true := by decide +kernel
set_option maxRecDepth 100000 in
theorem aOK_X6_readNested_1 : ((aL_X6_readNested).drop 40).all (aQ cX6_readNested) = true := by decide +kernel
theorem aOK_X6_readNested : aCoC aM_X6_readNested = true := aAll2 40 aOK_X6_readNested_0 (aOK_X6_readNested_1)
set_option maxRecDepth 100000 in
theorem aOM_X6_readSum : aMC aM_X6_readSum = true := by decide +kernel
set_option maxRecDepth 100000 in
theorem aOK_X6_readSum_0 : ((aL_X6_readSum).take 40).all (aQ cX6_readSum) = true := by decide +kernel
set_option maxRecDepth 100000 in
theorem aOK_X6_readSum_1 : ((aL_X6_readSum).drop 40).all (aQ cX6_readSum) = true := by decide +kernel
theorem aOK_X6_readSum : aCoC aM_X6_readSum = true := aAll2 40 aOK_X6_readSum_0 (aOK_X6_readSum_1)
set_option maxRecDepth 100000 in
theorem aOM_X6_readTerm : aMC aM_X6_readTerm = true := by decide +kernel
set_option maxRecDepth 100000 in
theorem aOK_X6_readTerm_0 : ((aL_X6_readTerm).take 40).all (aQ cX6_readTerm) = true := by decide +kernel
set_option maxRecDepth 100000 in
theorem aOK_X6_readTerm_1 : ((aL_X6_readTerm).drop 40).all (aQ cX6_readTerm) = true := by decide +kernel
theorem aOK_X6_readTerm : aCoC aM_X6_readTerm = true := aAll2 40 aOK_X6_readTerm_0 (aOK_X6_readTerm_1)
set_option maxRecDepth 100000 in
theorem aOM_X6_readAtom : aMC aM_X6_readAtom = true := by decide +kernel
set_option maxRecDepth 100000 in
theorem aOK_X6_readAtom_0 : ((aL_X6_readAtom).take 40).all (aQ cX6_readAtom) = true := by decide +kernel
set_option maxRecDepth 100000 in
theorem aOK_X6_readAtom_1 : ((aL_X6_readAtom).drop 40).all (aQ cX6_readAtom) = true := by decide +kernel
theorem aOK_X6_readAtom : aCoC aM_X6_readAtom = true := aAll2 40 aOK_X6_readAtom_0 (aOK_X6_readAtom_1)
set_option maxRecDepth 100000 in
theorem aOM_X6_comparison : aMC aM_X6_comparison = true := by decide +kernel
set_option maxRecDepth 100000 in
theorem aOK_X6_comparison : aCoC aM_X6_comparison = true := by decide +kernel
set_option maxRecDepth 100000 in
theorem aOM_X6_letterOf : aMC aM_X6_letterOf = true := by decide +kernel
set_option maxRecDepth 100000 in
theorem aOK_X6_letterOf : aCoC aM_X6_letterOf = true := by decide +kernel
set_option maxRecDepth 100000 in
theorem aOM_X7_has : aMC aM_X7_has = true := by decide +kernel
set_option maxRecDepth 100000 in
theorem aOK_X7_has : aCoC aM_X7_has = true := by decide +kernel
set_option maxRecDepth 100000 in
theorem aOM_X7_add : aMC aM_X7_add = true := by decide +kernel
set_option maxRecDepth 100000 in
theorem aOK_X7_add : aCoC aM_X7_add = true := by decide +kernel
set_option maxRecDepth 100000 in
theorem aOM_X7_tellOfWish : aMC aM_X7_tellOfWish = true := by decide +kernel
set_option maxRecDepth 100000 in
theorem aOK_X7_tellOfWish : aCoC aM_X7_tellOfWish = true := by decide +kernel
set_option maxRecDepth 100000 in
theorem aOM_X7_likes : aMC aM_X7_likes = true := by decide +kernel
set_option maxRecDepth 100000 in
theorem aOK_X7_likes_0 : ((aL_X7_likes).take 40).all (aQ cX7_likes) = true := by decide +kernel
set_option maxRecDepth 100000 in
theorem aOK_X7_likes_1 : ((aL_X7_likes).drop 40).all (aQ cX7_likes) = true := by decide +kernel
theorem aOK_X7_likes : aCoC aM_X7_likes = true := aAll2 40 aOK_X7_likes_0 (aOK_X7_likes_1)
set_option maxRecDepth 100000 in
theorem aOM_X7_signsLiked : aMC aM_X7_signsLiked = true := by decide +kernel
set_option maxRecDepth 100000 in
theorem aOK_X7_signsLiked : aCoC aM_X7_signsLiked = true := by decide +kernel
set_option maxRecDepth 100000 in
theorem aOM_X7_worth : aMC aM_X7_worth = true := by decide +kernel
set_option maxRecDepth 100000 in
theorem aOK_X7_worth_0 : ((aL_X7_worth).take 40).all (aQ cX7_worth) = true := by decide +kernel
set_option maxRecDepth 100000 in
theorem aOK_X7_worth_1 : (((aL_X7_worth).drop 40).take 40).all (aQ cX7_worth) = true := by decide +kernel
set_option maxRecDepth 100000 in
theorem aOK_X7_worth_2 : (((aL_X7_worth).drop 40).drop 40).all (aQ cX7_worth) = true := by decide +kernel
theorem aOK_X7_worth : aCoC aM_X7_worth = true := aAll2 40 aOK_X7_worth_0 (aAll2 40 aOK_X7_worth_1 (aOK_X7_worth_2))
set_option maxRecDepth 100000 in
theorem aOM_X7_joined : aMC aM_X7_joined = true := by decide +kernel
set_option maxRecDepth 100000 in
theorem aOK_X7_joined_0 : ((aL_X7_joined).take 40).all (aQ cX7_joined) = true := by decide +kernel
set_option maxRecDepth 100000 in
theorem aOK_X7_joined_1 : ((aL_X7_joined).drop 40).all (aQ cX7_joined) = true := by decide +kernel
theorem aOK_X7_joined : aCoC aM_X7_joined = true := aAll2 40 aOK_X7_joined_0 (aOK_X7_joined_1)
set_option maxRecDepth 100000 in
theorem aOM_X7_reckoned : aMC aM_X7_reckoned = true := by decide +kernel
set_option maxRecDepth 100000 in
theorem aOK_X7_reckoned_0 : ((aL_X7_reckoned).take 40).all (aQ cX7_reckoned) = true := by decide +kernel
set_option maxRecDepth 100000 in
theorem aOK_X7_reckoned_1 : ((aL_X7_reckoned).drop 40).all (aQ cX7_reckoned) = true := by decide +kernel
theorem aOK_X7_reckoned : aCoC aM_X7_reckoned = true := aAll2 40 aOK_X7_reckoned_0 (aOK_X7_reckoned_1)
set_option maxRecDepth 100000 in
theorem aOM_X7_push : aMC aM_X7_push = true := by decide +kernel
set_option maxRecDepth 100000 in
theorem aOK_X7_push : aCoC aM_X7_push = true := by decide +kernel
set_option maxRecDepth 100000 in
theorem aOM_X7_pop : aMC aM_X7_pop = true := by decide +kernel
set_option maxRecDepth 100000 in
theorem aOK_X7_pop : aCoC aM_X7_pop = true := by decide +kernel
set_option maxRecDepth 100000 in
theorem aOM_X8_forget : aMC aM_X8_forget = true := by decide +kernel
set_option maxRecDepth 100000 in
theorem aOK_X8_forget : aCoC aM_X8_forget = true := by decide +kernel
set_option maxRecDepth 100000 in
theorem aOM_X8_keep : aMC aM_X8_keep = true := by decide +kernel
set_option maxRecDepth 100000 in
theorem aOK_X8_keep : aCoC aM_X8_keep = true := by decide +kernel
set_option maxRecDepth 100000 in
theorem aOM_X8_takeBack : aMC aM_X8_takeBack = true := by decide +kernel
set_option maxRecDepth 100000 in
theorem aOK_X8_takeBack : aCoC aM_X8_takeBack = true := by decide +kernel
set_option maxRecDepth 100000 in
theorem aOM_X8_keepImage : aMC aM_X8_keepImage = true := by decide +kernel
set_option maxRecDepth 100000 in
theorem aOK_X8_keepImage : aCoC aM_X8_keepImage = true := by decide +kernel
set_option maxRecDepth 100000 in
theorem aOM_X8_bringBack : aMC aM_X8_bringBack = true := by decide +kernel
set_option maxRecDepth 100000 in
theorem aOK_X8_bringBack : aCoC aM_X8_bringBack = true := by decide +kernel
set_option maxRecDepth 100000 in
theorem aOM_X9_bytesOf : aMC aM_X9_bytesOf = true := by decide +kernel
set_option maxRecDepth 100000 in
theorem aOK_X9_bytesOf : aCoC aM_X9_bytesOf = true := by decide +kernel
set_option maxRecDepth 100000 in
theorem aOM_X9_add : aMC aM_X9_add = true := by decide +kernel
set_option maxRecDepth 100000 in
theorem aOK_X9_add : aCoC aM_X9_add = true := by decide +kernel
set_option maxRecDepth 100000 in
theorem aOM_X9_rewind : aMC aM_X9_rewind = true := by decide +kernel
set_option maxRecDepth 100000 in
theorem aOK_X9_rewind : aCoC aM_X9_rewind = true := by decide +kernel
set_option maxRecDepth 100000 in
theorem aOM_X9_peek : aMC aM_X9_peek = true := by decide +kernel
set_option maxRecDepth 100000 in
theorem aOK_X9_peek : aCoC aM_X9_peek = true := by decide +kernel
set_option maxRecDepth 100000 in
theorem aOM_X9_skip : aMC aM_X9_skip = true := by decide +kernel
set_option maxRecDepth 100000 in
theorem aOK_X9_skip : aCoC aM_X9_skip = true := by decide +kernel
set_option maxRecDepth 100000 in
theorem aOM_X9_fails : aMC aM_X9_fails = true := by decide +kernel
set_option maxRecDepth 100000 in
theorem aOK_X9_fails : aCoC aM_X9_fails = true := by decide +kernel
set_option maxRecDepth 100000 in
theorem aOM_X9_must : aMC aM_X9_must = true := by decide +kernel
set_option maxRecDepth 100000 in
theorem aOK_X9_must : aCoC aM_X9_must = true := by decide +kernel
set_option maxRecDepth 100000 in
theorem aOM_X9_number : aMC aM_X9_number = true := by decide +kernel
set_option maxRecDepth 100000 in
theorem aOK_X9_number_0 : ((aL_X9_number).take 40).all (aQ cX9_number) = true := by decide +kernel
set_option maxRecDepth 100000 in
theorem aOK_X9_number_1 : ((aL_X9_number).drop 40).all (aQ cX9_number) = true := by decide +kernel
theorem aOK_X9_number : aCoC aM_X9_number = true := aAll2 40 aOK_X9_number_0 (aOK_X9_number_1)
end
section
/-! the checks of the program, by the kernel -/
set_option maxRecDepth 100000 in
theorem aOM_X9_isDigit : aMC aM_X9_isDigit = true := by decide +kernel
set_option maxRecDepth 100000 in
theorem aOK_X9_isDigit : aCoC aM_X9_isDigit = true := by decide +kernel
set_option maxRecDepth 100000 in
theorem aOM_X10_read : aMC aM_X10_read = true := by decide +kernel
set_option maxRecDepth 100000 in
theorem aOK_X10_read_0 : ((aL_X10_read).take 40).all (aQ cX10_read) = true := by decide +kernel
set_option maxRecDepth 100000 in
theorem aOK_X10_read_1 : ((aL_X10_read).drop 40).all (aQ cX10_read) = true := by decide +kernel
theorem aOK_X10_read : aCoC aM_X10_read = true := aAll2 40 aOK_X10_read_0 (aOK_X10_read_1)
set_option maxRecDepth 100000 in
theorem aOM_X10_readClause : aMC aM_X10_readClause = true := by decide +kernel
set_option maxRecDepth 100000 in
theorem aOK_X10_readClause : aCoC aM_X10_readClause = true := by decide +kernel
set_option maxRecDepth 100000 in
theorem aOM_X10_readThing : aMC aM_X10_readThing = true := by decide +kernel
set_option maxRecDepth 100000 in
theorem aOK_X10_readThing_0 : ((aL_X10_readThing).take 40).all (aQ cX10_readThing) = true := by decide +kernel
set_option maxRecDepth 100000 in
theorem aOK_X10_readThing_1 : (((aL_X10_readThing).drop 40).take 40).all (aQ cX10_readThing) = true := by decide +kernel
set_option maxRecDepth 100000 in
theorem aOK_X10_readThing_2 : (((aL_X10_readThing).drop 40).drop 40).all (aQ cX10_readThing) = true := by decide +kernel
theorem aOK_X10_readThing : aCoC aM_X10_readThing = true := aAll2 40 aOK_X10_readThing_0 (aAll2 40 aOK_X10_readThing_1 (aOK_X10_readThing_2))
set_option maxRecDepth 100000 in
theorem aOM_X10_thingItem : aMC aM_X10_thingItem = true := by decide +kernel
set_option maxRecDepth 100000 in
theorem aOK_X10_thingItem : aCoC aM_X10_thingItem = true := by decide +kernel
set_option maxRecDepth 100000 in
theorem aOM_X10_putItem : aMC aM_X10_putItem = true := by decide +kernel
set_option maxRecDepth 100000 in
theorem aOK_X10_putItem : aCoC aM_X10_putItem = true := by decide +kernel
set_option maxRecDepth 100000 in
theorem aOM_X10_readSteps : aMC aM_X10_readSteps = true := by decide +kernel
set_option maxRecDepth 100000 in
theorem aOK_X10_readSteps_0 : ((aL_X10_readSteps).take 40).all (aQ cX10_readSteps) = true := by decide +kernel
set_option maxRecDepth 100000 in
theorem aOK_X10_readSteps_1 : ((aL_X10_readSteps).drop 40).all (aQ cX10_readSteps) = true := by decide +kernel
theorem aOK_X10_readSteps : aCoC aM_X10_readSteps = true := aAll2 40 aOK_X10_readSteps_0 (aOK_X10_readSteps_1)
set_option maxRecDepth 100000 in
theorem aOM_X10_readHeir : aMC aM_X10_readHeir = true := by decide +kernel
set_option maxRecDepth 100000 in
theorem aOK_X10_readHeir_0 : ((aL_X10_readHeir).take 40).all (aQ cX10_readHeir) = true := by decide +kernel
set_option maxRecDepth 100000 in
theorem aOK_X10_readHeir_1 : (((aL_X10_readHeir).drop 40).take 40).all (aQ cX10_readHeir) = true := by decide +kernel
set_option maxRecDepth 100000 in
theorem aOK_X10_readHeir_2 : (((aL_X10_readHeir).drop 40).drop 40).all (aQ cX10_readHeir) = true := by decide +kernel
theorem aOK_X10_readHeir : aCoC aM_X10_readHeir = true := aAll2 40 aOK_X10_readHeir_0 (aAll2 40 aOK_X10_readHeir_1 (aOK_X10_readHeir_2))
set_option maxRecDepth 100000 in
theorem aOM_X10_readTool : aMC aM_X10_readTool = true := by decide +kernel
set_option maxRecDepth 100000 in
theorem aOK_X10_readTool : aCoC aM_X10_readTool = true := by decide +kernel
set_option maxRecDepth 100000 in
theorem aOM_X10_tradeOf : aMC aM_X10_tradeOf = true := by decide +kernel
set_option maxRecDepth 100000 in
theorem aOK_X10_tradeOf : aCoC aM_X10_tradeOf = true := by decide +kernel
set_option maxRecDepth 100000 in
theorem aOM_X11_feed : aMC aM_X11_feed = true := by decide +kernel
set_option maxRecDepth 100000 in
theorem aOK_X11_feed_0 : ((aL_X11_feed).take 40).all (aQ cX11_feed) = true := by decide +kernel
set_option maxRecDepth 100000 in
theorem aOK_X11_feed_1 : ((aL_X11_feed).drop 40).all (aQ cX11_feed) = true := by decide +kernel
theorem aOK_X11_feed : aCoC aM_X11_feed = true := aAll2 40 aOK_X11_feed_0 (aOK_X11_feed_1)
set_option maxRecDepth 100000 in
theorem aOM_X11_end : aMC aM_X11_end = true := by decide +kernel
set_option maxRecDepth 100000 in
theorem aOK_X11_end : aCoC aM_X11_end = true := by decide +kernel
set_option maxRecDepth 100000 in
theorem aOM_X11_fault : aMC aM_X11_fault = true := by decide +kernel
set_option maxRecDepth 100000 in
theorem aOK_X11_fault : aCoC aM_X11_fault = true := by decide +kernel
set_option maxRecDepth 100000 in
theorem aOM_X11_text : aMC aM_X11_text = true := by decide +kernel
set_option maxRecDepth 100000 in
theorem aOK_X11_text_0 : ((aL_X11_text).take 40).all (aQ cX11_text) = true := by decide +kernel
set_option maxRecDepth 100000 in
theorem aOK_X11_text_1 : ((aL_X11_text).drop 40).all (aQ cX11_text) = true := by decide +kernel
theorem aOK_X11_text : aCoC aM_X11_text = true := aAll2 40 aOK_X11_text_0 (aOK_X11_text_1)
set_option maxRecDepth 100000 in
theorem aOM_X11_putWill : aMC aM_X11_putWill = true := by decide +kernel
set_option maxRecDepth 100000 in
theorem aOK_X11_putWill : aCoC aM_X11_putWill = true := by decide +kernel
set_option maxRecDepth 100000 in
theorem aOM_X11_step : aMC aM_X11_step = true := by decide +kernel
set_option maxRecDepth 100000 in
theorem aOK_X11_step : aCoC aM_X11_step = true := by decide +kernel
set_option maxRecDepth 100000 in
theorem aOM_X11_heir : aMC aM_X11_heir = true := by decide +kernel
set_option maxRecDepth 100000 in
theorem aOK_X11_heir : aCoC aM_X11_heir = true := by decide +kernel
set_option maxRecDepth 100000 in
theorem aOM_X11_tools : aMC aM_X11_tools = true := by decide +kernel
set_option maxRecDepth 100000 in
theorem aOK_X11_tools : aCoC aM_X11_tools = true := by decide +kernel
set_option maxRecDepth 100000 in
theorem aOM_X11_law : aMC aM_X11_law = true := by decide +kernel
set_option maxRecDepth 100000 in
theorem aOK_X11_law : aCoC aM_X11_law = true := by decide +kernel
set_option maxRecDepth 100000 in
theorem aOM_X11_takes : aMC aM_X11_takes = true := by decide +kernel
set_option maxRecDepth 100000 in
theorem aOK_X11_takes : aCoC aM_X11_takes = true := by decide +kernel
set_option maxRecDepth 100000 in
theorem aOM_X11_alone : aMC aM_X11_alone = true := by decide +kernel
set_option maxRecDepth 100000 in
theorem aOK_X11_alone : aCoC aM_X11_alone = true := by decide +kernel
set_option maxRecDepth 100000 in
theorem aOM_X11_who : aMC aM_X11_who = true := by decide +kernel
set_option maxRecDepth 100000 in
theorem aOK_X11_who : aCoC aM_X11_who = true := by decide +kernel
set_option maxRecDepth 100000 in
theorem aOM_X11_stuck : aMC aM_X11_stuck = true := by decide +kernel
set_option maxRecDepth 100000 in
theorem aOK_X11_stuck : aCoC aM_X11_stuck = true := by decide +kernel
set_option maxRecDepth 100000 in
theorem aOM_X11_team : aMC aM_X11_team = true := by decide +kernel
set_option maxRecDepth 100000 in
theorem aOK_X11_team : aCoC aM_X11_team = true := by decide +kernel
set_option maxRecDepth 100000 in
theorem aOM_X11_helpers : aMC aM_X11_helpers = true := by decide +kernel
set_option maxRecDepth 100000 in
theorem aOK_X11_helpers : aCoC aM_X11_helpers = true := by decide +kernel
set_option maxRecDepth 100000 in
theorem aOM_X11_sold : aMC aM_X11_sold = true := by decide +kernel
set_option maxRecDepth 100000 in
theorem aOK_X11_sold : aCoC aM_X11_sold = true := by decide +kernel
set_option maxRecDepth 100000 in
theorem aOM_X11_give : aMC aM_X11_give = true := by decide +kernel
set_option maxRecDepth 100000 in
theorem aOK_X11_give_0 : ((aL_X11_give).take 40).all (aQ cX11_give) = true := by decide +kernel
set_option maxRecDepth 100000 in
theorem aOK_X11_give_1 : ((aL_X11_give).drop 40).all (aQ cX11_give) = true := by decide +kernel
theorem aOK_X11_give : aCoC aM_X11_give = true := aAll2 40 aOK_X11_give_0 (aOK_X11_give_1)
set_option maxRecDepth 100000 in
theorem aOM_X11_teach : aMC aM_X11_teach = true := by decide +kernel
set_option maxRecDepth 100000 in
theorem aOK_X11_teach : aCoC aM_X11_teach = true := by decide +kernel
set_option maxRecDepth 100000 in
theorem aOM_X11_days : aMC aM_X11_days = true := by decide +kernel
set_option maxRecDepth 100000 in
theorem aOK_X11_days_0 : ((aL_X11_days).take 40).all (aQ cX11_days) = true := by decide +kernel
set_option maxRecDepth 100000 in
theorem aOK_X11_days_1 : ((aL_X11_days).drop 40).all (aQ cX11_days) = true := by decide +kernel
theorem aOK_X11_days : aCoC aM_X11_days = true := aAll2 40 aOK_X11_days_0 (aOK_X11_days_1)
set_option maxRecDepth 100000 in
theorem aOM_X11_generation : aMC aM_X11_generation = true := by decide +kernel
set_option maxRecDepth 100000 in
theorem aOK_X11_generation : aCoC aM_X11_generation = true := by decide +kernel
set_option maxRecDepth 100000 in
theorem aOM_X11_undo : aMC aM_X11_undo = true := by decide +kernel
set_option maxRecDepth 100000 in
theorem aOK_X11_undo : aCoC aM_X11_undo = true := by decide +kernel
set_option maxRecDepth 100000 in
theorem aOM_X11_image : aMC aM_X11_image = true := by decide +kernel
set_option maxRecDepth 100000 in
theorem aOK_X11_image : aCoC aM_X11_image = true := by decide +kernel
set_option maxRecDepth 100000 in
theorem aOM_X11_back : aMC aM_X11_back = true := by decide +kernel
set_option maxRecDepth 100000 in
theorem aOK_X11_back : aCoC aM_X11_back = true := by decide +kernel
set_option maxRecDepth 100000 in
theorem aOM_X11_deal : aMC aM_X11_deal = true := by decide +kernel
set_option maxRecDepth 100000 in
theorem aOK_X11_deal : aCoC aM_X11_deal = true := by decide +kernel
set_option maxRecDepth 100000 in
theorem aOM_X11_best : aMC aM_X11_best = true := by decide +kernel
set_option maxRecDepth 100000 in
theorem aOK_X11_best : aCoC aM_X11_best = true := by decide +kernel
set_option maxRecDepth 100000 in
theorem aOM_X11_learn : aMC aM_X11_learn = true := by decide +kernel
set_option maxRecDepth 100000 in
theorem aOK_X11_learn : aCoC aM_X11_learn = true := by decide +kernel
set_option maxRecDepth 100000 in
theorem aOM_X11_begin : aMC aM_X11_begin = true := by decide +kernel
set_option maxRecDepth 100000 in
theorem aOK_X11_begin : aCoC aM_X11_begin = true := by decide +kernel
set_option maxRecDepth 100000 in
theorem aOM_X11_spite : aMC aM_X11_spite = true := by decide +kernel
set_option maxRecDepth 100000 in
theorem aOK_X11_spite : aCoC aM_X11_spite = true := by decide +kernel
set_option maxRecDepth 100000 in
theorem aOM_X11_wish : aMC aM_X11_wish = true := by decide +kernel
set_option maxRecDepth 100000 in
theorem aOK_X11_wish : aCoC aM_X11_wish = true := by decide +kernel
set_option maxRecDepth 100000 in
theorem aOM_X11_wishOf : aMC aM_X11_wishOf = true := by decide +kernel
set_option maxRecDepth 100000 in
theorem aOK_X11_wishOf_0 : ((aL_X11_wishOf).take 40).all (aQ cX11_wishOf) = true := by decide +kernel
set_option maxRecDepth 100000 in
theorem aOK_X11_wishOf_1 : ((aL_X11_wishOf).drop 40).all (aQ cX11_wishOf) = true := by decide +kernel
theorem aOK_X11_wishOf : aCoC aM_X11_wishOf = true := aAll2 40 aOK_X11_wishOf_0 (aOK_X11_wishOf_1)
set_option maxRecDepth 100000 in
theorem aOM_X11_rests : aMC aM_X11_rests = true := by decide +kernel
set_option maxRecDepth 100000 in
theorem aOK_X11_rests : aCoC aM_X11_rests = true := by decide +kernel
set_option maxRecDepth 100000 in
theorem aOM_X11_gains : aMC aM_X11_gains = true := by decide +kernel
set_option maxRecDepth 100000 in
theorem aOK_X11_gains : aCoC aM_X11_gains = true := by decide +kernel
set_option maxRecDepth 100000 in
theorem aOM_X11_layOutGame : aMC aM_X11_layOutGame = true := by decide +kernel
set_option maxRecDepth 100000 in
theorem aOK_X11_layOutGame_0 : ((aL_X11_layOutGame).take 40).all (aQ cX11_layOutGame) = true := by decide +kernel
set_option maxRecDepth 100000 in
theorem aOK_X11_layOutGame_1 : ((aL_X11_layOutGame).drop 40).all (aQ cX11_layOutGame) = true := by decide +kernel
theorem aOK_X11_layOutGame : aCoC aM_X11_layOutGame = true := aAll2 40 aOK_X11_layOutGame_0 (aOK_X11_layOutGame_1)
set_option maxRecDepth 100000 in
theorem aOM_X11_ends : aMC aM_X11_ends = true := by decide +kernel
set_option maxRecDepth 100000 in
theorem aOK_X11_ends_0 : ((aL_X11_ends).take 40).all (aQ cX11_ends) = true := by decide +kernel
set_option maxRecDepth 100000 in
theorem aOK_X11_ends_1 : ((aL_X11_ends).drop 40).all (aQ cX11_ends) = true := by decide +kernel
theorem aOK_X11_ends : aCoC aM_X11_ends = true := aAll2 40 aOK_X11_ends_0 (aOK_X11_ends_1)
set_option maxRecDepth 100000 in
theorem aOM_X11_shortest : aMC aM_X11_shortest = true := by decide +kernel
set_option maxRecDepth 100000 in
theorem aOK_X11_shortest : aCoC aM_X11_shortest = true := by decide +kernel
set_option maxRecDepth 100000 in
theorem aOM_X11_judged : aMC aM_X11_judged = true := by decide +kernel
set_option maxRecDepth 100000 in
theorem aOK_X11_judged : aCoC aM_X11_judged = true := by decide +kernel
set_option maxRecDepth 100000 in
theorem aOM_X11_dearest : aMC aM_X11_dearest = true := by decide +kernel
set_option maxRecDepth 100000 in
theorem aOK_X11_dearest_0 : ((aL_X11_dearest).take 40).all (aQ cX11_dearest) = true := by decide +kernel
set_option maxRecDepth 100000 in
theorem aOK_X11_dearest_1 : ((aL_X11_dearest).drop 40).all (aQ cX11_dearest) = true := by decide +kernel
theorem aOK_X11_dearest : aCoC aM_X11_dearest = true := aAll2 40 aOK_X11_dearest_0 (aOK_X11_dearest_1)
set_option maxRecDepth 100000 in
theorem aOM_X11_fitting : aMC aM_X11_fitting = true := by decide +kernel
set_option maxRecDepth 100000 in
theorem aOK_X11_fitting : aCoC aM_X11_fitting = true := by decide +kernel
set_option maxRecDepth 100000 in
theorem aOM_X11_fits : aMC aM_X11_fits = true := by decide +kernel
set_option maxRecDepth 100000 in
theorem aOK_X11_fits_0 : ((aL_X11_fits).take 40).all (aQ cX11_fits) = true := by decide +kernel
set_option maxRecDepth 100000 in
theorem aOK_X11_fits_1 : ((aL_X11_fits).drop 40).all (aQ cX11_fits) = true := by decide +kernel
theorem aOK_X11_fits : aCoC aM_X11_fits = true := aAll2 40 aOK_X11_fits_0 (aOK_X11_fits_1)
set_option maxRecDepth 100000 in
theorem aOM_X11_isBehind : aMC aM_X11_isBehind = true := by decide +kernel
set_option maxRecDepth 100000 in
theorem aOK_X11_isBehind : aCoC aM_X11_isBehind = true := by decide +kernel
set_option maxRecDepth 100000 in
theorem aOM_X11_sign : aMC aM_X11_sign = true := by decide +kernel
set_option maxRecDepth 100000 in
theorem aOK_X11_sign : aCoC aM_X11_sign = true := by decide +kernel
set_option maxRecDepth 100000 in
theorem aOM_X11_ended : aMC aM_X11_ended = true := by decide +kernel
set_option maxRecDepth 100000 in
theorem aOK_X11_ended : aCoC aM_X11_ended = true := by decide +kernel
set_option maxRecDepth 100000 in
theorem aOM_X11_stood : aMC aM_X11_stood = true := by decide +kernel
set_option maxRecDepth 100000 in
theorem aOK_X11_stood : aCoC aM_X11_stood = true := by decide +kernel
set_option maxRecDepth 100000 in
theorem aOM_X11_count : aMC aM_X11_count = true := by decide +kernel
set_option maxRecDepth 100000 in
theorem aOK_X11_count_0 : ((aL_X11_count).take 40).all (aQ cX11_count) = true := by decide +kernel
set_option maxRecDepth 100000 in
theorem aOK_X11_count_1 : ((aL_X11_count).drop 40).all (aQ cX11_count) = true := by decide +kernel
theorem aOK_X11_count : aCoC aM_X11_count = true := aAll2 40 aOK_X11_count_0 (aOK_X11_count_1)
set_option maxRecDepth 100000 in
theorem aOM_X11_isTrade : aMC aM_X11_isTrade = true := by decide +kernel
set_option maxRecDepth 100000 in
theorem aOK_X11_isTrade : aCoC aM_X11_isTrade = true := by decide +kernel
set_option maxRecDepth 100000 in
theorem aOM_X12_thrown : aMC aM_X12_thrown = true := by decide +kernel
set_option maxRecDepth 100000 in
theorem aOK_X12_thrown : aCoC aM_X12_thrown = true := by decide +kernel
set_option maxRecDepth 100000 in
theorem aOM_X12_isIn : aMC aM_X12_isIn = true := by decide +kernel
set_option maxRecDepth 100000 in
theorem aOK_X12_isIn : aCoC aM_X12_isIn = true := by decide +kernel
set_option maxRecDepth 100000 in
theorem aOM_X12_has : aMC aM_X12_has = true := by decide +kernel
set_option maxRecDepth 100000 in
theorem aOK_X12_has : aCoC aM_X12_has = true := by decide +kernel
set_option maxRecDepth 100000 in
theorem aOM_X12_isAmong : aMC aM_X12_isAmong = true := by decide +kernel
set_option maxRecDepth 100000 in
theorem aOK_X12_isAmong : aCoC aM_X12_isAmong = true := by decide +kernel
set_option maxRecDepth 100000 in
theorem aOM_X12_bytesIn : aMC aM_X12_bytesIn = true := by decide +kernel
set_option maxRecDepth 100000 in
theorem aOK_X12_bytesIn : aCoC aM_X12_bytesIn = true := by decide +kernel
set_option maxRecDepth 100000 in
theorem aOM_X12_put : aMC aM_X12_put = true := by decide +kernel
set_option maxRecDepth 100000 in
theorem aOK_X12_put : aCoC aM_X12_put = true := by decide +kernel
set_option maxRecDepth 100000 in
theorem aOM_X12_feed : aMC aM_X12_feed = true := by decide +kernel
set_option maxRecDepth 100000 in
theorem aOK_X12_feed_0 : ((aL_X12_feed).take 40).all (aQ cX12_feed) = true := by decide +kernel
set_option maxRecDepth 100000 in
theorem aOK_X12_feed_1 : ((aL_X12_feed).drop 40).all (aQ cX12_feed) = true := by decide +kernel
theorem aOK_X12_feed : aCoC aM_X12_feed = true := aAll2 40 aOK_X12_feed_0 (aOK_X12_feed_1)
set_option maxRecDepth 100000 in
theorem aOM_X12_end : aMC aM_X12_end = true := by decide +kernel
set_option maxRecDepth 100000 in
theorem aOK_X12_end : aCoC aM_X12_end = true := by decide +kernel
set_option maxRecDepth 100000 in
theorem aOM_X12_look : aMC aM_X12_look = true := by decide +kernel
set_option maxRecDepth 100000 in
theorem aOK_X12_look : aCoC aM_X12_look = true := by decide +kernel
set_option maxRecDepth 100000 in
theorem aOM_X12_fails : aMC aM_X12_fails = true := by decide +kernel
set_option maxRecDepth 100000 in
theorem aOK_X12_fails : aCoC aM_X12_fails = true := by decide +kernel
set_option maxRecDepth 100000 in
theorem aOM_X12_goesIn : aMC aM_X12_goesIn = true := by decide +kernel
set_option maxRecDepth 100000 in
theorem aOK_X12_goesIn : aCoC aM_X12_goesIn = true := by decide +kernel
set_option maxRecDepth 100000 in
theorem aOM_X12_takes : aMC aM_X12_takes = true := by decide +kernel
set_option maxRecDepth 100000 in
theorem aOK_X12_takes : aCoC aM_X12_takes = true := by decide +kernel
set_option maxRecDepth 100000 in
theorem aOM_X12_isDigit : aMC aM_X12_isDigit = true := by decide +kernel
set_option maxRecDepth 100000 in
theorem aOK_X12_isDigit : aCoC aM_X12_isDigit = true := by decide +kernel
set_option maxRecDepth 100000 in
theorem aOM_X12_within : aMC aM_X12_within = true := by decide +kernel
set_option maxRecDepth 100000 in
theorem aOK_X12_within : aCoC aM_X12_within = true := by decide +kernel
set_option maxRecDepth 100000 in
theorem aOM_X12_atom : aMC aM_X12_atom = true := by decide +kernel
set_option maxRecDepth 100000 in
theorem aOK_X12_atom_0 : ((aL_X12_atom).take 40).all (aQ cX12_atom) = true := by decide +kernel
set_option maxRecDepth 100000 in
theorem aOK_X12_atom_1 : (((aL_X12_atom).drop 40).take 40).all (aQ cX12_atom) = true := by decide +kernel
set_option maxRecDepth 100000 in
theorem aOK_X12_atom_2 : (((aL_X12_atom).drop 40).drop 40).all (aQ cX12_atom) = true := by decide +kernel
theorem aOK_X12_atom : aCoC aM_X12_atom = true := aAll2 40 aOK_X12_atom_0 (aAll2 40 aOK_X12_atom_1 (aOK_X12_atom_2))
end
section
/-! the checks of the program, by the kernel -/
set_option maxRecDepth 100000 in
theorem aOM_X12_term : aMC aM_X12_term = true := by decide +kernel
set_option maxRecDepth 100000 in
theorem aOK_X12_term_0 : ((aL_X12_term).take 40).all (aQ cX12_term) = true := by decide +kernel
set_option maxRecDepth 100000 in
theorem aOK_X12_term_1 : ((aL_X12_term).drop 40).all (aQ cX12_term) = true := by decide +kernel
theorem aOK_X12_term : aCoC aM_X12_term = true := aAll2 40 aOK_X12_term_0 (aOK_X12_term_1)
set_option maxRecDepth 100000 in
theorem aOM_X12_sum : aMC aM_X12_sum = true := by decide +kernel
set_option maxRecDepth 100000 in
theorem aOK_X12_sum_0 : ((aL_X12_sum).take 40).all (aQ cX12_sum) = true := by decide +kernel
set_option maxRecDepth 100000 in
theorem aOK_X12_sum_1 : ((aL_X12_sum).drop 40).all (aQ cX12_sum) = true := by decide +kernel
theorem aOK_X12_sum : aCoC aM_X12_sum = true := aAll2 40 aOK_X12_sum_0 (aOK_X12_sum_1)
set_option maxRecDepth 100000 in
theorem aOM_X12_isSign : aMC aM_X12_isSign = true := by decide +kernel
set_option maxRecDepth 100000 in
theorem aOK_X12_isSign : aCoC aM_X12_isSign = true := by decide +kernel
set_option maxRecDepth 100000 in
theorem aOM_X12_compares : aMC aM_X12_compares = true := by decide +kernel
set_option maxRecDepth 100000 in
theorem aOK_X12_compares_0 : ((aL_X12_compares).take 40).all (aQ cX12_compares) = true := by decide +kernel
set_option maxRecDepth 100000 in
theorem aOK_X12_compares_1 : ((aL_X12_compares).drop 40).all (aQ cX12_compares) = true := by decide +kernel
theorem aOK_X12_compares : aCoC aM_X12_compares = true := aAll2 40 aOK_X12_compares_0 (aOK_X12_compares_1)
set_option maxRecDepth 100000 in
theorem aOM_X12_unit : aMC aM_X12_unit = true := by decide +kernel
set_option maxRecDepth 100000 in
theorem aOK_X12_unit_0 : ((aL_X12_unit).take 40).all (aQ cX12_unit) = true := by decide +kernel
set_option maxRecDepth 100000 in
theorem aOK_X12_unit_1 : ((aL_X12_unit).drop 40).all (aQ cX12_unit) = true := by decide +kernel
theorem aOK_X12_unit : aCoC aM_X12_unit = true := aAll2 40 aOK_X12_unit_0 (aOK_X12_unit_1)
set_option maxRecDepth 100000 in
theorem aOM_X12_part : aMC aM_X12_part = true := by decide +kernel
set_option maxRecDepth 100000 in
theorem aOK_X12_part : aCoC aM_X12_part = true := by decide +kernel
set_option maxRecDepth 100000 in
theorem aOM_X12_condition : aMC aM_X12_condition = true := by decide +kernel
set_option maxRecDepth 100000 in
theorem aOK_X12_condition : aCoC aM_X12_condition = true := by decide +kernel
set_option maxRecDepth 100000 in
theorem aOM_X12_clause : aMC aM_X12_clause = true := by decide +kernel
set_option maxRecDepth 100000 in
theorem aOK_X12_clause_0 : ((aL_X12_clause).take 40).all (aQ cX12_clause) = true := by decide +kernel
set_option maxRecDepth 100000 in
theorem aOK_X12_clause_1 : (((aL_X12_clause).drop 40).take 40).all (aQ cX12_clause) = true := by decide +kernel
set_option maxRecDepth 100000 in
theorem aOK_X12_clause_2 : (((aL_X12_clause).drop 40).drop 40).all (aQ cX12_clause) = true := by decide +kernel
theorem aOK_X12_clause : aCoC aM_X12_clause = true := aAll2 40 aOK_X12_clause_0 (aAll2 40 aOK_X12_clause_1 (aOK_X12_clause_2))
set_option maxRecDepth 100000 in
theorem aOM_X12_starts : aMC aM_X12_starts = true := by decide +kernel
set_option maxRecDepth 100000 in
theorem aOK_X12_starts : aCoC aM_X12_starts = true := by decide +kernel
set_option maxRecDepth 100000 in
theorem aOM_X12_goThrough : aMC aM_X12_goThrough = true := by decide +kernel
set_option maxRecDepth 100000 in
theorem aOK_X12_goThrough_0 : ((aL_X12_goThrough).take 40).all (aQ cX12_goThrough) = true := by decide +kernel
set_option maxRecDepth 100000 in
theorem aOK_X12_goThrough_1 : ((aL_X12_goThrough).drop 40).all (aQ cX12_goThrough) = true := by decide +kernel
theorem aOK_X12_goThrough : aCoC aM_X12_goThrough = true := aAll2 40 aOK_X12_goThrough_0 (aOK_X12_goThrough_1)
set_option maxRecDepth 100000 in
theorem aOM_X12_here : aMC aM_X12_here = true := by decide +kernel
set_option maxRecDepth 100000 in
theorem aOK_X12_here : aCoC aM_X12_here = true := by decide +kernel
set_option maxRecDepth 100000 in
theorem aOM_X12_placeOf : aMC aM_X12_placeOf = true := by decide +kernel
set_option maxRecDepth 100000 in
theorem aOK_X12_placeOf : aCoC aM_X12_placeOf = true := by decide +kernel
set_option maxRecDepth 100000 in
theorem aOM_X12_readItem : aMC aM_X12_readItem = true := by decide +kernel
set_option maxRecDepth 100000 in
theorem aOK_X12_readItem_0 : ((aL_X12_readItem).take 40).all (aQ cX12_readItem) = true := by decide +kernel
set_option maxRecDepth 100000 in
theorem aOK_X12_readItem_1 : ((aL_X12_readItem).drop 40).all (aQ cX12_readItem) = true := by decide +kernel
theorem aOK_X12_readItem : aCoC aM_X12_readItem = true := aAll2 40 aOK_X12_readItem_0 (aOK_X12_readItem_1)
set_option maxRecDepth 100000 in
theorem aOM_X12_readItems : aMC aM_X12_readItems = true := by decide +kernel
set_option maxRecDepth 100000 in
theorem aOK_X12_readItems_0 : ((aL_X12_readItems).take 40).all (aQ cX12_readItems) = true := by decide +kernel
set_option maxRecDepth 100000 in
theorem aOK_X12_readItems_1 : ((aL_X12_readItems).drop 40).all (aQ cX12_readItems) = true := by decide +kernel
theorem aOK_X12_readItems : aCoC aM_X12_readItems = true := aAll2 40 aOK_X12_readItems_0 (aOK_X12_readItems_1)
set_option maxRecDepth 100000 in
theorem aOM_X12_readSteps : aMC aM_X12_readSteps = true := by decide +kernel
set_option maxRecDepth 100000 in
theorem aOK_X12_readSteps_0 : ((aL_X12_readSteps).take 40).all (aQ cX12_readSteps) = true := by decide +kernel
set_option maxRecDepth 100000 in
theorem aOK_X12_readSteps_1 : (((aL_X12_readSteps).drop 40).take 40).all (aQ cX12_readSteps) = true := by decide +kernel
set_option maxRecDepth 100000 in
theorem aOK_X12_readSteps_2 : (((aL_X12_readSteps).drop 40).drop 40).all (aQ cX12_readSteps) = true := by decide +kernel
theorem aOK_X12_readSteps : aCoC aM_X12_readSteps = true := aAll2 40 aOK_X12_readSteps_0 (aAll2 40 aOK_X12_readSteps_1 (aOK_X12_readSteps_2))
set_option maxRecDepth 100000 in
theorem aOM_X12_readThing : aMC aM_X12_readThing = true := by decide +kernel
set_option maxRecDepth 100000 in
theorem aOK_X12_readThing_0 : ((aL_X12_readThing).take 40).all (aQ cX12_readThing) = true := by decide +kernel
set_option maxRecDepth 100000 in
theorem aOK_X12_readThing_1 : ((aL_X12_readThing).drop 40).all (aQ cX12_readThing) = true := by decide +kernel
theorem aOK_X12_readThing : aCoC aM_X12_readThing = true := aAll2 40 aOK_X12_readThing_0 (aOK_X12_readThing_1)
set_option maxRecDepth 100000 in
theorem aOM_X12_readClause : aMC aM_X12_readClause = true := by decide +kernel
set_option maxRecDepth 100000 in
theorem aOK_X12_readClause_0 : ((aL_X12_readClause).take 40).all (aQ cX12_readClause) = true := by decide +kernel
set_option maxRecDepth 100000 in
theorem aOK_X12_readClause_1 : (((aL_X12_readClause).drop 40).take 40).all (aQ cX12_readClause) = true := by decide +kernel
set_option maxRecDepth 100000 in
theorem aOK_X12_readClause_2 : (((aL_X12_readClause).drop 40).drop 40).all (aQ cX12_readClause) = true := by decide +kernel
theorem aOK_X12_readClause : aCoC aM_X12_readClause = true := aAll2 40 aOK_X12_readClause_0 (aAll2 40 aOK_X12_readClause_1 (aOK_X12_readClause_2))
set_option maxRecDepth 100000 in
theorem aOM_X12_readWill : aMC aM_X12_readWill = true := by decide +kernel
set_option maxRecDepth 100000 in
theorem aOK_X12_readWill_0 : ((aL_X12_readWill).take 40).all (aQ cX12_readWill) = true := by decide +kernel
set_option maxRecDepth 100000 in
theorem aOK_X12_readWill_1 : (((aL_X12_readWill).drop 40).take 40).all (aQ cX12_readWill) = true := by decide +kernel
set_option maxRecDepth 100000 in
theorem aOK_X12_readWill_2 : (((aL_X12_readWill).drop 40).drop 40).all (aQ cX12_readWill) = true := by decide +kernel
theorem aOK_X12_readWill : aCoC aM_X12_readWill = true := aAll2 40 aOK_X12_readWill_0 (aAll2 40 aOK_X12_readWill_1 (aOK_X12_readWill_2))
set_option maxRecDepth 100000 in
theorem aOM_X12_readRow : aMC aM_X12_readRow = true := by decide +kernel
set_option maxRecDepth 100000 in
theorem aOK_X12_readRow_0 : ((aL_X12_readRow).take 40).all (aQ cX12_readRow) = true := by decide +kernel
set_option maxRecDepth 100000 in
theorem aOK_X12_readRow_1 : ((aL_X12_readRow).drop 40).all (aQ cX12_readRow) = true := by decide +kernel
theorem aOK_X12_readRow : aCoC aM_X12_readRow = true := aAll2 40 aOK_X12_readRow_0 (aOK_X12_readRow_1)
set_option maxRecDepth 100000 in
theorem aOM_X12_fault : aMC aM_X12_fault = true := by decide +kernel
set_option maxRecDepth 100000 in
theorem aOK_X12_fault : aCoC aM_X12_fault = true := by decide +kernel
set_option maxRecDepth 100000 in
theorem aOM_X12_text : aMC aM_X12_text = true := by decide +kernel
set_option maxRecDepth 100000 in
theorem aOK_X12_text_0 : ((aL_X12_text).take 40).all (aQ cX12_text) = true := by decide +kernel
set_option maxRecDepth 100000 in
theorem aOK_X12_text_1 : (((aL_X12_text).drop 40).take 40).all (aQ cX12_text) = true := by decide +kernel
set_option maxRecDepth 100000 in
theorem aOK_X12_text_2 : ((((aL_X12_text).drop 40).drop 40).take 40).all (aQ cX12_text) = true := by decide +kernel
set_option maxRecDepth 100000 in
theorem aOK_X12_text_3 : (((((aL_X12_text).drop 40).drop 40).drop 40).take 40).all (aQ cX12_text) = true := by decide +kernel
set_option maxRecDepth 100000 in
theorem aOK_X12_text_4 : ((((((aL_X12_text).drop 40).drop 40).drop 40).drop 40).take 40).all (aQ cX12_text) = true := by decide +kernel
set_option maxRecDepth 100000 in
theorem aOK_X12_text_5 : (((((((aL_X12_text).drop 40).drop 40).drop 40).drop 40).drop 40).take 40).all (aQ cX12_text) = true := by decide +kernel
set_option maxRecDepth 100000 in
theorem aOK_X12_text_6 : ((((((((aL_X12_text).drop 40).drop 40).drop 40).drop 40).drop 40).drop 40).take 40).all (aQ cX12_text) = true := by decide +kernel
set_option maxRecDepth 100000 in
theorem aOK_X12_text_7 : (((((((((aL_X12_text).drop 40).drop 40).drop 40).drop 40).drop 40).drop 40).drop 40).take 40).all (aQ cX12_text) = true := by decide +kernel
set_option maxRecDepth 100000 in
theorem aOK_X12_text_8 : (((((((((aL_X12_text).drop 40).drop 40).drop 40).drop 40).drop 40).drop 40).drop 40).drop 40).all (aQ cX12_text) = true := by decide +kernel
theorem aOK_X12_text : aCoC aM_X12_text = true := aAll2 40 aOK_X12_text_0 (aAll2 40 aOK_X12_text_1 (aAll2 40 aOK_X12_text_2 (aAll2 40 aOK_X12_text_3 (aAll2 40 aOK_X12_text_4 (aAll2 40 aOK_X12_text_5 (aAll2 40 aOK_X12_text_6 (aAll2 40 aOK_X12_text_7 (aOK_X12_text_8))))))))
set_option maxRecDepth 100000 in
theorem aOM_X12_isThing : aMC aM_X12_isThing = true := by decide +kernel
set_option maxRecDepth 100000 in
theorem aOK_X12_isThing : aCoC aM_X12_isThing = true := by decide +kernel
set_option maxRecDepth 100000 in
theorem aOM_X12_isHeir : aMC aM_X12_isHeir = true := by decide +kernel
set_option maxRecDepth 100000 in
theorem aOK_X12_isHeir : aCoC aM_X12_isHeir = true := by decide +kernel
set_option maxRecDepth 100000 in
theorem aOM_X12_stepsOf : aMC aM_X12_stepsOf = true := by decide +kernel
set_option maxRecDepth 100000 in
theorem aOK_X12_stepsOf : aCoC aM_X12_stepsOf = true := by decide +kernel
set_option maxRecDepth 100000 in
theorem aOM_X12_doneOf : aMC aM_X12_doneOf = true := by decide +kernel
set_option maxRecDepth 100000 in
theorem aOK_X12_doneOf : aCoC aM_X12_doneOf = true := by decide +kernel
set_option maxRecDepth 100000 in
theorem aOM_X12_isToDo : aMC aM_X12_isToDo = true := by decide +kernel
set_option maxRecDepth 100000 in
theorem aOK_X12_isToDo : aCoC aM_X12_isToDo = true := by decide +kernel
set_option maxRecDepth 100000 in
theorem aOM_X12_skill : aMC aM_X12_skill = true := by decide +kernel
set_option maxRecDepth 100000 in
theorem aOK_X12_skill : aCoC aM_X12_skill = true := by decide +kernel
set_option maxRecDepth 100000 in
theorem aOM_X12_tradeOf : aMC aM_X12_tradeOf = true := by decide +kernel
set_option maxRecDepth 100000 in
theorem aOK_X12_tradeOf : aCoC aM_X12_tradeOf = true := by decide +kernel
set_option maxRecDepth 100000 in
theorem aOM_X12_daysOf : aMC aM_X12_daysOf = true := by decide +kernel
set_option maxRecDepth 100000 in
theorem aOK_X12_daysOf : aCoC aM_X12_daysOf = true := by decide +kernel
set_option maxRecDepth 100000 in
theorem aOM_X12_thing : aMC aM_X12_thing = true := by decide +kernel
set_option maxRecDepth 100000 in
theorem aOK_X12_thing_0 : ((aL_X12_thing).take 40).all (aQ cX12_thing) = true := by decide +kernel
set_option maxRecDepth 100000 in
theorem aOK_X12_thing_1 : ((aL_X12_thing).drop 40).all (aQ cX12_thing) = true := by decide +kernel
theorem aOK_X12_thing : aCoC aM_X12_thing = true := aAll2 40 aOK_X12_thing_0 (aOK_X12_thing_1)
set_option maxRecDepth 100000 in
theorem aOM_X12_step : aMC aM_X12_step = true := by decide +kernel
set_option maxRecDepth 100000 in
theorem aOK_X12_step : aCoC aM_X12_step = true := by decide +kernel
set_option maxRecDepth 100000 in
theorem aOM_X12_heir : aMC aM_X12_heir = true := by decide +kernel
set_option maxRecDepth 100000 in
theorem aOK_X12_heir_0 : ((aL_X12_heir).take 40).all (aQ cX12_heir) = true := by decide +kernel
set_option maxRecDepth 100000 in
theorem aOK_X12_heir_1 : ((aL_X12_heir).drop 40).all (aQ cX12_heir) = true := by decide +kernel
theorem aOK_X12_heir : aCoC aM_X12_heir = true := aAll2 40 aOK_X12_heir_0 (aOK_X12_heir_1)
set_option maxRecDepth 100000 in
theorem aOM_X12_tools : aMC aM_X12_tools = true := by decide +kernel
set_option maxRecDepth 100000 in
theorem aOK_X12_tools : aCoC aM_X12_tools = true := by decide +kernel
set_option maxRecDepth 100000 in
theorem aOM_X12_law : aMC aM_X12_law = true := by decide +kernel
set_option maxRecDepth 100000 in
theorem aOK_X12_law : aCoC aM_X12_law = true := by decide +kernel
set_option maxRecDepth 100000 in
theorem aOM_X12_takesOf : aMC aM_X12_takesOf = true := by decide +kernel
set_option maxRecDepth 100000 in
theorem aOK_X12_takesOf : aCoC aM_X12_takesOf = true := by decide +kernel
set_option maxRecDepth 100000 in
theorem aOM_X12_takes_ : aMC aM_X12_takes_ = true := by decide +kernel
set_option maxRecDepth 100000 in
theorem aOK_X12_takes_ : aCoC aM_X12_takes_ = true := by decide +kernel
set_option maxRecDepth 100000 in
theorem aOM_X12_aloneFrom : aMC aM_X12_aloneFrom = true := by decide +kernel
set_option maxRecDepth 100000 in
theorem aOK_X12_aloneFrom : aCoC aM_X12_aloneFrom = true := by decide +kernel
set_option maxRecDepth 100000 in
theorem aOM_X12_aloneOf : aMC aM_X12_aloneOf = true := by decide +kernel
set_option maxRecDepth 100000 in
theorem aOK_X12_aloneOf : aCoC aM_X12_aloneOf = true := by decide +kernel
set_option maxRecDepth 100000 in
theorem aOM_X12_isInTime : aMC aM_X12_isInTime = true := by decide +kernel
set_option maxRecDepth 100000 in
theorem aOK_X12_isInTime : aCoC aM_X12_isInTime = true := by decide +kernel
set_option maxRecDepth 100000 in
theorem aOM_X12_alone : aMC aM_X12_alone = true := by decide +kernel
set_option maxRecDepth 100000 in
theorem aOK_X12_alone : aCoC aM_X12_alone = true := by decide +kernel
set_option maxRecDepth 100000 in
theorem aOM_X12_whoOf : aMC aM_X12_whoOf = true := by decide +kernel
set_option maxRecDepth 100000 in
theorem aOK_X12_whoOf : aCoC aM_X12_whoOf = true := by decide +kernel
set_option maxRecDepth 100000 in
theorem aOM_X12_who : aMC aM_X12_who = true := by decide +kernel
set_option maxRecDepth 100000 in
theorem aOK_X12_who : aCoC aM_X12_who = true := by decide +kernel
set_option maxRecDepth 100000 in
theorem aOM_X12_stuck : aMC aM_X12_stuck = true := by decide +kernel
set_option maxRecDepth 100000 in
theorem aOK_X12_stuck_0 : ((aL_X12_stuck).take 40).all (aQ cX12_stuck) = true := by decide +kernel
set_option maxRecDepth 100000 in
theorem aOK_X12_stuck_1 : ((aL_X12_stuck).drop 40).all (aQ cX12_stuck) = true := by decide +kernel
theorem aOK_X12_stuck : aCoC aM_X12_stuck = true := aAll2 40 aOK_X12_stuck_0 (aOK_X12_stuck_1)
set_option maxRecDepth 100000 in
theorem aOM_X12_teamOf : aMC aM_X12_teamOf = true := by decide +kernel
set_option maxRecDepth 100000 in
theorem aOK_X12_teamOf_0 : ((aL_X12_teamOf).take 40).all (aQ cX12_teamOf) = true := by decide +kernel
set_option maxRecDepth 100000 in
theorem aOK_X12_teamOf_1 : ((aL_X12_teamOf).drop 40).all (aQ cX12_teamOf) = true := by decide +kernel
theorem aOK_X12_teamOf : aCoC aM_X12_teamOf = true := aAll2 40 aOK_X12_teamOf_0 (aOK_X12_teamOf_1)
end
section
/-! the checks of the program, by the kernel -/
set_option maxRecDepth 100000 in
theorem aOM_X12_team : aMC aM_X12_team = true := by decide +kernel
set_option maxRecDepth 100000 in
theorem aOK_X12_team : aCoC aM_X12_team = true := by decide +kernel
set_option maxRecDepth 100000 in
theorem aOM_X12_helpers : aMC aM_X12_helpers = true := by decide +kernel
set_option maxRecDepth 100000 in
theorem aOK_X12_helpers_0 : ((aL_X12_helpers).take 40).all (aQ cX12_helpers) = true := by decide +kernel
set_option maxRecDepth 100000 in
theorem aOK_X12_helpers_1 : ((aL_X12_helpers).drop 40).all (aQ cX12_helpers) = true := by decide +kernel
theorem aOK_X12_helpers : aCoC aM_X12_helpers = true := aAll2 40 aOK_X12_helpers_0 (aOK_X12_helpers_1)
set_option maxRecDepth 100000 in
theorem aOM_X12_remember : aMC aM_X12_remember = true := by decide +kernel
set_option maxRecDepth 100000 in
theorem aOK_X12_remember_0 : ((aL_X12_remember).take 40).all (aQ cX12_remember) = true := by decide +kernel
set_option maxRecDepth 100000 in
theorem aOK_X12_remember_1 : ((aL_X12_remember).drop 40).all (aQ cX12_remember) = true := by decide +kernel
theorem aOK_X12_remember : aCoC aM_X12_remember = true := aAll2 40 aOK_X12_remember_0 (aOK_X12_remember_1)
set_option maxRecDepth 100000 in
theorem aOM_X12_give : aMC aM_X12_give = true := by decide +kernel
set_option maxRecDepth 100000 in
theorem aOK_X12_give : aCoC aM_X12_give = true := by decide +kernel
set_option maxRecDepth 100000 in
theorem aOM_X12_teach : aMC aM_X12_teach = true := by decide +kernel
set_option maxRecDepth 100000 in
theorem aOK_X12_teach_0 : ((aL_X12_teach).take 40).all (aQ cX12_teach) = true := by decide +kernel
set_option maxRecDepth 100000 in
theorem aOK_X12_teach_1 : ((aL_X12_teach).drop 40).all (aQ cX12_teach) = true := by decide +kernel
theorem aOK_X12_teach : aCoC aM_X12_teach = true := aAll2 40 aOK_X12_teach_0 (aOK_X12_teach_1)
set_option maxRecDepth 100000 in
theorem aOM_X12_works : aMC aM_X12_works = true := by decide +kernel
set_option maxRecDepth 100000 in
theorem aOK_X12_works_0 : ((aL_X12_works).take 40).all (aQ cX12_works) = true := by decide +kernel
set_option maxRecDepth 100000 in
theorem aOK_X12_works_1 : (((aL_X12_works).drop 40).take 40).all (aQ cX12_works) = true := by decide +kernel
set_option maxRecDepth 100000 in
theorem aOK_X12_works_2 : (((aL_X12_works).drop 40).drop 40).all (aQ cX12_works) = true := by decide +kernel
theorem aOK_X12_works : aCoC aM_X12_works = true := aAll2 40 aOK_X12_works_0 (aAll2 40 aOK_X12_works_1 (aOK_X12_works_2))
set_option maxRecDepth 100000 in
theorem aOM_X12_goDay : aMC aM_X12_goDay = true := by decide +kernel
set_option maxRecDepth 100000 in
theorem aOK_X12_goDay_0 : ((aL_X12_goDay).take 40).all (aQ cX12_goDay) = true := by decide +kernel
set_option maxRecDepth 100000 in
theorem aOK_X12_goDay_1 : (((aL_X12_goDay).drop 40).take 40).all (aQ cX12_goDay) = true := by decide +kernel
set_option maxRecDepth 100000 in
theorem aOK_X12_goDay_2 : (((aL_X12_goDay).drop 40).drop 40).all (aQ cX12_goDay) = true := by decide +kernel
theorem aOK_X12_goDay : aCoC aM_X12_goDay = true := aAll2 40 aOK_X12_goDay_0 (aAll2 40 aOK_X12_goDay_1 (aOK_X12_goDay_2))
set_option maxRecDepth 100000 in
theorem aOM_X12_days : aMC aM_X12_days = true := by decide +kernel
set_option maxRecDepth 100000 in
theorem aOK_X12_days : aCoC aM_X12_days = true := by decide +kernel
set_option maxRecDepth 100000 in
theorem aOM_X12_draw : aMC aM_X12_draw = true := by decide +kernel
set_option maxRecDepth 100000 in
theorem aOK_X12_draw : aCoC aM_X12_draw = true := by decide +kernel
set_option maxRecDepth 100000 in
theorem aOM_X12_generation : aMC aM_X12_generation = true := by decide +kernel
set_option maxRecDepth 100000 in
theorem aOK_X12_generation_0 : ((aL_X12_generation).take 40).all (aQ cX12_generation) = true := by decide +kernel
set_option maxRecDepth 100000 in
theorem aOK_X12_generation_1 : (((aL_X12_generation).drop 40).take 40).all (aQ cX12_generation) = true := by decide +kernel
set_option maxRecDepth 100000 in
theorem aOK_X12_generation_2 : (((aL_X12_generation).drop 40).drop 40).all (aQ cX12_generation) = true := by decide +kernel
theorem aOK_X12_generation : aCoC aM_X12_generation = true := aAll2 40 aOK_X12_generation_0 (aAll2 40 aOK_X12_generation_1 (aOK_X12_generation_2))
set_option maxRecDepth 100000 in
theorem aOM_X12_undo : aMC aM_X12_undo = true := by decide +kernel
set_option maxRecDepth 100000 in
theorem aOK_X12_undo : aCoC aM_X12_undo = true := by decide +kernel
set_option maxRecDepth 100000 in
theorem aOM_X12_askAsItIs : aMC aM_X12_askAsItIs = true := by decide +kernel
set_option maxRecDepth 100000 in
theorem aOK_X12_askAsItIs : aCoC aM_X12_askAsItIs = true := by decide +kernel
set_option maxRecDepth 100000 in
theorem aOM_X12_isDealt : aMC aM_X12_isDealt = true := by decide +kernel
set_option maxRecDepth 100000 in
theorem aOK_X12_isDealt : aCoC aM_X12_isDealt = true := by decide +kernel
set_option maxRecDepth 100000 in
theorem aOM_X12_canDo : aMC aM_X12_canDo = true := by decide +kernel
set_option maxRecDepth 100000 in
theorem aOK_X12_canDo_0 : ((aL_X12_canDo).take 40).all (aQ cX12_canDo) = true := by decide +kernel
set_option maxRecDepth 100000 in
theorem aOK_X12_canDo_1 : (((aL_X12_canDo).drop 40).take 40).all (aQ cX12_canDo) = true := by decide +kernel
set_option maxRecDepth 100000 in
theorem aOK_X12_canDo_2 : (((aL_X12_canDo).drop 40).drop 40).all (aQ cX12_canDo) = true := by decide +kernel
theorem aOK_X12_canDo : aCoC aM_X12_canDo = true := aAll2 40 aOK_X12_canDo_0 (aAll2 40 aOK_X12_canDo_1 (aOK_X12_canDo_2))
set_option maxRecDepth 100000 in
theorem aOM_X12_layDeal : aMC aM_X12_layDeal = true := by decide +kernel
set_option maxRecDepth 100000 in
theorem aOK_X12_layDeal_0 : ((aL_X12_layDeal).take 40).all (aQ cX12_layDeal) = true := by decide +kernel
set_option maxRecDepth 100000 in
theorem aOK_X12_layDeal_1 : ((aL_X12_layDeal).drop 40).all (aQ cX12_layDeal) = true := by decide +kernel
theorem aOK_X12_layDeal : aCoC aM_X12_layDeal = true := aAll2 40 aOK_X12_layDeal_0 (aOK_X12_layDeal_1)
set_option maxRecDepth 100000 in
theorem aOM_X12_goDeal : aMC aM_X12_goDeal = true := by decide +kernel
set_option maxRecDepth 100000 in
theorem aOK_X12_goDeal_0 : ((aL_X12_goDeal).take 40).all (aQ cX12_goDeal) = true := by decide +kernel
set_option maxRecDepth 100000 in
theorem aOK_X12_goDeal_1 : (((aL_X12_goDeal).drop 40).take 40).all (aQ cX12_goDeal) = true := by decide +kernel
set_option maxRecDepth 100000 in
theorem aOK_X12_goDeal_2 : (((aL_X12_goDeal).drop 40).drop 40).all (aQ cX12_goDeal) = true := by decide +kernel
theorem aOK_X12_goDeal : aCoC aM_X12_goDeal = true := aAll2 40 aOK_X12_goDeal_0 (aAll2 40 aOK_X12_goDeal_1 (aOK_X12_goDeal_2))
set_option maxRecDepth 100000 in
theorem aOM_X12_deal : aMC aM_X12_deal = true := by decide +kernel
set_option maxRecDepth 100000 in
theorem aOK_X12_deal_0 : ((aL_X12_deal).take 40).all (aQ cX12_deal) = true := by decide +kernel
set_option maxRecDepth 100000 in
theorem aOK_X12_deal_1 : ((aL_X12_deal).drop 40).all (aQ cX12_deal) = true := by decide +kernel
theorem aOK_X12_deal : aCoC aM_X12_deal = true := aAll2 40 aOK_X12_deal_0 (aOK_X12_deal_1)
set_option maxRecDepth 100000 in
theorem aOM_X12_bestOf : aMC aM_X12_bestOf = true := by decide +kernel
set_option maxRecDepth 100000 in
theorem aOK_X12_bestOf_0 : ((aL_X12_bestOf).take 40).all (aQ cX12_bestOf) = true := by decide +kernel
set_option maxRecDepth 100000 in
theorem aOK_X12_bestOf_1 : ((aL_X12_bestOf).drop 40).all (aQ cX12_bestOf) = true := by decide +kernel
theorem aOK_X12_bestOf : aCoC aM_X12_bestOf = true := aAll2 40 aOK_X12_bestOf_0 (aOK_X12_bestOf_1)
set_option maxRecDepth 100000 in
theorem aOM_X12_toDo : aMC aM_X12_toDo = true := by decide +kernel
set_option maxRecDepth 100000 in
theorem aOK_X12_toDo : aCoC aM_X12_toDo = true := by decide +kernel
set_option maxRecDepth 100000 in
theorem aOM_X12_best : aMC aM_X12_best = true := by decide +kernel
set_option maxRecDepth 100000 in
theorem aOK_X12_best : aCoC aM_X12_best = true := by decide +kernel
set_option maxRecDepth 100000 in
theorem aOM_X12_learn : aMC aM_X12_learn = true := by decide +kernel
set_option maxRecDepth 100000 in
theorem aOK_X12_learn_0 : ((aL_X12_learn).take 40).all (aQ cX12_learn) = true := by decide +kernel
set_option maxRecDepth 100000 in
theorem aOK_X12_learn_1 : (((aL_X12_learn).drop 40).take 40).all (aQ cX12_learn) = true := by decide +kernel
set_option maxRecDepth 100000 in
theorem aOK_X12_learn_2 : (((aL_X12_learn).drop 40).drop 40).all (aQ cX12_learn) = true := by decide +kernel
theorem aOK_X12_learn : aCoC aM_X12_learn = true := aAll2 40 aOK_X12_learn_0 (aAll2 40 aOK_X12_learn_1 (aOK_X12_learn_2))
set_option maxRecDepth 100000 in
theorem aOM_X12_goBegin : aMC aM_X12_goBegin = true := by decide +kernel
set_option maxRecDepth 100000 in
theorem aOK_X12_goBegin_0 : ((aL_X12_goBegin).take 40).all (aQ cX12_goBegin) = true := by decide +kernel
set_option maxRecDepth 100000 in
theorem aOK_X12_goBegin_1 : (((aL_X12_goBegin).drop 40).take 40).all (aQ cX12_goBegin) = true := by decide +kernel
set_option maxRecDepth 100000 in
theorem aOK_X12_goBegin_2 : ((((aL_X12_goBegin).drop 40).drop 40).take 40).all (aQ cX12_goBegin) = true := by decide +kernel
set_option maxRecDepth 100000 in
theorem aOK_X12_goBegin_3 : ((((aL_X12_goBegin).drop 40).drop 40).drop 40).all (aQ cX12_goBegin) = true := by decide +kernel
theorem aOK_X12_goBegin : aCoC aM_X12_goBegin = true := aAll2 40 aOK_X12_goBegin_0 (aAll2 40 aOK_X12_goBegin_1 (aAll2 40 aOK_X12_goBegin_2 (aOK_X12_goBegin_3)))
set_option maxRecDepth 100000 in
theorem aOM_X12_begin : aMC aM_X12_begin = true := by decide +kernel
set_option maxRecDepth 100000 in
theorem aOK_X12_begin_0 : ((aL_X12_begin).take 40).all (aQ cX12_begin) = true := by decide +kernel
set_option maxRecDepth 100000 in
theorem aOK_X12_begin_1 : ((aL_X12_begin).drop 40).all (aQ cX12_begin) = true := by decide +kernel
theorem aOK_X12_begin : aCoC aM_X12_begin = true := aAll2 40 aOK_X12_begin_0 (aOK_X12_begin_1)
set_option maxRecDepth 100000 in
theorem aOM_X12_spited : aMC aM_X12_spited = true := by decide +kernel
set_option maxRecDepth 100000 in
theorem aOK_X12_spited_0 : ((aL_X12_spited).take 40).all (aQ cX12_spited) = true := by decide +kernel
set_option maxRecDepth 100000 in
theorem aOK_X12_spited_1 : ((aL_X12_spited).drop 40).all (aQ cX12_spited) = true := by decide +kernel
theorem aOK_X12_spited : aCoC aM_X12_spited = true := aAll2 40 aOK_X12_spited_0 (aOK_X12_spited_1)
set_option maxRecDepth 100000 in
theorem aOM_X12_spite : aMC aM_X12_spite = true := by decide +kernel
set_option maxRecDepth 100000 in
theorem aOK_X12_spite_0 : ((aL_X12_spite).take 40).all (aQ cX12_spite) = true := by decide +kernel
set_option maxRecDepth 100000 in
theorem aOK_X12_spite_1 : ((aL_X12_spite).drop 40).all (aQ cX12_spite) = true := by decide +kernel
theorem aOK_X12_spite : aCoC aM_X12_spite = true := aAll2 40 aOK_X12_spite_0 (aOK_X12_spite_1)
set_option maxRecDepth 100000 in
theorem aOM_X12_worthBy : aMC aM_X12_worthBy = true := by decide +kernel
set_option maxRecDepth 100000 in
theorem aOK_X12_worthBy : aCoC aM_X12_worthBy = true := by decide +kernel
set_option maxRecDepth 100000 in
theorem aOM_X12_wishOf : aMC aM_X12_wishOf = true := by decide +kernel
set_option maxRecDepth 100000 in
theorem aOK_X12_wishOf_0 : ((aL_X12_wishOf).take 40).all (aQ cX12_wishOf) = true := by decide +kernel
set_option maxRecDepth 100000 in
theorem aOK_X12_wishOf_1 : (((aL_X12_wishOf).drop 40).take 40).all (aQ cX12_wishOf) = true := by decide +kernel
set_option maxRecDepth 100000 in
theorem aOK_X12_wishOf_2 : (((aL_X12_wishOf).drop 40).drop 40).all (aQ cX12_wishOf) = true := by decide +kernel
theorem aOK_X12_wishOf : aCoC aM_X12_wishOf = true := aAll2 40 aOK_X12_wishOf_0 (aAll2 40 aOK_X12_wishOf_1 (aOK_X12_wishOf_2))
set_option maxRecDepth 100000 in
theorem aOM_X12_wish : aMC aM_X12_wish = true := by decide +kernel
set_option maxRecDepth 100000 in
theorem aOK_X12_wish : aCoC aM_X12_wish = true := by decide +kernel
set_option maxRecDepth 100000 in
theorem aOM_X12_gainOf : aMC aM_X12_gainOf = true := by decide +kernel
set_option maxRecDepth 100000 in
theorem aOK_X12_gainOf_0 : ((aL_X12_gainOf).take 40).all (aQ cX12_gainOf) = true := by decide +kernel
set_option maxRecDepth 100000 in
theorem aOK_X12_gainOf_1 : ((aL_X12_gainOf).drop 40).all (aQ cX12_gainOf) = true := by decide +kernel
theorem aOK_X12_gainOf : aCoC aM_X12_gainOf = true := aAll2 40 aOK_X12_gainOf_0 (aOK_X12_gainOf_1)
set_option maxRecDepth 100000 in
theorem aOM_X12_layRow : aMC aM_X12_layRow = true := by decide +kernel
set_option maxRecDepth 100000 in
theorem aOK_X12_layRow_0 : ((aL_X12_layRow).take 40).all (aQ cX12_layRow) = true := by decide +kernel
set_option maxRecDepth 100000 in
theorem aOK_X12_layRow_1 : ((aL_X12_layRow).drop 40).all (aQ cX12_layRow) = true := by decide +kernel
theorem aOK_X12_layRow : aCoC aM_X12_layRow = true := aAll2 40 aOK_X12_layRow_0 (aOK_X12_layRow_1)
set_option maxRecDepth 100000 in
theorem aOM_X12_gains : aMC aM_X12_gains = true := by decide +kernel
set_option maxRecDepth 100000 in
theorem aOK_X12_gains : aCoC aM_X12_gains = true := by decide +kernel
set_option maxRecDepth 100000 in
theorem aOM_X12_isRest : aMC aM_X12_isRest = true := by decide +kernel
set_option maxRecDepth 100000 in
theorem aOK_X12_isRest_0 : ((aL_X12_isRest).take 40).all (aQ cX12_isRest) = true := by decide +kernel
set_option maxRecDepth 100000 in
theorem aOK_X12_isRest_1 : ((aL_X12_isRest).drop 40).all (aQ cX12_isRest) = true := by decide +kernel
theorem aOK_X12_isRest : aCoC aM_X12_isRest = true := aAll2 40 aOK_X12_isRest_0 (aOK_X12_isRest_1)
set_option maxRecDepth 100000 in
theorem aOM_X12_goRests : aMC aM_X12_goRests = true := by decide +kernel
set_option maxRecDepth 100000 in
theorem aOK_X12_goRests_0 : ((aL_X12_goRests).take 40).all (aQ cX12_goRests) = true := by decide +kernel
set_option maxRecDepth 100000 in
theorem aOK_X12_goRests_1 : ((aL_X12_goRests).drop 40).all (aQ cX12_goRests) = true := by decide +kernel
theorem aOK_X12_goRests : aCoC aM_X12_goRests = true := aAll2 40 aOK_X12_goRests_0 (aOK_X12_goRests_1)
set_option maxRecDepth 100000 in
theorem aOM_X12_rests : aMC aM_X12_rests = true := by decide +kernel
set_option maxRecDepth 100000 in
theorem aOK_X12_rests_0 : ((aL_X12_rests).take 40).all (aQ cX12_rests) = true := by decide +kernel
set_option maxRecDepth 100000 in
theorem aOK_X12_rests_1 : ((aL_X12_rests).drop 40).all (aQ cX12_rests) = true := by decide +kernel
theorem aOK_X12_rests : aCoC aM_X12_rests = true := aAll2 40 aOK_X12_rests_0 (aOK_X12_rests_1)
set_option maxRecDepth 100000 in
theorem aOM_X12_isRow : aMC aM_X12_isRow = true := by decide +kernel
set_option maxRecDepth 100000 in
theorem aOK_X12_isRow : aCoC aM_X12_isRow = true := by decide +kernel
set_option maxRecDepth 100000 in
theorem aOM_X12_isLaw : aMC aM_X12_isLaw = true := by decide +kernel
set_option maxRecDepth 100000 in
theorem aOK_X12_isLaw : aCoC aM_X12_isLaw = true := by decide +kernel
set_option maxRecDepth 100000 in
theorem aOM_X12_tens : aMC aM_X12_tens = true := by decide +kernel
set_option maxRecDepth 100000 in
theorem aOK_X12_tens : aCoC aM_X12_tens = true := by decide +kernel
set_option maxRecDepth 100000 in
theorem aOM_X12_isFit : aMC aM_X12_isFit = true := by decide +kernel
set_option maxRecDepth 100000 in
theorem aOK_X12_isFit_0 : ((aL_X12_isFit).take 40).all (aQ cX12_isFit) = true := by decide +kernel
set_option maxRecDepth 100000 in
theorem aOK_X12_isFit_1 : (((aL_X12_isFit).drop 40).take 40).all (aQ cX12_isFit) = true := by decide +kernel
set_option maxRecDepth 100000 in
theorem aOK_X12_isFit_2 : (((aL_X12_isFit).drop 40).drop 40).all (aQ cX12_isFit) = true := by decide +kernel
theorem aOK_X12_isFit : aCoC aM_X12_isFit = true := aAll2 40 aOK_X12_isFit_0 (aAll2 40 aOK_X12_isFit_1 (aOK_X12_isFit_2))
end
section
/-! the checks of the program, by the kernel -/
set_option maxRecDepth 100000 in
theorem aOM_X12_ends : aMC aM_X12_ends = true := by decide +kernel
set_option maxRecDepth 100000 in
theorem aOK_X12_ends_0 : ((aL_X12_ends).take 40).all (aQ cX12_ends) = true := by decide +kernel
set_option maxRecDepth 100000 in
theorem aOK_X12_ends_1 : ((aL_X12_ends).drop 40).all (aQ cX12_ends) = true := by decide +kernel
theorem aOK_X12_ends : aCoC aM_X12_ends = true := aAll2 40 aOK_X12_ends_0 (aOK_X12_ends_1)
set_option maxRecDepth 100000 in
theorem aOM_X12_shortest : aMC aM_X12_shortest = true := by decide +kernel
set_option maxRecDepth 100000 in
theorem aOK_X12_shortest_0 : ((aL_X12_shortest).take 40).all (aQ cX12_shortest) = true := by decide +kernel
set_option maxRecDepth 100000 in
theorem aOK_X12_shortest_1 : ((aL_X12_shortest).drop 40).all (aQ cX12_shortest) = true := by decide +kernel
theorem aOK_X12_shortest : aCoC aM_X12_shortest = true := aAll2 40 aOK_X12_shortest_0 (aOK_X12_shortest_1)
set_option maxRecDepth 100000 in
theorem aOM_X12_judgedOf : aMC aM_X12_judgedOf = true := by decide +kernel
set_option maxRecDepth 100000 in
theorem aOK_X12_judgedOf : aCoC aM_X12_judgedOf = true := by decide +kernel
set_option maxRecDepth 100000 in
theorem aOM_X12_judged : aMC aM_X12_judged = true := by decide +kernel
set_option maxRecDepth 100000 in
theorem aOK_X12_judged : aCoC aM_X12_judged = true := by decide +kernel
set_option maxRecDepth 100000 in
theorem aOM_X12_dearest : aMC aM_X12_dearest = true := by decide +kernel
set_option maxRecDepth 100000 in
theorem aOK_X12_dearest_0 : ((aL_X12_dearest).take 40).all (aQ cX12_dearest) = true := by decide +kernel
set_option maxRecDepth 100000 in
theorem aOK_X12_dearest_1 : ((aL_X12_dearest).drop 40).all (aQ cX12_dearest) = true := by decide +kernel
theorem aOK_X12_dearest : aCoC aM_X12_dearest = true := aAll2 40 aOK_X12_dearest_0 (aOK_X12_dearest_1)
set_option maxRecDepth 100000 in
theorem aOM_X12_sign : aMC aM_X12_sign = true := by decide +kernel
set_option maxRecDepth 100000 in
theorem aOK_X12_sign : aCoC aM_X12_sign = true := by decide +kernel
set_option maxRecDepth 100000 in
theorem aOM_X12_ended : aMC aM_X12_ended = true := by decide +kernel
set_option maxRecDepth 100000 in
theorem aOK_X12_ended_0 : ((aL_X12_ended).take 40).all (aQ cX12_ended) = true := by decide +kernel
set_option maxRecDepth 100000 in
theorem aOK_X12_ended_1 : ((aL_X12_ended).drop 40).all (aQ cX12_ended) = true := by decide +kernel
theorem aOK_X12_ended : aCoC aM_X12_ended = true := aAll2 40 aOK_X12_ended_0 (aOK_X12_ended_1)
set_option maxRecDepth 100000 in
theorem aOM_X12_stood : aMC aM_X12_stood = true := by decide +kernel
set_option maxRecDepth 100000 in
theorem aOK_X12_stood_0 : ((aL_X12_stood).take 40).all (aQ cX12_stood) = true := by decide +kernel
set_option maxRecDepth 100000 in
theorem aOK_X12_stood_1 : ((aL_X12_stood).drop 40).all (aQ cX12_stood) = true := by decide +kernel
theorem aOK_X12_stood : aCoC aM_X12_stood = true := aAll2 40 aOK_X12_stood_0 (aOK_X12_stood_1)
set_option maxRecDepth 100000 in
theorem aOM_X12_sold : aMC aM_X12_sold = true := by decide +kernel
set_option maxRecDepth 100000 in
theorem aOK_X12_sold_0 : ((aL_X12_sold).take 40).all (aQ cX12_sold) = true := by decide +kernel
set_option maxRecDepth 100000 in
theorem aOK_X12_sold_1 : ((aL_X12_sold).drop 40).all (aQ cX12_sold) = true := by decide +kernel
theorem aOK_X12_sold : aCoC aM_X12_sold = true := aAll2 40 aOK_X12_sold_0 (aOK_X12_sold_1)
set_option maxRecDepth 100000 in
theorem aOM_X12_image : aMC aM_X12_image = true := by decide +kernel
set_option maxRecDepth 100000 in
theorem aOK_X12_image : aCoC aM_X12_image = true := by decide +kernel
set_option maxRecDepth 100000 in
theorem aOM_X12_back : aMC aM_X12_back = true := by decide +kernel
set_option maxRecDepth 100000 in
theorem aOK_X12_back : aCoC aM_X12_back = true := by decide +kernel
set_option maxRecDepth 100000 in
theorem aOM_X12_thatAre : aMC aM_X12_thatAre = true := by decide +kernel
set_option maxRecDepth 100000 in
theorem aOK_X12_thatAre : aCoC aM_X12_thatAre = true := by decide +kernel
set_option maxRecDepth 100000 in
theorem aOM_X12_count : aMC aM_X12_count = true := by decide +kernel
set_option maxRecDepth 100000 in
theorem aOK_X12_count_0 : ((aL_X12_count).take 40).all (aQ cX12_count) = true := by decide +kernel
set_option maxRecDepth 100000 in
theorem aOK_X12_count_1 : ((aL_X12_count).drop 40).all (aQ cX12_count) = true := by decide +kernel
theorem aOK_X12_count : aCoC aM_X12_count = true := aAll2 40 aOK_X12_count_0 (aOK_X12_count_1)
set_option maxRecDepth 100000 in
theorem aOM_J6_bitCount_0f7a4 : aMC aM_J6_bitCount_0f7a4 = true := by decide +kernel
set_option maxRecDepth 100000 in
theorem aOK_J6_bitCount_0f7a4_0 : ((aL_J6_bitCount_0f7a4).take 40).all (aQ cJ6_bitCount_0f7a4) = true := by decide +kernel
set_option maxRecDepth 100000 in
theorem aOK_J6_bitCount_0f7a4_1 : ((aL_J6_bitCount_0f7a4).drop 40).all (aQ cJ6_bitCount_0f7a4) = true := by decide +kernel
theorem aOK_J6_bitCount_0f7a4 : aCoC aM_J6_bitCount_0f7a4 = true := aAll2 40 aOK_J6_bitCount_0f7a4_0 (aOK_J6_bitCount_0f7a4_1)
set_option maxRecDepth 100000 in
theorem aOM_J7_fill_53178 : aMC aM_J7_fill_53178 = true := by decide +kernel
set_option maxRecDepth 100000 in
theorem aOK_J7_fill_53178 : aCoC aM_J7_fill_53178 = true := by decide +kernel
set_option maxRecDepth 100000 in
theorem aOK_law_0 : ((aL_law).take 40).all (aQ code) = true := by decide +kernel
set_option maxRecDepth 100000 in
theorem aOK_law_1 : (((aL_law).drop 40).take 40).all (aQ code) = true := by decide +kernel
set_option maxRecDepth 100000 in
theorem aOK_law_2 : ((((aL_law).drop 40).drop 40).take 40).all (aQ code) = true := by decide +kernel
set_option maxRecDepth 100000 in
theorem aOK_law_3 : (((((aL_law).drop 40).drop 40).drop 40).take 40).all (aQ code) = true := by decide +kernel
set_option maxRecDepth 100000 in
theorem aOK_law_4 : ((((((aL_law).drop 40).drop 40).drop 40).drop 40).take 40).all (aQ code) = true := by decide +kernel
set_option maxRecDepth 100000 in
theorem aOK_law_5 : (((((((aL_law).drop 40).drop 40).drop 40).drop 40).drop 40).take 40).all (aQ code) = true := by decide +kernel
set_option maxRecDepth 100000 in
theorem aOK_law_6 : ((((((((aL_law).drop 40).drop 40).drop 40).drop 40).drop 40).drop 40).take 40).all (aQ code) = true := by decide +kernel
set_option maxRecDepth 100000 in
theorem aOK_law_7 : (((((((((aL_law).drop 40).drop 40).drop 40).drop 40).drop 40).drop 40).drop 40).take 40).all (aQ code) = true := by decide +kernel
set_option maxRecDepth 100000 in
theorem aOK_law_8 : ((((((((((aL_law).drop 40).drop 40).drop 40).drop 40).drop 40).drop 40).drop 40).drop 40).take 40).all (aQ code) = true := by decide +kernel
set_option maxRecDepth 100000 in
theorem aOK_law_9 : (((((((((((aL_law).drop 40).drop 40).drop 40).drop 40).drop 40).drop 40).drop 40).drop 40).drop 40).take 40).all (aQ code) = true := by decide +kernel
set_option maxRecDepth 100000 in
theorem aOK_law_10 : ((((((((((((aL_law).drop 40).drop 40).drop 40).drop 40).drop 40).drop 40).drop 40).drop 40).drop 40).drop 40).take 40).all (aQ code) = true := by decide +kernel
set_option maxRecDepth 100000 in
theorem aOK_law_11 : (((((((((((((aL_law).drop 40).drop 40).drop 40).drop 40).drop 40).drop 40).drop 40).drop 40).drop 40).drop 40).drop 40).take 40).all (aQ code) = true := by decide +kernel
set_option maxRecDepth 100000 in
theorem aOK_law_12 : ((((((((((((((aL_law).drop 40).drop 40).drop 40).drop 40).drop 40).drop 40).drop 40).drop 40).drop 40).drop 40).drop 40).drop 40).take 40).all (aQ code) = true := by decide +kernel
set_option maxRecDepth 100000 in
theorem aOK_law_13 : (((((((((((((((aL_law).drop 40).drop 40).drop 40).drop 40).drop 40).drop 40).drop 40).drop 40).drop 40).drop 40).drop 40).drop 40).drop 40).take 40).all (aQ code) = true := by decide +kernel
set_option maxRecDepth 100000 in
theorem aOK_law_14 : ((((((((((((((((aL_law).drop 40).drop 40).drop 40).drop 40).drop 40).drop 40).drop 40).drop 40).drop 40).drop 40).drop 40).drop 40).drop 40).drop 40).take 40).all (aQ code) = true := by decide +kernel
set_option maxRecDepth 100000 in
theorem aOK_law_15 : (((((((((((((((((aL_law).drop 40).drop 40).drop 40).drop 40).drop 40).drop 40).drop 40).drop 40).drop 40).drop 40).drop 40).drop 40).drop 40).drop 40).drop 40).take 40).all (aQ code) = true := by decide +kernel
set_option maxRecDepth 100000 in
theorem aOK_law_16 : ((((((((((((((((((aL_law).drop 40).drop 40).drop 40).drop 40).drop 40).drop 40).drop 40).drop 40).drop 40).drop 40).drop 40).drop 40).drop 40).drop 40).drop 40).drop 40).take 40).all (aQ code) = true := by decide +kernel
set_option maxRecDepth 100000 in
theorem aOK_law_17 : (((((((((((((((((((aL_law).drop 40).drop 40).drop 40).drop 40).drop 40).drop 40).drop 40).drop 40).drop 40).drop 40).drop 40).drop 40).drop 40).drop 40).drop 40).drop 40).drop 40).take 40).all (aQ code) = true := by decide +kernel
set_option maxRecDepth 100000 in
theorem aOK_law_18 : ((((((((((((((((((((aL_law).drop 40).drop 40).drop 40).drop 40).drop 40).drop 40).drop 40).drop 40).drop 40).drop 40).drop 40).drop 40).drop 40).drop 40).drop 40).drop 40).drop 40).drop 40).take 40).all (aQ code) = true := by decide +kernel
set_option maxRecDepth 100000 in
theorem aOK_law_19 : (((((((((((((((((((((aL_law).drop 40).drop 40).drop 40).drop 40).drop 40).drop 40).drop 40).drop 40).drop 40).drop 40).drop 40).drop 40).drop 40).drop 40).drop 40).drop 40).drop 40).drop 40).drop 40).take 40).all (aQ code) = true := by decide +kernel
set_option maxRecDepth 100000 in
theorem aOK_law_20 : ((((((((((((((((((((((aL_law).drop 40).drop 40).drop 40).drop 40).drop 40).drop 40).drop 40).drop 40).drop 40).drop 40).drop 40).drop 40).drop 40).drop 40).drop 40).drop 40).drop 40).drop 40).drop 40).drop 40).take 40).all (aQ code) = true := by decide +kernel
set_option maxRecDepth 100000 in
theorem aOK_law_21 : (((((((((((((((((((((((aL_law).drop 40).drop 40).drop 40).drop 40).drop 40).drop 40).drop 40).drop 40).drop 40).drop 40).drop 40).drop 40).drop 40).drop 40).drop 40).drop 40).drop 40).drop 40).drop 40).drop 40).drop 40).take 40).all (aQ code) = true := by decide +kernel
set_option maxRecDepth 100000 in
theorem aOK_law_22 : ((((((((((((((((((((((((aL_law).drop 40).drop 40).drop 40).drop 40).drop 40).drop 40).drop 40).drop 40).drop 40).drop 40).drop 40).drop 40).drop 40).drop 40).drop 40).drop 40).drop 40).drop 40).drop 40).drop 40).drop 40).drop 40).take 40).all (aQ code) = true := by decide +kernel
set_option maxRecDepth 100000 in
theorem aOK_law_23 : (((((((((((((((((((((((((aL_law).drop 40).drop 40).drop 40).drop 40).drop 40).drop 40).drop 40).drop 40).drop 40).drop 40).drop 40).drop 40).drop 40).drop 40).drop 40).drop 40).drop 40).drop 40).drop 40).drop 40).drop 40).drop 40).drop 40).take 40).all (aQ code) = true := by decide +kernel
set_option maxRecDepth 100000 in
theorem aOK_law_24 : ((((((((((((((((((((((((((aL_law).drop 40).drop 40).drop 40).drop 40).drop 40).drop 40).drop 40).drop 40).drop 40).drop 40).drop 40).drop 40).drop 40).drop 40).drop 40).drop 40).drop 40).drop 40).drop 40).drop 40).drop 40).drop 40).drop 40).drop 40).take 40).all (aQ code) = true := by decide +kernel
set_option maxRecDepth 100000 in
theorem aOK_law_25 : ((((((((((((((((((((((((((aL_law).drop 40).drop 40).drop 40).drop 40).drop 40).drop 40).drop 40).drop 40).drop 40).drop 40).drop 40).drop 40).drop 40).drop 40).drop 40).drop 40).drop 40).drop 40).drop 40).drop 40).drop 40).drop 40).drop 40).drop 40).drop 40).all (aQ code) = true := by decide +kernel
theorem aOK_law : aCoC aM_law = true := aAll2 40 aOK_law_0 (aAll2 40 aOK_law_1 (aAll2 40 aOK_law_2 (aAll2 40 aOK_law_3 (aAll2 40 aOK_law_4 (aAll2 40 aOK_law_5 (aAll2 40 aOK_law_6 (aAll2 40 aOK_law_7 (aAll2 40 aOK_law_8 (aAll2 40 aOK_law_9 (aAll2 40 aOK_law_10 (aAll2 40 aOK_law_11 (aAll2 40 aOK_law_12 (aAll2 40 aOK_law_13 (aAll2 40 aOK_law_14 (aAll2 40 aOK_law_15 (aAll2 40 aOK_law_16 (aAll2 40 aOK_law_17 (aAll2 40 aOK_law_18 (aAll2 40 aOK_law_19 (aAll2 40 aOK_law_20 (aAll2 40 aOK_law_21 (aAll2 40 aOK_law_22 (aAll2 40 aOK_law_23 (aAll2 40 aOK_law_24 (aOK_law_25)))))))))))))))))))))))))
end
section
/-! the checks of the program, by the kernel -/
theorem aG_0 : ∀ M ∈ aP_0, aMC M = true ∧ aCoC M = true ∧ aClC aProg (aCs M) = true := List.forall_mem_cons.mpr ⟨⟨aOM_X0_has, aOK_X0_has, aOC_RX0⟩, List.forall_mem_cons.mpr ⟨⟨aOM_X0_read, aOK_X0_read, aOC_RX0⟩, List.forall_mem_cons.mpr ⟨⟨aOM_X0_add, aOK_X0_add, aOC_RX0⟩, List.forall_mem_cons.mpr ⟨⟨aOM_X1_full, aOK_X1_full, aOC_RX1⟩, List.forall_mem_cons.mpr ⟨⟨aOM_X1_lineUp, aOK_X1_lineUp, aOC_RX1⟩, List.forall_mem_cons.mpr ⟨⟨aOM_X1_putInOrder, aOK_X1_putInOrder, aOC_RX1⟩, List.forall_mem_cons.mpr ⟨⟨aOM_X1_placeOf, aOK_X1_placeOf, aOC_RX1⟩, List.forall_mem_cons.mpr ⟨⟨aOM_X1_spanSets, aOK_X1_spanSets, aOC_RX1⟩, List.forall_mem_cons.mpr ⟨⟨aOM_X1_dealNothing, aOK_X1_dealNothing, aOC_RX1⟩, List.forall_mem_cons.mpr ⟨⟨aOM_X1_shareOf, aOK_X1_shareOf, aOC_RX1⟩, List.forall_mem_cons.mpr ⟨⟨aOM_X1_dealTo, aOK_X1_dealTo, aOC_RX1⟩, List.forall_mem_cons.mpr ⟨⟨aOM_X1_dealToAllBut, aOK_X1_dealToAllBut, aOC_RX1⟩, List.forall_mem_cons.mpr ⟨⟨aOM_X1_dealAll, aOK_X1_dealAll, aOC_RX1⟩, List.forall_mem_cons.mpr ⟨⟨aOM_X1_valuesOf, aOK_X1_valuesOf, aOC_RX1⟩, List.forall_mem_cons.mpr ⟨⟨aOM_X1_digitsOf, aOK_X1_digitsOf, aOC_RX1⟩, List.forall_mem_cons.mpr ⟨⟨aOM_X1_learnBest, aOK_X1_learnBest, aOC_RX1⟩, List.forall_mem_cons.mpr ⟨⟨aOM_X1_valuesLearnt, aOK_X1_valuesLearnt, aOC_RX1⟩, List.forall_mem_cons.mpr ⟨⟨aOM_X1_mostWithin, aOK_X1_mostWithin, aOC_RX1⟩, List.forall_mem_cons.mpr ⟨⟨aOM_X1_mostAlone, aOK_X1_mostAlone, aOC_RX1⟩, List.forall_mem_cons.mpr ⟨⟨aOM_X1_spiteOn, aOK_X1_spiteOn, aOC_RX1⟩, fun _ h => absurd h List.not_mem_nil⟩⟩⟩⟩⟩⟩⟩⟩⟩⟩⟩⟩⟩⟩⟩⟩⟩⟩⟩⟩
theorem aG_1 : ∀ M ∈ aP_1, aMC M = true ∧ aCoC M = true ∧ aClC aProg (aCs M) = true := List.forall_mem_cons.mpr ⟨⟨aOM_X1_valuesBehind, aOK_X1_valuesBehind, aOC_RX1⟩, List.forall_mem_cons.mpr ⟨⟨aOM_X2_beginBest, aOK_X2_beginBest, aOC_RX2⟩, List.forall_mem_cons.mpr ⟨⟨aOM_X2_openRanges, aOK_X2_openRanges, aOC_RX2⟩, List.forall_mem_cons.mpr ⟨⟨aOM_X2_cutRange, aOK_X2_cutRange, aOC_RX2⟩, List.forall_mem_cons.mpr ⟨⟨aOM_X2_mostBegun, aOK_X2_mostBegun, aOC_RX2⟩, List.forall_mem_cons.mpr ⟨⟨aOM_X2_dealNothing, aOK_X2_dealNothing, aOC_RX2⟩, List.forall_mem_cons.mpr ⟨⟨aOM_X2_undealt, aOK_X2_undealt, aOC_RX2⟩, List.forall_mem_cons.mpr ⟨⟨aOM_X2_findDays, aOK_X2_findDays, aOC_RX2⟩, List.forall_mem_cons.mpr ⟨⟨aOM_X2_findPrices, aOK_X2_findPrices, aOC_RX2⟩, List.forall_mem_cons.mpr ⟨⟨aOM_X2_quickestBy, aOK_X2_quickestBy, aOC_RX2⟩, List.forall_mem_cons.mpr ⟨⟨aOM_X2_shareOut, aOK_X2_shareOut, aOC_RX2⟩, List.forall_mem_cons.mpr ⟨⟨aOM_X3_add, aOK_X3_add, aOC_RX3⟩, List.forall_mem_cons.mpr ⟨⟨aOM_X3_doneOf, aOK_X3_doneOf, aOC_RX3⟩, List.forall_mem_cons.mpr ⟨⟨aOM_X3_isSo, aOK_X3_isSo, aOC_RX3⟩, List.forall_mem_cons.mpr ⟨⟨aOM_X4_clear, aOK_X4_clear, aOC_RX4⟩, List.forall_mem_cons.mpr ⟨⟨aOM_X4_addThing, aOK_X4_addThing, aOC_RX4⟩, List.forall_mem_cons.mpr ⟨⟨aOM_X4_addStep, aOK_X4_addStep, aOC_RX4⟩, List.forall_mem_cons.mpr ⟨⟨aOM_X4_settle, aOK_X4_settle, aOC_RX4⟩, List.forall_mem_cons.mpr ⟨⟨aOM_X4_addHeir, aOK_X4_addHeir, aOC_RX4⟩, List.forall_mem_cons.mpr ⟨⟨aOM_X4_addTool, aOK_X4_addTool, aOC_RX4⟩, fun _ h => absurd h List.not_mem_nil⟩⟩⟩⟩⟩⟩⟩⟩⟩⟩⟩⟩⟩⟩⟩⟩⟩⟩⟩⟩
theorem aG_2 : ∀ M ∈ aP_2, aMC M = true ∧ aCoC M = true ∧ aClC aProg (aCs M) = true := List.forall_mem_cons.mpr ⟨⟨aOM_X4_isWhole, aOK_X4_isWhole, aOC_RX4⟩, List.forall_mem_cons.mpr ⟨⟨aOM_X4_isTold, aOK_X4_isTold, aOC_RX4⟩, List.forall_mem_cons.mpr ⟨⟨aOM_X4_hasThing, aOK_X4_hasThing, aOC_RX4⟩, List.forall_mem_cons.mpr ⟨⟨aOM_X4_hasHeir, aOK_X4_hasHeir, aOC_RX4⟩, List.forall_mem_cons.mpr ⟨⟨aOM_X4_hasStep, aOK_X4_hasStep, aOC_RX4⟩, List.forall_mem_cons.mpr ⟨⟨aOM_X4_hasSet, aOK_X4_hasSet, aOC_RX4⟩, List.forall_mem_cons.mpr ⟨⟨aOM_X4_isOpen, aOK_X4_isOpen, aOC_RX4⟩, List.forall_mem_cons.mpr ⟨⟨aOM_X4_skill, aOK_X4_skill, aOC_RX4⟩, List.forall_mem_cons.mpr ⟨⟨aOM_X4_addSkill, aOK_X4_addSkill, aOC_RX4⟩, List.forall_mem_cons.mpr ⟨⟨aOM_X4_allSkills, aOK_X4_allSkills, aOC_RX4⟩, List.forall_mem_cons.mpr ⟨⟨aOM_X4_heldBy, aOK_X4_heldBy, aOC_RX4⟩, List.forall_mem_cons.mpr ⟨⟨aOM_X4_countOf, aOK_X4_countOf, aOC_RX4⟩, List.forall_mem_cons.mpr ⟨⟨aOM_X4_finishedValues, aOK_X4_finishedValues, aOC_RX4⟩, List.forall_mem_cons.mpr ⟨⟨aOM_X4_daysFor, aOK_X4_daysFor, aOC_RX4⟩, List.forall_mem_cons.mpr ⟨⟨aOM_X4_stepDays, aOK_X4_stepDays, aOC_RX4⟩, List.forall_mem_cons.mpr ⟨⟨aOM_X4_daysFrom, aOK_X4_daysFrom, aOC_RX4⟩, List.forall_mem_cons.mpr ⟨⟨aOM_X4_aloneDays, aOK_X4_aloneDays, aOC_RX4⟩, List.forall_mem_cons.mpr ⟨⟨aOM_X4_isInTime, aOK_X4_isInTime, aOC_RX4⟩, List.forall_mem_cons.mpr ⟨⟨aOM_X4_daysInTime, aOK_X4_daysInTime, aOC_RX4⟩, List.forall_mem_cons.mpr ⟨⟨aOM_X4_aloneInTime, aOK_X4_aloneInTime, aOC_RX4⟩, fun _ h => absurd h List.not_mem_nil⟩⟩⟩⟩⟩⟩⟩⟩⟩⟩⟩⟩⟩⟩⟩⟩⟩⟩⟩⟩
theorem aG_3 : ∀ M ∈ aP_3, aMC M = true ∧ aCoC M = true ∧ aClC aProg (aCs M) = true := List.forall_mem_cons.mpr ⟨⟨aOM_X4_bestSkill, aOK_X4_bestSkill, aOC_RX4⟩, List.forall_mem_cons.mpr ⟨⟨aOM_X4_everyone, aOK_X4_everyone, aOC_RX4⟩, List.forall_mem_cons.mpr ⟨⟨aOM_X4_firstStuck, aOK_X4_firstStuck, aOC_RX4⟩, List.forall_mem_cons.mpr ⟨⟨aOM_X4_teamDays, aOK_X4_teamDays, aOC_RX4⟩, List.forall_mem_cons.mpr ⟨⟨aOM_X4_fewestInTime, aOK_X4_fewestInTime, aOC_RX4⟩, List.forall_mem_cons.mpr ⟨⟨aOM_X4_paidByGuilds, aOK_X4_paidByGuilds, aOC_RX4⟩, List.forall_mem_cons.mpr ⟨⟨aOM_X4_passDay, aOK_X4_passDay, aOC_RX4⟩, List.forall_mem_cons.mpr ⟨⟨aOM_X4_workOf, aOK_X4_workOf, aOC_RX4⟩, List.forall_mem_cons.mpr ⟨⟨aOM_X4_workAt, aOK_X4_workAt, aOC_RX4⟩, List.forall_mem_cons.mpr ⟨⟨aOM_X4_closeDay, aOK_X4_closeDay, aOC_RX4⟩, List.forall_mem_cons.mpr ⟨⟨aOM_X4_raiseHeirs, aOK_X4_raiseHeirs, aOC_RX4⟩, List.forall_mem_cons.mpr ⟨⟨aOM_X5_open, aOK_X5_open, aOC_RX5⟩, List.forall_mem_cons.mpr ⟨⟨aOM_X5_addThing, aOK_X5_addThing, aOC_RX5⟩, List.forall_mem_cons.mpr ⟨⟨aOM_X5_tellOf, aOK_X5_tellOf, aOC_RX5⟩, List.forall_mem_cons.mpr ⟨⟨aOM_X5_isChoice, aOK_X5_isChoice, aOC_RX5⟩, List.forall_mem_cons.mpr ⟨⟨aOM_X5_takeRow, aOK_X5_takeRow, aOC_RX5⟩, List.forall_mem_cons.mpr ⟨⟨aOM_X5_findLeads, aOK_X5_findLeads, aOC_RX5⟩, List.forall_mem_cons.mpr ⟨⟨aOM_X5_gainOf, aOK_X5_gainOf, aOC_RX5⟩, List.forall_mem_cons.mpr ⟨⟨aOM_X5_isContent, aOK_X5_isContent, aOC_RX5⟩, List.forall_mem_cons.mpr ⟨⟨aOM_X5_areContent, aOK_X5_areContent, aOC_RX5⟩, fun _ h => absurd h List.not_mem_nil⟩⟩⟩⟩⟩⟩⟩⟩⟩⟩⟩⟩⟩⟩⟩⟩⟩⟩⟩⟩
theorem aG_4 : ∀ M ∈ aP_4, aMC M = true ∧ aCoC M = true ∧ aClC aProg (aCs M) = true := List.forall_mem_cons.mpr ⟨⟨aOM_X5_restingRow, aOK_X5_restingRow, aOC_RX5⟩, List.forall_mem_cons.mpr ⟨⟨aOM_X5_pickBy, aOK_X5_pickBy, aOC_RX5⟩, List.forall_mem_cons.mpr ⟨⟨aOM_X6_read, aOK_X6_read, aOC_RX6⟩, List.forall_mem_cons.mpr ⟨⟨aOM_X6_emit, aOK_X6_emit, aOC_RX6⟩, List.forall_mem_cons.mpr ⟨⟨aOM_X6_readClause, aOK_X6_readClause, aOC_RX6⟩, List.forall_mem_cons.mpr ⟨⟨aOM_X6_readCondition, aOK_X6_readCondition, aOC_RX6⟩, List.forall_mem_cons.mpr ⟨⟨aOM_X6_readTruth, aOK_X6_readTruth, aOC_RX6⟩, List.forall_mem_cons.mpr ⟨⟨aOM_X6_readUnit, aOK_X6_readUnit, aOC_RX6⟩, List.forall_mem_cons.mpr ⟨⟨aOM_X6_readNested, aOK_X6_readNested, aOC_RX6⟩, List.forall_mem_cons.mpr ⟨⟨aOM_X6_readSum, aOK_X6_readSum, aOC_RX6⟩, List.forall_mem_cons.mpr ⟨⟨aOM_X6_readTerm, aOK_X6_readTerm, aOC_RX6⟩, List.forall_mem_cons.mpr ⟨⟨aOM_X6_readAtom, aOK_X6_readAtom, aOC_RX6⟩, List.forall_mem_cons.mpr ⟨⟨aOM_X6_comparison, aOK_X6_comparison, aOC_RX6⟩, List.forall_mem_cons.mpr ⟨⟨aOM_X6_letterOf, aOK_X6_letterOf, aOC_RX6⟩, List.forall_mem_cons.mpr ⟨⟨aOM_X7_has, aOK_X7_has, aOC_RX7⟩, List.forall_mem_cons.mpr ⟨⟨aOM_X7_add, aOK_X7_add, aOC_RX7⟩, List.forall_mem_cons.mpr ⟨⟨aOM_X7_tellOfWish, aOK_X7_tellOfWish, aOC_RX7⟩, List.forall_mem_cons.mpr ⟨⟨aOM_X7_likes, aOK_X7_likes, aOC_RX7⟩, List.forall_mem_cons.mpr ⟨⟨aOM_X7_signsLiked, aOK_X7_signsLiked, aOC_RX7⟩, List.forall_mem_cons.mpr ⟨⟨aOM_X7_worth, aOK_X7_worth, aOC_RX7⟩, fun _ h => absurd h List.not_mem_nil⟩⟩⟩⟩⟩⟩⟩⟩⟩⟩⟩⟩⟩⟩⟩⟩⟩⟩⟩⟩
theorem aG_5 : ∀ M ∈ aP_5, aMC M = true ∧ aCoC M = true ∧ aClC aProg (aCs M) = true := List.forall_mem_cons.mpr ⟨⟨aOM_X7_joined, aOK_X7_joined, aOC_RX7⟩, List.forall_mem_cons.mpr ⟨⟨aOM_X7_reckoned, aOK_X7_reckoned, aOC_RX7⟩, List.forall_mem_cons.mpr ⟨⟨aOM_X7_push, aOK_X7_push, aOC_RX7⟩, List.forall_mem_cons.mpr ⟨⟨aOM_X7_pop, aOK_X7_pop, aOC_RX7⟩, List.forall_mem_cons.mpr ⟨⟨aOM_X8_forget, aOK_X8_forget, aOC_RX8⟩, List.forall_mem_cons.mpr ⟨⟨aOM_X8_keep, aOK_X8_keep, aOC_RX8⟩, List.forall_mem_cons.mpr ⟨⟨aOM_X8_takeBack, aOK_X8_takeBack, aOC_RX8⟩, List.forall_mem_cons.mpr ⟨⟨aOM_X8_keepImage, aOK_X8_keepImage, aOC_RX8⟩, List.forall_mem_cons.mpr ⟨⟨aOM_X8_bringBack, aOK_X8_bringBack, aOC_RX8⟩, List.forall_mem_cons.mpr ⟨⟨aOM_X9_bytesOf, aOK_X9_bytesOf, aOC_RX9⟩, List.forall_mem_cons.mpr ⟨⟨aOM_X9_add, aOK_X9_add, aOC_RX9⟩, List.forall_mem_cons.mpr ⟨⟨aOM_X9_rewind, aOK_X9_rewind, aOC_RX9⟩, List.forall_mem_cons.mpr ⟨⟨aOM_X9_peek, aOK_X9_peek, aOC_RX9⟩, List.forall_mem_cons.mpr ⟨⟨aOM_X9_skip, aOK_X9_skip, aOC_RX9⟩, List.forall_mem_cons.mpr ⟨⟨aOM_X9_fails, aOK_X9_fails, aOC_RX9⟩, List.forall_mem_cons.mpr ⟨⟨aOM_X9_must, aOK_X9_must, aOC_RX9⟩, List.forall_mem_cons.mpr ⟨⟨aOM_X9_number, aOK_X9_number, aOC_RX9⟩, List.forall_mem_cons.mpr ⟨⟨aOM_X9_isDigit, aOK_X9_isDigit, aOC_RX9⟩, List.forall_mem_cons.mpr ⟨⟨aOM_X10_read, aOK_X10_read, aOC_RX10⟩, List.forall_mem_cons.mpr ⟨⟨aOM_X10_readClause, aOK_X10_readClause, aOC_RX10⟩, fun _ h => absurd h List.not_mem_nil⟩⟩⟩⟩⟩⟩⟩⟩⟩⟩⟩⟩⟩⟩⟩⟩⟩⟩⟩⟩
theorem aG_6 : ∀ M ∈ aP_6, aMC M = true ∧ aCoC M = true ∧ aClC aProg (aCs M) = true := List.forall_mem_cons.mpr ⟨⟨aOM_X10_readThing, aOK_X10_readThing, aOC_RX10⟩, List.forall_mem_cons.mpr ⟨⟨aOM_X10_thingItem, aOK_X10_thingItem, aOC_RX10⟩, List.forall_mem_cons.mpr ⟨⟨aOM_X10_putItem, aOK_X10_putItem, aOC_RX10⟩, List.forall_mem_cons.mpr ⟨⟨aOM_X10_readSteps, aOK_X10_readSteps, aOC_RX10⟩, List.forall_mem_cons.mpr ⟨⟨aOM_X10_readHeir, aOK_X10_readHeir, aOC_RX10⟩, List.forall_mem_cons.mpr ⟨⟨aOM_X10_readTool, aOK_X10_readTool, aOC_RX10⟩, List.forall_mem_cons.mpr ⟨⟨aOM_X10_tradeOf, aOK_X10_tradeOf, aOC_RX10⟩, List.forall_mem_cons.mpr ⟨⟨aOM_X11_feed, aOK_X11_feed, aOC_RX11⟩, List.forall_mem_cons.mpr ⟨⟨aOM_X11_end, aOK_X11_end, aOC_RX11⟩, List.forall_mem_cons.mpr ⟨⟨aOM_X11_fault, aOK_X11_fault, aOC_RX11⟩, List.forall_mem_cons.mpr ⟨⟨aOM_X11_text, aOK_X11_text, aOC_RX11⟩, List.forall_mem_cons.mpr ⟨⟨aOM_X11_putWill, aOK_X11_putWill, aOC_RX11⟩, List.forall_mem_cons.mpr ⟨⟨aOM_X11_step, aOK_X11_step, aOC_RX11⟩, List.forall_mem_cons.mpr ⟨⟨aOM_X11_heir, aOK_X11_heir, aOC_RX11⟩, List.forall_mem_cons.mpr ⟨⟨aOM_X11_tools, aOK_X11_tools, aOC_RX11⟩, List.forall_mem_cons.mpr ⟨⟨aOM_X11_law, aOK_X11_law, aOC_RX11⟩, List.forall_mem_cons.mpr ⟨⟨aOM_X11_takes, aOK_X11_takes, aOC_RX11⟩, List.forall_mem_cons.mpr ⟨⟨aOM_X11_alone, aOK_X11_alone, aOC_RX11⟩, List.forall_mem_cons.mpr ⟨⟨aOM_X11_who, aOK_X11_who, aOC_RX11⟩, List.forall_mem_cons.mpr ⟨⟨aOM_X11_stuck, aOK_X11_stuck, aOC_RX11⟩, fun _ h => absurd h List.not_mem_nil⟩⟩⟩⟩⟩⟩⟩⟩⟩⟩⟩⟩⟩⟩⟩⟩⟩⟩⟩⟩
theorem aG_7 : ∀ M ∈ aP_7, aMC M = true ∧ aCoC M = true ∧ aClC aProg (aCs M) = true := List.forall_mem_cons.mpr ⟨⟨aOM_X11_team, aOK_X11_team, aOC_RX11⟩, List.forall_mem_cons.mpr ⟨⟨aOM_X11_helpers, aOK_X11_helpers, aOC_RX11⟩, List.forall_mem_cons.mpr ⟨⟨aOM_X11_sold, aOK_X11_sold, aOC_RX11⟩, List.forall_mem_cons.mpr ⟨⟨aOM_X11_give, aOK_X11_give, aOC_RX11⟩, List.forall_mem_cons.mpr ⟨⟨aOM_X11_teach, aOK_X11_teach, aOC_RX11⟩, List.forall_mem_cons.mpr ⟨⟨aOM_X11_days, aOK_X11_days, aOC_RX11⟩, List.forall_mem_cons.mpr ⟨⟨aOM_X11_generation, aOK_X11_generation, aOC_RX11⟩, List.forall_mem_cons.mpr ⟨⟨aOM_X11_undo, aOK_X11_undo, aOC_RX11⟩, List.forall_mem_cons.mpr ⟨⟨aOM_X11_image, aOK_X11_image, aOC_RX11⟩, List.forall_mem_cons.mpr ⟨⟨aOM_X11_back, aOK_X11_back, aOC_RX11⟩, List.forall_mem_cons.mpr ⟨⟨aOM_X11_deal, aOK_X11_deal, aOC_RX11⟩, List.forall_mem_cons.mpr ⟨⟨aOM_X11_best, aOK_X11_best, aOC_RX11⟩, List.forall_mem_cons.mpr ⟨⟨aOM_X11_learn, aOK_X11_learn, aOC_RX11⟩, List.forall_mem_cons.mpr ⟨⟨aOM_X11_begin, aOK_X11_begin, aOC_RX11⟩, List.forall_mem_cons.mpr ⟨⟨aOM_X11_spite, aOK_X11_spite, aOC_RX11⟩, List.forall_mem_cons.mpr ⟨⟨aOM_X11_wish, aOK_X11_wish, aOC_RX11⟩, List.forall_mem_cons.mpr ⟨⟨aOM_X11_wishOf, aOK_X11_wishOf, aOC_RX11⟩, List.forall_mem_cons.mpr ⟨⟨aOM_X11_rests, aOK_X11_rests, aOC_RX11⟩, List.forall_mem_cons.mpr ⟨⟨aOM_X11_gains, aOK_X11_gains, aOC_RX11⟩, List.forall_mem_cons.mpr ⟨⟨aOM_X11_layOutGame, aOK_X11_layOutGame, aOC_RX11⟩, fun _ h => absurd h List.not_mem_nil⟩⟩⟩⟩⟩⟩⟩⟩⟩⟩⟩⟩⟩⟩⟩⟩⟩⟩⟩⟩
theorem aG_8 : ∀ M ∈ aP_8, aMC M = true ∧ aCoC M = true ∧ aClC aProg (aCs M) = true := List.forall_mem_cons.mpr ⟨⟨aOM_X11_ends, aOK_X11_ends, aOC_RX11⟩, List.forall_mem_cons.mpr ⟨⟨aOM_X11_shortest, aOK_X11_shortest, aOC_RX11⟩, List.forall_mem_cons.mpr ⟨⟨aOM_X11_judged, aOK_X11_judged, aOC_RX11⟩, List.forall_mem_cons.mpr ⟨⟨aOM_X11_dearest, aOK_X11_dearest, aOC_RX11⟩, List.forall_mem_cons.mpr ⟨⟨aOM_X11_fitting, aOK_X11_fitting, aOC_RX11⟩, List.forall_mem_cons.mpr ⟨⟨aOM_X11_fits, aOK_X11_fits, aOC_RX11⟩, List.forall_mem_cons.mpr ⟨⟨aOM_X11_isBehind, aOK_X11_isBehind, aOC_RX11⟩, List.forall_mem_cons.mpr ⟨⟨aOM_X11_sign, aOK_X11_sign, aOC_RX11⟩, List.forall_mem_cons.mpr ⟨⟨aOM_X11_ended, aOK_X11_ended, aOC_RX11⟩, List.forall_mem_cons.mpr ⟨⟨aOM_X11_stood, aOK_X11_stood, aOC_RX11⟩, List.forall_mem_cons.mpr ⟨⟨aOM_X11_count, aOK_X11_count, aOC_RX11⟩, List.forall_mem_cons.mpr ⟨⟨aOM_X11_isTrade, aOK_X11_isTrade, aOC_RX11⟩, List.forall_mem_cons.mpr ⟨⟨aOM_X12_thrown, aOK_X12_thrown, aOC_RX12⟩, List.forall_mem_cons.mpr ⟨⟨aOM_X12_isIn, aOK_X12_isIn, aOC_RX12⟩, List.forall_mem_cons.mpr ⟨⟨aOM_X12_has, aOK_X12_has, aOC_RX12⟩, List.forall_mem_cons.mpr ⟨⟨aOM_X12_isAmong, aOK_X12_isAmong, aOC_RX12⟩, List.forall_mem_cons.mpr ⟨⟨aOM_X12_bytesIn, aOK_X12_bytesIn, aOC_RX12⟩, List.forall_mem_cons.mpr ⟨⟨aOM_X12_put, aOK_X12_put, aOC_RX12⟩, List.forall_mem_cons.mpr ⟨⟨aOM_X12_feed, aOK_X12_feed, aOC_RX12⟩, List.forall_mem_cons.mpr ⟨⟨aOM_X12_end, aOK_X12_end, aOC_RX12⟩, fun _ h => absurd h List.not_mem_nil⟩⟩⟩⟩⟩⟩⟩⟩⟩⟩⟩⟩⟩⟩⟩⟩⟩⟩⟩⟩
theorem aG_9 : ∀ M ∈ aP_9, aMC M = true ∧ aCoC M = true ∧ aClC aProg (aCs M) = true := List.forall_mem_cons.mpr ⟨⟨aOM_X12_look, aOK_X12_look, aOC_RX12⟩, List.forall_mem_cons.mpr ⟨⟨aOM_X12_fails, aOK_X12_fails, aOC_RX12⟩, List.forall_mem_cons.mpr ⟨⟨aOM_X12_goesIn, aOK_X12_goesIn, aOC_RX12⟩, List.forall_mem_cons.mpr ⟨⟨aOM_X12_takes, aOK_X12_takes, aOC_RX12⟩, List.forall_mem_cons.mpr ⟨⟨aOM_X12_isDigit, aOK_X12_isDigit, aOC_RX12⟩, List.forall_mem_cons.mpr ⟨⟨aOM_X12_within, aOK_X12_within, aOC_RX12⟩, List.forall_mem_cons.mpr ⟨⟨aOM_X12_atom, aOK_X12_atom, aOC_RX12⟩, List.forall_mem_cons.mpr ⟨⟨aOM_X12_term, aOK_X12_term, aOC_RX12⟩, List.forall_mem_cons.mpr ⟨⟨aOM_X12_sum, aOK_X12_sum, aOC_RX12⟩, List.forall_mem_cons.mpr ⟨⟨aOM_X12_isSign, aOK_X12_isSign, aOC_RX12⟩, List.forall_mem_cons.mpr ⟨⟨aOM_X12_compares, aOK_X12_compares, aOC_RX12⟩, List.forall_mem_cons.mpr ⟨⟨aOM_X12_unit, aOK_X12_unit, aOC_RX12⟩, List.forall_mem_cons.mpr ⟨⟨aOM_X12_part, aOK_X12_part, aOC_RX12⟩, List.forall_mem_cons.mpr ⟨⟨aOM_X12_condition, aOK_X12_condition, aOC_RX12⟩, List.forall_mem_cons.mpr ⟨⟨aOM_X12_clause, aOK_X12_clause, aOC_RX12⟩, List.forall_mem_cons.mpr ⟨⟨aOM_X12_starts, aOK_X12_starts, aOC_RX12⟩, List.forall_mem_cons.mpr ⟨⟨aOM_X12_goThrough, aOK_X12_goThrough, aOC_RX12⟩, List.forall_mem_cons.mpr ⟨⟨aOM_X12_here, aOK_X12_here, aOC_RX12⟩, List.forall_mem_cons.mpr ⟨⟨aOM_X12_placeOf, aOK_X12_placeOf, aOC_RX12⟩, List.forall_mem_cons.mpr ⟨⟨aOM_X12_readItem, aOK_X12_readItem, aOC_RX12⟩, fun _ h => absurd h List.not_mem_nil⟩⟩⟩⟩⟩⟩⟩⟩⟩⟩⟩⟩⟩⟩⟩⟩⟩⟩⟩⟩
theorem aG_10 : ∀ M ∈ aP_10, aMC M = true ∧ aCoC M = true ∧ aClC aProg (aCs M) = true := List.forall_mem_cons.mpr ⟨⟨aOM_X12_readItems, aOK_X12_readItems, aOC_RX12⟩, List.forall_mem_cons.mpr ⟨⟨aOM_X12_readSteps, aOK_X12_readSteps, aOC_RX12⟩, List.forall_mem_cons.mpr ⟨⟨aOM_X12_readThing, aOK_X12_readThing, aOC_RX12⟩, List.forall_mem_cons.mpr ⟨⟨aOM_X12_readClause, aOK_X12_readClause, aOC_RX12⟩, List.forall_mem_cons.mpr ⟨⟨aOM_X12_readWill, aOK_X12_readWill, aOC_RX12⟩, List.forall_mem_cons.mpr ⟨⟨aOM_X12_readRow, aOK_X12_readRow, aOC_RX12⟩, List.forall_mem_cons.mpr ⟨⟨aOM_X12_fault, aOK_X12_fault, aOC_RX12⟩, List.forall_mem_cons.mpr ⟨⟨aOM_X12_text, aOK_X12_text, aOC_RX12⟩, List.forall_mem_cons.mpr ⟨⟨aOM_X12_isThing, aOK_X12_isThing, aOC_RX12⟩, List.forall_mem_cons.mpr ⟨⟨aOM_X12_isHeir, aOK_X12_isHeir, aOC_RX12⟩, List.forall_mem_cons.mpr ⟨⟨aOM_X12_stepsOf, aOK_X12_stepsOf, aOC_RX12⟩, List.forall_mem_cons.mpr ⟨⟨aOM_X12_doneOf, aOK_X12_doneOf, aOC_RX12⟩, List.forall_mem_cons.mpr ⟨⟨aOM_X12_isToDo, aOK_X12_isToDo, aOC_RX12⟩, List.forall_mem_cons.mpr ⟨⟨aOM_X12_skill, aOK_X12_skill, aOC_RX12⟩, List.forall_mem_cons.mpr ⟨⟨aOM_X12_tradeOf, aOK_X12_tradeOf, aOC_RX12⟩, List.forall_mem_cons.mpr ⟨⟨aOM_X12_daysOf, aOK_X12_daysOf, aOC_RX12⟩, List.forall_mem_cons.mpr ⟨⟨aOM_X12_thing, aOK_X12_thing, aOC_RX12⟩, List.forall_mem_cons.mpr ⟨⟨aOM_X12_step, aOK_X12_step, aOC_RX12⟩, List.forall_mem_cons.mpr ⟨⟨aOM_X12_heir, aOK_X12_heir, aOC_RX12⟩, List.forall_mem_cons.mpr ⟨⟨aOM_X12_tools, aOK_X12_tools, aOC_RX12⟩, fun _ h => absurd h List.not_mem_nil⟩⟩⟩⟩⟩⟩⟩⟩⟩⟩⟩⟩⟩⟩⟩⟩⟩⟩⟩⟩
theorem aG_11 : ∀ M ∈ aP_11, aMC M = true ∧ aCoC M = true ∧ aClC aProg (aCs M) = true := List.forall_mem_cons.mpr ⟨⟨aOM_X12_law, aOK_X12_law, aOC_RX12⟩, List.forall_mem_cons.mpr ⟨⟨aOM_X12_takesOf, aOK_X12_takesOf, aOC_RX12⟩, List.forall_mem_cons.mpr ⟨⟨aOM_X12_takes_, aOK_X12_takes_, aOC_RX12⟩, List.forall_mem_cons.mpr ⟨⟨aOM_X12_aloneFrom, aOK_X12_aloneFrom, aOC_RX12⟩, List.forall_mem_cons.mpr ⟨⟨aOM_X12_aloneOf, aOK_X12_aloneOf, aOC_RX12⟩, List.forall_mem_cons.mpr ⟨⟨aOM_X12_isInTime, aOK_X12_isInTime, aOC_RX12⟩, List.forall_mem_cons.mpr ⟨⟨aOM_X12_alone, aOK_X12_alone, aOC_RX12⟩, List.forall_mem_cons.mpr ⟨⟨aOM_X12_whoOf, aOK_X12_whoOf, aOC_RX12⟩, List.forall_mem_cons.mpr ⟨⟨aOM_X12_who, aOK_X12_who, aOC_RX12⟩, List.forall_mem_cons.mpr ⟨⟨aOM_X12_stuck, aOK_X12_stuck, aOC_RX12⟩, List.forall_mem_cons.mpr ⟨⟨aOM_X12_teamOf, aOK_X12_teamOf, aOC_RX12⟩, List.forall_mem_cons.mpr ⟨⟨aOM_X12_team, aOK_X12_team, aOC_RX12⟩, List.forall_mem_cons.mpr ⟨⟨aOM_X12_helpers, aOK_X12_helpers, aOC_RX12⟩, List.forall_mem_cons.mpr ⟨⟨aOM_X12_remember, aOK_X12_remember, aOC_RX12⟩, List.forall_mem_cons.mpr ⟨⟨aOM_X12_give, aOK_X12_give, aOC_RX12⟩, List.forall_mem_cons.mpr ⟨⟨aOM_X12_teach, aOK_X12_teach, aOC_RX12⟩, List.forall_mem_cons.mpr ⟨⟨aOM_X12_works, aOK_X12_works, aOC_RX12⟩, List.forall_mem_cons.mpr ⟨⟨aOM_X12_goDay, aOK_X12_goDay, aOC_RX12⟩, List.forall_mem_cons.mpr ⟨⟨aOM_X12_days, aOK_X12_days, aOC_RX12⟩, List.forall_mem_cons.mpr ⟨⟨aOM_X12_draw, aOK_X12_draw, aOC_RX12⟩, fun _ h => absurd h List.not_mem_nil⟩⟩⟩⟩⟩⟩⟩⟩⟩⟩⟩⟩⟩⟩⟩⟩⟩⟩⟩⟩
theorem aG_12 : ∀ M ∈ aP_12, aMC M = true ∧ aCoC M = true ∧ aClC aProg (aCs M) = true := List.forall_mem_cons.mpr ⟨⟨aOM_X12_generation, aOK_X12_generation, aOC_RX12⟩, List.forall_mem_cons.mpr ⟨⟨aOM_X12_undo, aOK_X12_undo, aOC_RX12⟩, List.forall_mem_cons.mpr ⟨⟨aOM_X12_askAsItIs, aOK_X12_askAsItIs, aOC_RX12⟩, List.forall_mem_cons.mpr ⟨⟨aOM_X12_isDealt, aOK_X12_isDealt, aOC_RX12⟩, List.forall_mem_cons.mpr ⟨⟨aOM_X12_canDo, aOK_X12_canDo, aOC_RX12⟩, List.forall_mem_cons.mpr ⟨⟨aOM_X12_layDeal, aOK_X12_layDeal, aOC_RX12⟩, List.forall_mem_cons.mpr ⟨⟨aOM_X12_goDeal, aOK_X12_goDeal, aOC_RX12⟩, List.forall_mem_cons.mpr ⟨⟨aOM_X12_deal, aOK_X12_deal, aOC_RX12⟩, List.forall_mem_cons.mpr ⟨⟨aOM_X12_bestOf, aOK_X12_bestOf, aOC_RX12⟩, List.forall_mem_cons.mpr ⟨⟨aOM_X12_toDo, aOK_X12_toDo, aOC_RX12⟩, List.forall_mem_cons.mpr ⟨⟨aOM_X12_best, aOK_X12_best, aOC_RX12⟩, List.forall_mem_cons.mpr ⟨⟨aOM_X12_learn, aOK_X12_learn, aOC_RX12⟩, List.forall_mem_cons.mpr ⟨⟨aOM_X12_goBegin, aOK_X12_goBegin, aOC_RX12⟩, List.forall_mem_cons.mpr ⟨⟨aOM_X12_begin, aOK_X12_begin, aOC_RX12⟩, List.forall_mem_cons.mpr ⟨⟨aOM_X12_spited, aOK_X12_spited, aOC_RX12⟩, List.forall_mem_cons.mpr ⟨⟨aOM_X12_spite, aOK_X12_spite, aOC_RX12⟩, List.forall_mem_cons.mpr ⟨⟨aOM_X12_worthBy, aOK_X12_worthBy, aOC_RX12⟩, List.forall_mem_cons.mpr ⟨⟨aOM_X12_wishOf, aOK_X12_wishOf, aOC_RX12⟩, List.forall_mem_cons.mpr ⟨⟨aOM_X12_wish, aOK_X12_wish, aOC_RX12⟩, List.forall_mem_cons.mpr ⟨⟨aOM_X12_gainOf, aOK_X12_gainOf, aOC_RX12⟩, fun _ h => absurd h List.not_mem_nil⟩⟩⟩⟩⟩⟩⟩⟩⟩⟩⟩⟩⟩⟩⟩⟩⟩⟩⟩⟩
theorem aG_13 : ∀ M ∈ aP_13, aMC M = true ∧ aCoC M = true ∧ aClC aProg (aCs M) = true := List.forall_mem_cons.mpr ⟨⟨aOM_X12_layRow, aOK_X12_layRow, aOC_RX12⟩, List.forall_mem_cons.mpr ⟨⟨aOM_X12_gains, aOK_X12_gains, aOC_RX12⟩, List.forall_mem_cons.mpr ⟨⟨aOM_X12_isRest, aOK_X12_isRest, aOC_RX12⟩, List.forall_mem_cons.mpr ⟨⟨aOM_X12_goRests, aOK_X12_goRests, aOC_RX12⟩, List.forall_mem_cons.mpr ⟨⟨aOM_X12_rests, aOK_X12_rests, aOC_RX12⟩, List.forall_mem_cons.mpr ⟨⟨aOM_X12_isRow, aOK_X12_isRow, aOC_RX12⟩, List.forall_mem_cons.mpr ⟨⟨aOM_X12_isLaw, aOK_X12_isLaw, aOC_RX12⟩, List.forall_mem_cons.mpr ⟨⟨aOM_X12_tens, aOK_X12_tens, aOC_RX12⟩, List.forall_mem_cons.mpr ⟨⟨aOM_X12_isFit, aOK_X12_isFit, aOC_RX12⟩, List.forall_mem_cons.mpr ⟨⟨aOM_X12_ends, aOK_X12_ends, aOC_RX12⟩, List.forall_mem_cons.mpr ⟨⟨aOM_X12_shortest, aOK_X12_shortest, aOC_RX12⟩, List.forall_mem_cons.mpr ⟨⟨aOM_X12_judgedOf, aOK_X12_judgedOf, aOC_RX12⟩, List.forall_mem_cons.mpr ⟨⟨aOM_X12_judged, aOK_X12_judged, aOC_RX12⟩, List.forall_mem_cons.mpr ⟨⟨aOM_X12_dearest, aOK_X12_dearest, aOC_RX12⟩, List.forall_mem_cons.mpr ⟨⟨aOM_X12_sign, aOK_X12_sign, aOC_RX12⟩, List.forall_mem_cons.mpr ⟨⟨aOM_X12_ended, aOK_X12_ended, aOC_RX12⟩, List.forall_mem_cons.mpr ⟨⟨aOM_X12_stood, aOK_X12_stood, aOC_RX12⟩, List.forall_mem_cons.mpr ⟨⟨aOM_X12_sold, aOK_X12_sold, aOC_RX12⟩, List.forall_mem_cons.mpr ⟨⟨aOM_X12_image, aOK_X12_image, aOC_RX12⟩, List.forall_mem_cons.mpr ⟨⟨aOM_X12_back, aOK_X12_back, aOC_RX12⟩, fun _ h => absurd h List.not_mem_nil⟩⟩⟩⟩⟩⟩⟩⟩⟩⟩⟩⟩⟩⟩⟩⟩⟩⟩⟩⟩
theorem aG_14 : ∀ M ∈ aP_14, aMC M = true ∧ aCoC M = true ∧ aClC aProg (aCs M) = true := List.forall_mem_cons.mpr ⟨⟨aOM_X12_thatAre, aOK_X12_thatAre, aOC_RX12⟩, List.forall_mem_cons.mpr ⟨⟨aOM_X12_count, aOK_X12_count, aOC_RX12⟩, List.forall_mem_cons.mpr ⟨⟨aOM_J6_bitCount_0f7a4, aOK_J6_bitCount_0f7a4, aOC_RJ6⟩, List.forall_mem_cons.mpr ⟨⟨aOM_J7_fill_53178, aOK_J7_fill_53178, aOC_RJ7⟩, fun _ h => absurd h List.not_mem_nil⟩⟩⟩⟩
set_option maxRecDepth 100000 in
theorem aG : ∀ M ∈ aProg, aMC M = true ∧ aCoC M = true ∧ aClC aProg (aCs M) = true := by
  rw [aProg_eq]
  exact List.forall_mem_append.mpr ⟨aG_0, List.forall_mem_append.mpr ⟨aG_1, List.forall_mem_append.mpr ⟨aG_2, List.forall_mem_append.mpr ⟨aG_3, List.forall_mem_append.mpr ⟨aG_4, List.forall_mem_append.mpr ⟨aG_5, List.forall_mem_append.mpr ⟨aG_6, List.forall_mem_append.mpr ⟨aG_7, List.forall_mem_append.mpr ⟨aG_8, List.forall_mem_append.mpr ⟨aG_9, List.forall_mem_append.mpr ⟨aG_10, List.forall_mem_append.mpr ⟨aG_11, List.forall_mem_append.mpr ⟨aG_12, List.forall_mem_append.mpr ⟨aG_13, aG_14⟩⟩⟩⟩⟩⟩⟩⟩⟩⟩⟩⟩⟩⟩
end
section
/-! THE ABSTRACT MACHINE: a frame's pc, locals, operand stack, and a store of numbered cells; a small interpreter of the instructions that the system uses -/
abbrev aSt : Type := Nat → Nat → Value
abbrev aC : Type := Nat × List Value × List Value × aSt
/-- go on there; or return; or call (method, arguments) and go on there -/
abbrev aR : Type := aC ⊕ ((Option Value × aSt) ⊕ (Nat × List Value × aC))
/-- arrays outside of the store: length and contents -/
abbrev aXt : Type := Nat → Option (Nat × (Nat → Int32))
def aUp (σ : aSt) (a k : Nat) (v : Value) : aSt := fun b j => if b = a then (if j = k then v else σ b j) else σ b j
def aI (v : Value) : Int32 := match v with
  | .int x => x
  | _ => 0
def aJ (v : Value) : Int64 := match v with
  | .long x => x
  | _ => 0
def aV (ad : Nat → Nat) (v : Value) : Value := match v with
  | .ref a => .ref (ad a)
  | v => v
def aGo (pc : Nat) (lv st : List Value) (σ : aSt) : Option aR := some (.inl (pc, lv, st, σ))
def aJp (pc : Nat) (off : Int) (lv st : List Value) (σ : aSt) : Option aR := match (pc : Int) + off with
  | .ofNat t => aGo t lv st σ
  | .negSucc _ => none
def aNoL (lv : List Value) : Nat → Bool
  | 0 => true
  | i + 1 => match lv[i]? with
    | some v => v.category == 1
    | none => true
def aPut1 (pc : Nat) (lv : List Value) (i : Nat) (v : Value) (st : List Value) (σ : aSt) : Option aR := match Nat.blt i lv.length && aNoL lv i with
  | true => aGo pc (lv.set i v) st σ
  | false => none
def aPut2 (pc : Nat) (lv : List Value) (i : Nat) (v : Value) (st : List Value) (σ : aSt) : Option aR := match Nat.blt (i + 1) lv.length && aNoL lv i with
  | true => aGo pc ((lv.set i v).set (i + 1) .null) st σ
  | false => none
def aLdI (pc : Nat) (lv : List Value) (i : Nat) (st : List Value) (σ : aSt) : Option aR := match lv[i]? with
  | some (.int x) => aGo pc lv (.int x :: st) σ
  | _ => none
def aLdL (pc : Nat) (lv : List Value) (i : Nat) (st : List Value) (σ : aSt) : Option aR := match lv[i]? with
  | some (.long x) => aGo pc lv (.long x :: st) σ
  | _ => none
def aLdR (pc : Nat) (lv : List Value) (i : Nat) (st : List Value) (σ : aSt) : Option aR := match lv[i]? with
  | some (.ref x) => aGo pc lv (.ref x :: st) σ
  | _ => none
def aStI (pc : Nat) (lv : List Value) (i : Nat) (st : List Value) (σ : aSt) : Option aR := match st with
  | .int x :: r => aPut1 pc lv i (.int x) r σ
  | _ => none
def aStR (pc : Nat) (lv : List Value) (i : Nat) (st : List Value) (σ : aSt) : Option aR := match st with
  | .ref x :: r => aPut1 pc lv i (.ref x) r σ
  | _ => none
def aStL (pc : Nat) (lv : List Value) (i : Nat) (st : List Value) (σ : aSt) : Option aR := match st with
  | .long x :: r => aPut2 pc lv i (.long x) r σ
  | _ => none
/-- two ints off the stack -/
def aII (f : Int32 → Int32 → Value) (pc : Nat) (lv st : List Value) (σ : aSt) : Option aR := match st with
  | .int y :: .int x :: r => aGo (pc + 1) lv (f x y :: r) σ
  | _ => none
/-- two longs off the stack -/
def aLL (f : Int64 → Int64 → Value) (pc : Nat) (lv st : List Value) (σ : aSt) : Option aR := match st with
  | .long y :: .long x :: r => aGo (pc + 1) lv (f x y :: r) σ
  | _ => none
/-- an int over a long -/
def aLI (f : Int64 → Int32 → Value) (pc : Nat) (lv st : List Value) (σ : aSt) : Option aR := match st with
  | .int y :: .long x :: r => aGo (pc + 1) lv (f x y :: r) σ
  | _ => none
def aI1 (f : Int32 → Value) (pc : Nat) (lv st : List Value) (σ : aSt) : Option aR := match st with
  | .int x :: r => aGo (pc + 1) lv (f x :: r) σ
  | _ => none
def aL1 (f : Int64 → Value) (pc : Nat) (lv st : List Value) (σ : aSt) : Option aR := match st with
  | .long x :: r => aGo (pc + 1) lv (f x :: r) σ
  | _ => none
def aIID (f : Int32 → Int32 → Value) (pc : Nat) (lv st : List Value) (σ : aSt) : Option aR := match st with
  | .int y :: .int x :: r => if y = 0 then none else aGo (pc + 1) lv (f x y :: r) σ
  | _ => none
def aLLD (f : Int64 → Int64 → Value) (pc : Nat) (lv st : List Value) (σ : aSt) : Option aR := match st with
  | .long y :: .long x :: r => if y = 0 then none else aGo (pc + 1) lv (f x y :: r) σ
  | _ => none
def aIf (P : Int32 → Prop) (dec : ∀ x, Decidable (P x)) (pc : Nat) (off : Int) (lv st : List Value) (σ : aSt) : Option aR := match st with
  | .int x :: r => match (pc : Int) + off with
    | .ofNat t => @ite _ (P x) (dec x) (aGo t lv r σ) (aGo (pc + 3) lv r σ)
    | .negSucc _ => none
  | _ => none
def aIc (P : Int32 → Int32 → Prop) (dec : ∀ x y, Decidable (P x y)) (pc : Nat) (off : Int) (lv st : List Value) (σ : aSt) : Option aR := match st with
  | .int y :: .int x :: r => match (pc : Int) + off with
    | .ofNat t => @ite _ (P x y) (dec x y) (aGo t lv r σ) (aGo (pc + 3) lv r σ)
    | .negSucc _ => none
  | _ => none
/-- an array's int: in the store, or outside -/
def aIld (X : aXt) (S : List aSh) (σ : aSt) (a : Nat) (i : Int32) : Option Value := match S[a]? with
  | some (.inr (0, n)) => if ¬ (i < 0 ∨ n ≤ i.toNatClampNeg) then some (.int (aI (σ a i.toNatClampNeg))) else none
  | some _ => none
  | none => match X a with
    | some (n, f) => if ¬ (i < 0 ∨ n ≤ i.toNatClampNeg) then some (.int (f i.toNatClampNeg)) else none
    | none => none
def aLen (X : aXt) (S : List aSh) (a : Nat) : Option Value := match S[a]? with
  | some (.inr (_, n)) => some (.int (Int32.ofNat n))
  | some _ => none
  | none => match X a with
    | some (n, _) => some (.int (Int32.ofNat n))
    | none => none
def aCat : List Value → Nat
  | [] => 0
  | v :: r => v.category + aCat r
/-- n values off the stack, in the order in which they were pushed -/
def aTk : Nat → List Value → List Value → Option (List Value × List Value)
  | 0, acc, st => some (acc, st)
  | _ + 1, _, [] => none
  | n + 1, acc, v :: st => aTk n (v :: acc) st
def aOk (kind : Nat) (v : Value) : Bool := match kind, v with
  | 0, .int _ => true
  | 1, .int x => x == 0 || x == 1
  | 2, .long _ => true
  | 3, .ref _ => true
  | _, _ => false
def aGd (b : Bool) (o : Option aR) : Option aR := match b with
  | true => o
  | false => none
/-- the JDK's members that are one step -/
def aPrim (S : List aSh) (K : Nat) (pc : Nat) (lv st : List Value) (σ : aSt) : Option aR := match K with
  | 0 => match st with
    | .int y :: .int x :: r => aGd (Nat.ble (aCat r) 8) (aGo (pc + 3) lv (.int (if x < y then y else x) :: r) σ)
    | _ => none
  | 1 => match st with
    | .int y :: .int x :: r => aGd (Nat.ble (aCat r) 8) (aGo (pc + 3) lv (.int (if y < x then y else x) :: r) σ)
    | _ => none
  | 2 => match st with
    | .long y :: .long x :: r => aGd (Nat.ble (aCat r) 8) (aGo (pc + 3) lv (.long (if y < x then x else y) :: r) σ)
    | _ => none
  | 3 => match st with
    | .long y :: .long x :: r => aGd (Nat.ble (aCat r) 8) (aGo (pc + 3) lv (.long (if y < x then y else x) :: r) σ)
    | _ => none
  | 4 => match st with
    | .int n :: .int dp :: .ref a1 :: .int sp :: .ref a0 :: r => match S[a0]?, S[a1]? with
      | some (.inr (0, n0)), some (.inr (0, n1)) => if ((¬ sp < 0) ∧ (¬ dp < 0) ∧ (¬ n < 0)) ∧ (sp.toNatClampNeg + n.toNatClampNeg ≤ n0 ∧ dp.toNatClampNeg + n.toNatClampNeg ≤ n1) then aGd (Nat.ble (aCat r) 8) (aGo (pc + 3) lv r (fun b j => if b = a1 then (if dp.toNatClampNeg ≤ j ∧ j < dp.toNatClampNeg + n.toNatClampNeg then σ a0 (sp.toNatClampNeg + (j - dp.toNatClampNeg)) else σ b j) else σ b j)) else none
      | _, _ => none
    | _ => none
  | _ => none
def aIns (X : aXt) (S : List aSh) (M : aM) (pc : Nat) (ins : Instr) (lv st : List Value) (σ : aSt) : Option aR := match ins with
  | .iconst n => aGo (pc + 1) lv (.int (Int32.ofInt n) :: st) σ
  | .bipush n => aGo (pc + 2) lv (.int (Int8.ofInt n).toInt32 :: st) σ
  | .sipush n => aGo (pc + 3) lv (.int (Int16.ofInt n).toInt32 :: st) σ
  | .lconst n => aGo (pc + 1) lv (.long (Int64.ofNat (n : Nat)) :: st) σ
  | .ldc i => match aFd (aCs M).2.2.2 i with
    | some (.int v, _) => aGo (pc + 2) lv (.int v :: st) σ
    | some (.ref v, _) => aGd (Nat.ble 2000 v) (aGo (pc + 2) lv (.ref v :: st) σ)
    | _ => none
  | .ldc_w i => match aFd (aCs M).2.2.2 i with
    | some (.int v, _) => aGo (pc + 3) lv (.int v :: st) σ
    | some (.ref v, _) => aGd (Nat.ble 2000 v) (aGo (pc + 3) lv (.ref v :: st) σ)
    | _ => none
  | .ldc2_w i => match aFd (aCs M).2.2.2 i with
    | some (.long v, _) => aGo (pc + 3) lv (.long v :: st) σ
    | _ => none
  | .getstatic i => match aFd (aCs M).2.2.2 i with
    | some (.ref v, _) => aGd (Nat.blt v 2000) (aGo (pc + 3) lv (.ref v :: st) σ)
    | _ => none
  | .iload_n k => aLdI (pc + 1) lv k st σ
  | .iload k => aLdI (pc + 2) lv k st σ
  | .lload_n k => aLdL (pc + 1) lv k st σ
  | .lload k => aLdL (pc + 2) lv k st σ
  | .aload_n k => aLdR (pc + 1) lv k st σ
  | .aload k => aLdR (pc + 2) lv k st σ
  | .istore_n k => aStI (pc + 1) lv k st σ
  | .istore k => aStI (pc + 2) lv k st σ
  | .lstore_n k => aStL (pc + 1) lv k st σ
  | .lstore k => aStL (pc + 2) lv k st σ
  | .astore_n k => aStR (pc + 1) lv k st σ
  | .astore k => aStR (pc + 2) lv k st σ
  | .iinc i n => match lv[i]? with
    | some (.int x) => aPut1 (pc + 3) lv i (.int (x + Int32.ofInt n)) st σ
    | _ => none
  | .iadd => aII (fun x y => .int (x + y)) pc lv st σ
  | .isub => aII (fun x y => .int (x - y)) pc lv st σ
  | .imul => aII (fun x y => .int (x * y)) pc lv st σ
  | .iand => aII (fun x y => .int (x &&& y)) pc lv st σ
  | .ior => aII (fun x y => .int (x ||| y)) pc lv st σ
  | .ixor => aII (fun x y => .int (x ^^^ y)) pc lv st σ
  | .ishl => aII (fun x y => .int (x <<< (y &&& 31))) pc lv st σ
  | .ishr => aII (fun x y => .int (x >>> (y &&& 31))) pc lv st σ
  | .iushr => aII (fun x y => .int (x.toUInt32 >>> (y.toUInt32 &&& Int32.toUInt32 31)).toInt32) pc lv st σ
  | .idiv => aIID (fun x y => .int (x / y)) pc lv st σ
  | .irem => aIID (fun x y => .int (x - x / y * y)) pc lv st σ
  | .ladd => aLL (fun x y => .long (x + y)) pc lv st σ
  | .lsub => aLL (fun x y => .long (x - y)) pc lv st σ
  | .lmul => aLL (fun x y => .long (x * y)) pc lv st σ
  | .land => aLL (fun x y => .long (x &&& y)) pc lv st σ
  | .lor => aLL (fun x y => .long (x ||| y)) pc lv st σ
  | .ldiv => aLLD (fun x y => .long (x / y)) pc lv st σ
  | .lrem => aLLD (fun x y => .long (x - x / y * y)) pc lv st σ
  | .lshl => aLI (fun x y => .long (x <<< (y.toInt64 &&& 63))) pc lv st σ
  | .lushr => aLI (fun x y => .long (x.toUInt64 >>> (y.toInt64.toUInt64 &&& Int64.toUInt64 63)).toInt64) pc lv st σ
  | .lcmp => aLL (fun x y => .int (lg_cmp x y)) pc lv st σ
  | .i2l => aI1 (fun x => .long x.toInt64) pc lv st σ
  | .i2b => aI1 (fun x => .int x.toInt8.toInt32) pc lv st σ
  | .l2i => aL1 (fun x => .int x.toInt32) pc lv st σ
  | .pop => match st with
    | v :: r => match v.category == 1 with
      | true => aGo (pc + 1) lv r σ
      | false => none
    | _ => none
  | .dup => match st with
    | v :: r => match v.category == 1 with
      | true => aGo (pc + 1) lv (v :: v :: r) σ
      | false => none
    | _ => none
  | .dup2 => match st with
    | v :: u :: r => match v.category == 1 && u.category == 1 with
      | true => aGo (pc + 1) lv (v :: u :: v :: u :: r) σ
      | false => none
    | _ => none
  | .ifCond c off => match c with
    | .eq => aIf (fun x => x = 0) (fun _ => inferInstance) pc off lv st σ
    | .ne => aIf (fun x => ¬ x = 0) (fun _ => inferInstance) pc off lv st σ
    | .lt => aIf (fun x => x < 0) (fun _ => inferInstance) pc off lv st σ
    | .ge => aIf (fun x => 0 ≤ x) (fun _ => inferInstance) pc off lv st σ
    | .gt => aIf (fun x => 0 < x) (fun _ => inferInstance) pc off lv st σ
    | .le => aIf (fun x => x ≤ 0) (fun _ => inferInstance) pc off lv st σ
  | .if_icmp c off => match c with
    | .eq => aIc (fun x y => x = y) (fun _ _ => inferInstance) pc off lv st σ
    | .ne => aIc (fun x y => ¬ x = y) (fun _ _ => inferInstance) pc off lv st σ
    | .lt => aIc (fun x y => x < y) (fun _ _ => inferInstance) pc off lv st σ
    | .ge => aIc (fun x y => y ≤ x) (fun _ _ => inferInstance) pc off lv st σ
    | .gt => aIc (fun x y => y < x) (fun _ _ => inferInstance) pc off lv st σ
    | .le => aIc (fun x y => x ≤ y) (fun _ _ => inferInstance) pc off lv st σ
  | .goto off => aJp pc off lv st σ
  | .tableswitch dflt lo hi offs => match st with
    | .int x :: r => if x.toInt < lo ∨ hi < x.toInt then aJp pc dflt lv r σ else match offs[(x.toInt - lo).toNat]? with
      | some off => aJp pc off lv r σ
      | none => none
    | _ => none
  | .lookupswitch dflt ps => match st with
    | .int x :: r => if (ps.toList.zip (ps.toList.drop 1)).all (fun (a, next) => a.1 < next.1) = true then aJp pc (Op.lookupswitch.offset ps.toList dflt x.toInt) lv r σ else none
    | _ => none
  | .iaload => match st with
    | .int i :: .ref a :: r => match aIld X S σ a i with
      | some v => aGo (pc + 1) lv (v :: r) σ
      | none => none
    | _ => none
  | .baload => match st with
    | .int i :: .ref a :: r => match S[a]? with
      | some (.inr (t, n)) => if (t = 1 ∨ t = 2) ∧ ¬ (i < 0 ∨ n ≤ i.toNatClampNeg) then aGo (pc + 1) lv (.int (aI (σ a i.toNatClampNeg)) :: r) σ else none
      | _ => none
    | _ => none
  | .laload => match st with
    | .int i :: .ref a :: r => match S[a]? with
      | some (.inr (t, n)) => if t = 3 ∧ ¬ (i < 0 ∨ n ≤ i.toNatClampNeg) then aGo (pc + 1) lv (.long (aJ (σ a i.toNatClampNeg)) :: r) σ else none
      | _ => none
    | _ => none
  | .aaload => match st with
    | .int i :: .ref a :: r => match S[a]? with
      | some (.inr (t, n)) => if t = 4 ∧ ¬ (i < 0 ∨ n ≤ i.toNatClampNeg) then match σ a i.toNatClampNeg with
        | .ref b => aGo (pc + 1) lv (.ref b :: r) σ
        | _ => none
        else none
      | _ => none
    | _ => none
  | .iastore => match st with
    | .int x :: .int i :: .ref a :: r => match S[a]? with
      | some (.inr (t, n)) => if t = 0 ∧ ¬ (i < 0 ∨ n ≤ i.toNatClampNeg) then aGo (pc + 1) lv r (aUp σ a i.toNatClampNeg (.int x)) else none
      | _ => none
    | _ => none
  | .bastore => match st with
    | .int x :: .int i :: .ref a :: r => match S[a]? with
      | some (.inr (t, n)) => if (t = 1 ∨ t = 2) ∧ ¬ (i < 0 ∨ n ≤ i.toNatClampNeg) then aGo (pc + 1) lv r (aUp σ a i.toNatClampNeg (.int (vp_nar (if t = 1 then .byte else .boolean) x))) else none
      | _ => none
    | _ => none
  | .lastore => match st with
    | .long x :: .int i :: .ref a :: r => match S[a]? with
      | some (.inr (t, n)) => if t = 3 ∧ ¬ (i < 0 ∨ n ≤ i.toNatClampNeg) then aGo (pc + 1) lv r (aUp σ a i.toNatClampNeg (.long x)) else none
      | _ => none
    | _ => none
  | .arraylength => match st with
    | .ref a :: r => match aLen X S a with
      | some v => aGo (pc + 1) lv (v :: r) σ
      | none => none
    | _ => none
  | .getfield i => match st with
    | .ref a :: r => match aFd (aCs M).2.1 i with
      | some (ci, k, _, _) => match S[a]? with
        | some (.inl cj) => match Nat.beq ci cj with
          | true => aGo (pc + 3) lv (σ a k :: r) σ
          | false => none
        | _ => none
      | none => none
    | _ => none
  | .putfield i => match st with
    | v :: .ref a :: r => match aFd (aCs M).2.1 i with
      | some (ci, k, kd, _) => match S[a]? with
        | some (.inl cj) => match Nat.beq ci cj && aOk kd v with
          | true => aGo (pc + 3) lv r (aUp σ a k v)
          | false => none
        | _ => none
      | none => none
    | _ => none
  | .invokestatic i => match aFd (aCs M).2.2.1 i with
    | some (kd, K, n, _) => match Nat.beq kd 0 with
      | true => aPrim S K pc lv st σ
      | false => match aTk n [] st with
        | some (as, r) => match Nat.beq kd 1 && Nat.ble (aCat r) 8 with
          | true => some (.inr (.inr (K, as, (pc + 3, lv, r, σ))))
          | false => none
        | none => none
    | none => none
  | .invokevirtual i => match aFd (aCs M).2.2.1 i with
    | some (kd, K, n, _) => match aTk n [] st with
      | some (as, .ref a :: r) => match S[a]? with
        | some (.inl ci) => match Nat.beq kd (ci + 2) && Nat.ble (aCat r) 8 with
          | true => some (.inr (.inr (K, .ref a :: as, (pc + 3, lv, r, σ))))
          | false => none
        | _ => none
      | _ => none
    | none => none
  | .ireturn => match st with
    | [.int x] => match aRt M with
      | some .int => some (.inr (.inl (some (.int x), σ)))
      | some .boolean => if x = 0 ∨ x = 1 then some (.inr (.inl (some (.int x), σ))) else none
      | _ => none
    | _ => none
  | .lreturn => match st with
    | [.long x] => match aRt M with
      | some .long => some (.inr (.inl (some (.long x), σ)))
      | _ => none
    | _ => none
  | .return_ => match st, aRt M with
    | [], none => some (.inr (.inl (none, σ)))
    | _, _ => none
  | _ => none
def aStep (X : aXt) (S : List aSh) (M : aM) (pc : Nat) (lv st : List Value) (σ : aSt) : Option aR := match aFd (aCo M) pc with
  | some q => aIns X S M pc q.1 lv st σ
  | none => none
/-- a method's locals at its entry -/
def aArg : List Value → List Value
  | [] => []
  | v :: r => match v.category == 2 with
    | true => v :: .null :: aArg r
    | false => v :: aArg r
def aEnt (M : aM) (as : List Value) : List Value := aArg as ++ List.replicate (aML M - (aArg as).length) .null
def aExec (X : aXt) (S : List aSh) (P : List aM) : Nat → Nat → aM → Nat → List Value → List Value → aSt → Option (Option Value × aSt)
  | 0, _, _, _, _, _, _ => none
  | f + 1, d, M, pc, lv, st, σ => match aStep X S M pc lv st σ with
    | none => none
    | some (.inl (pc', lv', st', σ')) => aExec X S P f d M pc' lv' st' σ'
    | some (.inr (.inl r)) => some r
    | some (.inr (.inr (K, as, (pc', lv', st', σ')))) => match d with
      | 0 => none
      | d' + 1 => match P[K]? with
        | none => none
        | some M' => match Nat.ble (aArg as).length (aML M') with
          | false => none
          | true => match aExec X S P f d' M' 0 (aEnt M' as) [] σ' with
            | none => none
            | some (v, σ2) => aExec X S P f (d' + 1) M pc' lv' (v.toList ++ st') σ2
end
section
/-! THE WORLD of the abstract machine in the heap; locals; inversions of the machine's steps -/
def aNf (ci : Nat) : Nat := match vwCl[ci]? with
  | some q => q.2.2
  | none => 0
def aRf (ad : Nat → Nat) (v : Value) : Option Nat := match v with
  | .ref a => some (ad a)
  | _ => none
def aE (ad : Nat → Nat) (c : ClassId) (f : Nat → Value) (sh : aSh) : va_E := match sh with
  | .inl ci => .inr (ci, (List.range (aNf ci)).map (fun k => aV ad (f k)))
  | .inr (t, n) => .inl (c, n, match t with
    | 3 => .inr (.inl (fun j => aJ (f j)))
    | 4 => .inr (.inr (.inr (.inr (fun j => aRf ad (f j)))))
    | _ => .inl (fun j => aI (f j)))
def aW (ad : Nat → Nat) (cA : Nat → ClassId) (S : List aSh) (σ : aSt) : va_W := S.mapIdx (fun i sh => (ad i, aE ad (cA i) (σ i) sh))
theorem aW_at {ad : Nat → Nat} {cA : Nat → ClassId} {S : List aSh} {σ : aSt} {a : Nat} {sh : aSh} (h : S[a]? = some sh) : (aW ad cA S σ)[a]? = some (ad a, aE ad (cA a) (σ a) sh) := by
  simp [aW, List.getElem?_mapIdx, h]
theorem aW_of {ad : Nat → Nat} {cA : Nat → ClassId} {S : List aSh} {σ : aSt} {k : Nat} {q : Nat × va_E} (h : (aW ad cA S σ)[k]? = some q) : k < S.length ∧ q.1 = ad k := by
  simp only [aW, List.getElem?_mapIdx] at h
  cases e : S[k]? with
  | none => rw [e] at h; cases h
  | some sh =>
    rw [e] at h
    cases h
    exact ⟨(List.getElem?_eq_some_iff.mp e).1, rfl⟩
theorem aUp_self (σ : aSt) (a k : Nat) (v : Value) : (aUp σ a k v) a = fun j => if j = k then v else σ a j := by
  funext j
  simp [aUp]
theorem aUp_ne {σ : aSt} {a b k : Nat} {v : Value} (h : b ≠ a) : (aUp σ a k v) b = σ b := by
  funext j
  simp [aUp, h]
theorem aW_up {ad : Nat → Nat} {cA : Nat → ClassId} {S : List aSh} {σ : aSt} {a k : Nat} {v : Value} {sh : aSh} {e : va_E} (h : S[a]? = some sh) (he : aE ad (cA a) (fun j => if j = k then v else σ a j) sh = e) : (aW ad cA S σ).set a (ad a, e) = aW ad cA S (aUp σ a k v) := by
  apply List.ext_getElem?
  intro i
  rw [List.getElem?_set]
  by_cases hi : a = i
  · subst hi
    have hl : a < (aW ad cA S σ).length := by
      rw [aW, List.length_mapIdx]
      exact (List.getElem?_eq_some_iff.mp h).1
    rw [if_pos rfl, if_pos hl, aW_at h, aUp_self, he]
  · rw [if_neg hi]
    simp only [aW, List.getElem?_mapIdx]
    rw [aUp_ne (fun q => hi q.symm)]
/-- the addresses of the world, and all that come -/
def aA (ad : Nat → Nat) (S : List aSh) (sz : Nat) : Nat → Prop := fun q => (∃ i, i < S.length ∧ ad i = q) ∨ sz ≤ q
def aInj (ad : Nat → Nat) (S : List aSh) : Prop := ∀ i j, i < S.length → j < S.length → ad i = ad j → i = j
theorem aW_D {ad : Nat → Nat} {cA : Nat → ClassId} {S : List aSh} {σ : aSt} {sz : Nat} (h : aInj ad S) : va_D (aA ad S sz) (aW ad cA S σ) := by
  refine ⟨fun i j p q hp hq e => ?_, fun k q hk => ?_⟩
  · have h1 := aW_of hp
    have h2 := aW_of hq
    exact h i j h1.1 h2.1 (by rw [← h1.2, ← h2.2]; exact e)
  · have h1 := aW_of hk
    exact Or.inl ⟨k, h1.1, h1.2.symm⟩
def aFt (t : Nat) : FieldType := match t with
  | 0 => .int
  | 1 => .byte
  | 2 => .boolean
  | 3 => .long
  | _ => .array .int
theorem aFd_mem {α : Type} {l : List (Nat × α)} {i : Nat} {r : α} (h : aFd l i = some r) : (i, r) ∈ l := by
  induction l with
  | nil => cases h
  | cons q t ih =>
    unfold aFd at h
    split at h
    · rename_i hb
      have := Nat.eq_of_beq_eq_true hb
      cases h
      subst this
      exact List.mem_cons_self
    · exact List.mem_cons_of_mem _ (ih h)
/-- the String constants: class, pool index, text, the number that stands for it -/
def aStrK : List (String × Nat × String × Nat) := [("HalfDoneModel", 26, "y", 2000), ("HalfDoneModel", 32, "vksdnpci", 2001), ("HalfDoneModel", 259, "vrd", 2002), ("HalfDoneModel", 254, "abcde", 2003), ("HalfDoneModel", 277, "abcdek", 2004)]
def aStrOK (c : aCl) : Bool := c.2.2.2.all (fun q => match q.2.1 with
  | .ref a => match Nat.ble 2000 a with
    | true => aStrK.any (fun k => decide (k.1 = c.1) && (Nat.beq k.2.1 q.1 && Nat.beq k.2.2.2 a))
    | false => true
  | _ => true)
def aStrS (ad : Nat → Nat) (U : State) : Prop := ∀ q ∈ aStrK, vk_R q.1 q.2.1 q.2.2.1 (ad q.2.2.2) U
theorem aStr_in {c : aCl} {i a w : Nat} {ad : Nat → Nat} {U : State} (ho : aStrOK c = true) (h : aFd c.2.2.2 i = some (.ref a, w)) (ha : Nat.ble 2000 a = true) (hR : aStrS ad U) : ∃ tx, vk_R c.1 i tx (ad a) U := by
  have h1 := List.all_eq_true.mp ho _ (aFd_mem h)
  simp only [ha] at h1
  obtain ⟨k, hk, hq⟩ := List.any_eq_true.mp h1
  simp only [Bool.and_eq_true, decide_eq_true_eq] at hq
  obtain ⟨e1, e2, e3⟩ := hq
  have e2 := Nat.eq_of_beq_eq_true e2
  have e3 := Nat.eq_of_beq_eq_true e3
  have := hR k hk
  rw [e1, e2, e3] at this
  exact ⟨_, this⟩
/-- what a start knows of its surroundings -/
def aCx (X : aXt) (S : List aSh) (ad : Nat → Nat) (cA : Nat → ClassId) (D : va_G) (tys : List (ClassId × FieldType)) (sz : Nat) (U : State) : Prop :=
  U.heap.size = sz ∧ va_K D vwCl tys U ∧ (∀ i t n : Nat, S[i]? = some (.inr (t, n)) → ∃ t0 : Nat, tys[t0]? = some (cA i, aFt t)) ∧ aInj ad S ∧ (∀ (a n : Nat) (f : Nat → Int32), S[a]? = none → X a = some (n, f) → va_T .int (ad a) n (fun j => .int (f j)) (aA ad S sz) U U.heap) ∧ (∀ q ∈ aStat, va_Z q.2.1 q.2.2.1 q.2.2.2 (.ref (ad q.1)) (aA ad S sz) U U.heap) ∧ (∀ w ∈ aNest, va_Nw w U) ∧ aStrS ad U
def aFx (M : aM) (p : Program) (s : State) (m : MethodId) (c : Code) (args : Array Value) : Prop :=
  p.tables.exec = Jvm.exec ∧ c.code = aBy M ∧ c.maxLocals = aML M ∧ s.vm.findClass (aOwn M) = some m.cls ∧ ∀ w ∈ aTB, w.before args s = true
def aWo (S : List aSh) (ad : Nat → Nat) (cA : Nat → ClassId) (D : va_G) (s : State) (σ : aSt) (H : Heap) (locs : List Loc) : Prop :=
  va_P D vwCl (aW ad cA S σ) H ∧ va_S (aA ad S s.heap.size) s.heap H locs
def aLs (ad : Nat → Nat) (ls : Array Slot) (n : Nat) (lv : List Value) : Prop :=
  ls.size = n ∧ lv_wf ls ∧ lv.length = n ∧ ∀ (i : Nat) (v : Value), lv[i]? = some v → v ≠ .null → ls[i]? = some (.val (aV ad v))
/-- the locals as the kit lists them -/
def aLl (ad : Nat → Nat) (lv : List Value) : List (Nat × Value) := lv.zipIdx.filterMap (fun q => if q.1 = .null then none else some (q.2, aV ad q.1))
theorem aLl_mem {ad : Nat → Nat} {lv : List Value} {i : Nat} {w : Value} : (i, w) ∈ aLl ad lv ↔ ∃ v, lv[i]? = some v ∧ v ≠ .null ∧ w = aV ad v := by
  simp only [aLl, List.mem_filterMap, List.mem_zipIdx_iff_getElem?]
  constructor
  · rintro ⟨⟨v, j⟩, hq, h⟩
    by_cases e : v = .null
    · simp [e] at h
    · simp [e] at h
      obtain ⟨rfl, rfl⟩ := h
      exact ⟨v, hq, e, rfl⟩
  · rintro ⟨v, h1, h2, rfl⟩
    exact ⟨(v, i), h1, by simp [h2]⟩
theorem aLs_has {ad : Nat → Nat} {ls : Array Slot} {n : Nat} {lv : List Value} (h : aLs ad ls n lv) : lv_has ls n (aLl ad lv) := by
  refine ⟨h.1, h.2.1, fun q hq => ?_⟩
  obtain ⟨i, w⟩ := q
  obtain ⟨v, h1, h2, rfl⟩ := aLl_mem.mp hq
  exact h.2.2.2 i v h1 h2
theorem aV_cat (ad : Nat → Nat) (v : Value) : (aV ad v).category = v.category := by cases v <;> rfl
theorem aLs_set1 {ad : Nat → Nat} {ls : Array Slot} {n i : Nat} {lv : List Value} {v : Value} (hl : lv.length = n) (hn : aNoL lv i = true)
    (h : lv_has ls n ((i, aV ad v) :: (aLl ad lv).filter (fun q => !(q.1 == i) && !(q.1 + 1 == i && q.2.category == 2)))) : aLs ad ls n (lv.set i v) := by
  refine ⟨h.1, h.2.1, by rw [List.length_set]; exact hl, fun j u hj hu => ?_⟩
  rw [List.getElem?_set] at hj
  by_cases e : i = j
  · subst e
    rw [if_pos rfl] at hj
    split at hj
    · cases hj
      exact h.2.2 (i, aV ad v) List.mem_cons_self
    · cases hj
  · rw [if_neg e] at hj
    refine h.2.2 (j, aV ad u) (List.mem_cons_of_mem _ (List.mem_filter.mpr ⟨aLl_mem.mpr ⟨u, hj, hu, rfl⟩, ?_⟩))
    have e1 : (j == i) = false := by simp; exact fun q => e q.symm
    by_cases e2 : j + 1 = i
    · subst e2
      simp only [aNoL, hj] at hn
      have : u.category = 1 := by simpa using hn
      simp [aV_cat, this]
    · simp [e1, e2]
theorem aLs_set2 {ad : Nat → Nat} {ls : Array Slot} {n i : Nat} {lv : List Value} {v : Value} (hl : lv.length = n) (hn : aNoL lv i = true)
    (h : lv_has ls n ((i, aV ad v) :: (aLl ad lv).filter (fun q => !(q.1 == i) && (!(q.1 == i + 1) && !(q.1 + 1 == i && q.2.category == 2))))) : aLs ad ls n ((lv.set i v).set (i + 1) .null) := by
  refine ⟨h.1, h.2.1, by rw [List.length_set, List.length_set]; exact hl, fun j u hj hu => ?_⟩
  rw [List.getElem?_set] at hj
  by_cases e3 : i + 1 = j
  · subst e3
    rw [if_pos rfl] at hj
    split at hj
    · cases hj; exact absurd rfl hu
    · cases hj
  rw [if_neg e3, List.getElem?_set] at hj
  by_cases e : i = j
  · subst e
    rw [if_pos rfl] at hj
    split at hj
    · cases hj
      exact h.2.2 (i, aV ad v) List.mem_cons_self
    · cases hj
  · rw [if_neg e] at hj
    refine h.2.2 (j, aV ad u) (List.mem_cons_of_mem _ (List.mem_filter.mpr ⟨aLl_mem.mpr ⟨u, hj, hu, rfl⟩, ?_⟩))
    have e1 : (j == i) = false := by simp; exact fun q => e q.symm
    have e4 : (j == i + 1) = false := by simp; exact fun q => e3 q.symm
    by_cases e2 : j + 1 = i
    · subst e2
      simp only [aNoL, hj] at hn
      have : u.category = 1 := by simpa using hn
      simp [aV_cat, this]
      omega
    · simp [e1, e2, e4]
/-! inversions -/
theorem aGo_inv {pc : Nat} {lv st : List Value} {σ : aSt} {z : aC} (h : aGo pc lv st σ = some (.inl z)) : z = (pc, lv, st, σ) := by
  cases h; rfl
theorem aJp_inv {pc : Nat} {off : Int} {lv st : List Value} {σ : aSt} {z : aC} (h : aJp pc off lv st σ = some (.inl z)) : ∃ t : Nat, (pc : Int) + off = (t : Int) ∧ z = (t, lv, st, σ) := by
  unfold aJp at h
  split at h
  · rename_i t ht
    exact ⟨t, ht, aGo_inv h⟩
  · cases h
theorem aPut1_inv {pc : Nat} {lv : List Value} {i : Nat} {v : Value} {st : List Value} {σ : aSt} {z : aC} (h : aPut1 pc lv i v st σ = some (.inl z)) : i < lv.length ∧ aNoL lv i = true ∧ z = (pc, lv.set i v, st, σ) := by
  unfold aPut1 at h
  split at h
  · rename_i hb
    rw [Bool.and_eq_true] at hb
    exact ⟨Nat.blt_eq.mp hb.1, hb.2, aGo_inv h⟩
  · cases h
theorem aPut2_inv {pc : Nat} {lv : List Value} {i : Nat} {v : Value} {st : List Value} {σ : aSt} {z : aC} (h : aPut2 pc lv i v st σ = some (.inl z)) : i + 1 < lv.length ∧ aNoL lv i = true ∧ z = (pc, (lv.set i v).set (i + 1) .null, st, σ) := by
  unfold aPut2 at h
  split at h
  · rename_i hb
    rw [Bool.and_eq_true] at hb
    exact ⟨Nat.blt_eq.mp hb.1, hb.2, aGo_inv h⟩
  · cases h
theorem aLdI_inv {pc : Nat} {lv : List Value} {i : Nat} {st : List Value} {σ : aSt} {z : aC} (h : aLdI pc lv i st σ = some (.inl z)) : ∃ x, lv[i]? = some (.int x) ∧ z = (pc, lv, .int x :: st, σ) := by
  unfold aLdI at h
  split at h
  · rename_i x hx
    exact ⟨x, hx, aGo_inv h⟩
  · cases h
theorem aLdL_inv {pc : Nat} {lv : List Value} {i : Nat} {st : List Value} {σ : aSt} {z : aC} (h : aLdL pc lv i st σ = some (.inl z)) : ∃ x, lv[i]? = some (.long x) ∧ z = (pc, lv, .long x :: st, σ) := by
  unfold aLdL at h
  split at h
  · rename_i x hx
    exact ⟨x, hx, aGo_inv h⟩
  · cases h
theorem aLdR_inv {pc : Nat} {lv : List Value} {i : Nat} {st : List Value} {σ : aSt} {z : aC} (h : aLdR pc lv i st σ = some (.inl z)) : ∃ x, lv[i]? = some (.ref x) ∧ z = (pc, lv, .ref x :: st, σ) := by
  unfold aLdR at h
  split at h
  · rename_i x hx
    exact ⟨x, hx, aGo_inv h⟩
  · cases h
theorem aStI_inv {pc : Nat} {lv : List Value} {i : Nat} {st : List Value} {σ : aSt} {z : aC} (h : aStI pc lv i st σ = some (.inl z)) : ∃ x r, st = .int x :: r ∧ i < lv.length ∧ aNoL lv i = true ∧ z = (pc, lv.set i (.int x), r, σ) := by
  unfold aStI at h
  split at h
  · rename_i x r
    exact ⟨x, r, rfl, aPut1_inv h⟩
  · cases h
theorem aStR_inv {pc : Nat} {lv : List Value} {i : Nat} {st : List Value} {σ : aSt} {z : aC} (h : aStR pc lv i st σ = some (.inl z)) : ∃ x r, st = .ref x :: r ∧ i < lv.length ∧ aNoL lv i = true ∧ z = (pc, lv.set i (.ref x), r, σ) := by
  unfold aStR at h
  split at h
  · rename_i x r
    exact ⟨x, r, rfl, aPut1_inv h⟩
  · cases h
theorem aStL_inv {pc : Nat} {lv : List Value} {i : Nat} {st : List Value} {σ : aSt} {z : aC} (h : aStL pc lv i st σ = some (.inl z)) : ∃ x r, st = .long x :: r ∧ i + 1 < lv.length ∧ aNoL lv i = true ∧ z = (pc, (lv.set i (.long x)).set (i + 1) .null, r, σ) := by
  unfold aStL at h
  split at h
  · rename_i x r
    exact ⟨x, r, rfl, aPut2_inv h⟩
  · cases h
theorem aII_inv {f : Int32 → Int32 → Value} {pc : Nat} {lv st : List Value} {σ : aSt} {z : aC} (h : aII f pc lv st σ = some (.inl z)) : ∃ x y r, st = .int y :: .int x :: r ∧ z = (pc + 1, lv, f x y :: r, σ) := by
  unfold aII at h
  split at h
  · rename_i y x r
    exact ⟨x, y, r, rfl, aGo_inv h⟩
  · cases h
theorem aLL_inv {f : Int64 → Int64 → Value} {pc : Nat} {lv st : List Value} {σ : aSt} {z : aC} (h : aLL f pc lv st σ = some (.inl z)) : ∃ x y r, st = .long y :: .long x :: r ∧ z = (pc + 1, lv, f x y :: r, σ) := by
  unfold aLL at h
  split at h
  · rename_i y x r
    exact ⟨x, y, r, rfl, aGo_inv h⟩
  · cases h
theorem aLI_inv {f : Int64 → Int32 → Value} {pc : Nat} {lv st : List Value} {σ : aSt} {z : aC} (h : aLI f pc lv st σ = some (.inl z)) : ∃ x y r, st = .int y :: .long x :: r ∧ z = (pc + 1, lv, f x y :: r, σ) := by
  unfold aLI at h
  split at h
  · rename_i y x r
    exact ⟨x, y, r, rfl, aGo_inv h⟩
  · cases h
theorem aI1_inv {f : Int32 → Value} {pc : Nat} {lv st : List Value} {σ : aSt} {z : aC} (h : aI1 f pc lv st σ = some (.inl z)) : ∃ x r, st = .int x :: r ∧ z = (pc + 1, lv, f x :: r, σ) := by
  unfold aI1 at h
  split at h
  · rename_i x r
    exact ⟨x, r, rfl, aGo_inv h⟩
  · cases h
theorem aL1_inv {f : Int64 → Value} {pc : Nat} {lv st : List Value} {σ : aSt} {z : aC} (h : aL1 f pc lv st σ = some (.inl z)) : ∃ x r, st = .long x :: r ∧ z = (pc + 1, lv, f x :: r, σ) := by
  unfold aL1 at h
  split at h
  · rename_i x r
    exact ⟨x, r, rfl, aGo_inv h⟩
  · cases h
theorem aIID_inv {f : Int32 → Int32 → Value} {pc : Nat} {lv st : List Value} {σ : aSt} {z : aC} (h : aIID f pc lv st σ = some (.inl z)) : ∃ x y r, st = .int y :: .int x :: r ∧ ¬ y = 0 ∧ z = (pc + 1, lv, f x y :: r, σ) := by
  unfold aIID at h
  split at h
  · rename_i y x r
    split at h
    · cases h
    · rename_i hn
      exact ⟨x, y, r, rfl, hn, aGo_inv h⟩
  · cases h
theorem aLLD_inv {f : Int64 → Int64 → Value} {pc : Nat} {lv st : List Value} {σ : aSt} {z : aC} (h : aLLD f pc lv st σ = some (.inl z)) : ∃ x y r, st = .long y :: .long x :: r ∧ ¬ y = 0 ∧ z = (pc + 1, lv, f x y :: r, σ) := by
  unfold aLLD at h
  split at h
  · rename_i y x r
    split at h
    · cases h
    · rename_i hn
      exact ⟨x, y, r, rfl, hn, aGo_inv h⟩
  · cases h
theorem aIf_inv {P : Int32 → Prop} {dec : ∀ x, Decidable (P x)} {pc : Nat} {off : Int} {lv st : List Value} {σ : aSt} {z : aC} (h : aIf P dec pc off lv st σ = some (.inl z)) : ∃ x r t, st = .int x :: r ∧ (pc : Int) + off = ((t : Nat) : Int) ∧ ((P x ∧ z = (t, lv, r, σ)) ∨ (¬ P x ∧ z = (pc + 3, lv, r, σ))) := by
  unfold aIf at h
  split at h
  · rename_i x r
    split at h
    · rename_i t ht
      refine ⟨x, r, t, rfl, ht, ?_⟩
      by_cases hp : P x
      · rw [if_pos hp] at h
        exact Or.inl ⟨hp, aGo_inv h⟩
      · rw [if_neg hp] at h
        exact Or.inr ⟨hp, aGo_inv h⟩
    · cases h
  · cases h
theorem aIc_inv {P : Int32 → Int32 → Prop} {dec : ∀ x y, Decidable (P x y)} {pc : Nat} {off : Int} {lv st : List Value} {σ : aSt} {z : aC} (h : aIc P dec pc off lv st σ = some (.inl z)) : ∃ x y r t, st = .int y :: .int x :: r ∧ (pc : Int) + off = ((t : Nat) : Int) ∧ ((P x y ∧ z = (t, lv, r, σ)) ∨ (¬ P x y ∧ z = (pc + 3, lv, r, σ))) := by
  unfold aIc at h
  split at h
  · rename_i y x r
    split at h
    · rename_i t ht
      refine ⟨x, y, r, t, rfl, ht, ?_⟩
      by_cases hp : P x y
      · rw [if_pos hp] at h
        exact Or.inl ⟨hp, aGo_inv h⟩
      · rw [if_neg hp] at h
        exact Or.inr ⟨hp, aGo_inv h⟩
    · cases h
  · cases h
end
section
/-! SOUNDNESS: a step of the abstract machine is a step of the JVM -/
theorem aNul_i {x : Int32} : Value.int x ≠ .null := by intro h; cases h
theorem aNul_l {x : Int64} : Value.long x ≠ .null := by intro h; cases h
theorem aNul_r {x : Nat} : Value.ref x ≠ .null := by intro h; cases h
theorem aCo_dec0 {M : aM} {pc : Nat} {q : Instr × Nat} (hM : aCoC M = true) (h : aFd (aCo M) pc = some q) : aQ (aBy M) (pc, q) = true := List.all_eq_true.mp hM _ (aFd_mem h)
theorem aCo_dec {M : aM} {pc : Nat} {q : Instr × Nat} (hM : aCoC M = true) (h : aFd (aCo M) pc = some q) : decode (aBy M) pc = .ok (q.1, q.2) ∧ q.2 = aLn q.1 q.2 := by
  have h1 := aCo_dec0 hM h
  simp only [aQ, Bool.and_eq_true, decide_eq_true_eq] at h1
  exact h1
theorem aGd_inv {b : Bool} {o : Option aR} {r : aR} (h : aGd b o = some r) : b = true ∧ o = some r := by
  cases b
  · cases h
  · exact ⟨rfl, h⟩
section AS
variable {p : Program} {l : Launch} {e : Env} {R : Room} {s : State} {m : MethodId} {args : Array Value} {below : List Frame} {meth : Method} {c : Code} {H : Heap} {locs : List Loc} {cells slots : Nat} {Q : State → Prop}
variable {X : aXt} {S : List aSh} {P : List aM} {M : aM} {ad : Nat → Nat} {cA : Nat → ClassId} {D : va_G} {tys : List (ClassId × FieldType)} {pc : Nat} {lv st : List Value} {σ : aSt} {ls : Array Slot} {z : aC}
theorem aS_ldcwS {cc : ByteArray} {rest : List Value} (hexec : p.tables.exec = Jvm.exec) (hb : c.code = cc) {own tx : String} {index q : Nat} (hown : s.vm.findClass own = some m.cls) (hZ : vk_R own index tx q s) (hdg : decode cc pc = .ok (.ldc_w index, 3))
    (k : W p l e R s m args below meth c H locs cells slots Q (F0 m (pc + 3) ls (.ref q :: rest))) : W p l e R s m args below meth c H locs cells slots Q (F0 m pc ls rest) := by
  intro T hT X
  obtain ⟨t, a1, b1⟩ := k T hT X
  exact ⟨t, X.ldcStringW hexec hown (text := tx) (a := q) hZ.1 hZ.2 (g := F0 m pc ls rest) rfl (by rw [hb]; exact hdg) t a1, b1⟩
/-- what goes on behind a step -/
def aKK (p : Program) (l : Launch) (e : Env) (R : Room) (s : State) (m : MethodId) (args : Array Value) (below : List Frame) (meth : Method) (c : Code) (cells slots : Nat) (Q : State → Prop) (S : List aSh) (M : aM) (ad : Nat → Nat) (cA : Nat → ClassId) (D : va_G) (z : aC) : Prop :=
  ∀ (H1 : Heap) (locs1 : List Loc) (ls1 : Array Slot), aWo S ad cA D s z.2.2.2 H1 locs1 → aLs ad ls1 (aML M) z.2.1 → W p l e R s m args below meth c H1 locs1 cells slots Q (F0 m z.1 ls1 (z.2.2.1.map (aV ad)))
theorem aS_ldI {k : Nat} (hl : aLs ad ls (aML M) lv) {x : Int32} (h : lv[k]? = some (.int x)) : ls[k]? = some (.val (.int x)) := hl.2.2.2 k _ h aNul_i
theorem aS_ldL {k : Nat} (hl : aLs ad ls (aML M) lv) {x : Int64} (h : lv[k]? = some (.long x)) : ls[k]? = some (.val (.long x)) := hl.2.2.2 k _ h aNul_l
theorem aS_ldR {k : Nat} (hl : aLs ad ls (aML M) lv) {x : Nat} (h : lv[k]? = some (.ref x)) : ls[k]? = some (.val (.ref (ad x))) := hl.2.2.2 k _ h aNul_r
set_option maxHeartbeats 4000000 in
/-- arithmetic, constants, locals, branches -/
theorem aS_go1 {ins : Instr} {len : Nat} (hF : aFx M p s m c args) (hcl : aClC P (aCs M) = true) (hso : aStrOK (aCs M) = true) (hR : aStrS ad s) (hd : decode (aBy M) pc = .ok (ins, len)) (hn : len = aLn ins len) (hW : aWo S ad cA D s σ H locs) (hl : aLs ad ls (aML M) lv)
    (hq : match ins with
      | .iaload => False
      | .baload => False
      | .laload => False
      | .aaload => False
      | .iastore => False
      | .bastore => False
      | .lastore => False
      | .arraylength => False
      | .getfield _ => False
      | .getstatic _ => False
      | .invokestatic _ => False
      | .putfield _ => False
      | _ => True)
    (h : aIns X S M pc ins lv st σ = some (.inl z)) (kk : aKK p l e R s m args below meth c cells slots Q S M ad cA D z) : W p l e R s m args below meth c H locs cells slots Q (F0 m pc ls (st.map (aV ad))) := by
  obtain ⟨hx, hb, hml, hown, hts⟩ := hF
  have hcon : ∀ (i : Nat) (r : Value × Nat), aFd (aCs M).2.2.2 i = some r → aKC (aOwn M) (i, r) = true := fun i r hr => by
    simp only [aClC, Bool.and_eq_true] at hcl
    exact List.all_eq_true.mp hcl.2.2 _ (aFd_mem hr)
  cases ins with
  | iconst n =>
    have e1 := aGo_inv h
    subst e1; rw [hn] at hd
    exact lv_iconst hx hb hd rfl (kk H locs ls hW hl)
  | bipush n =>
    have e1 := aGo_inv h
    subst e1; rw [hn] at hd
    exact lv_bipush hx hb hd rfl (kk H locs ls hW hl)
  | sipush n =>
    have e1 := aGo_inv h
    subst e1; rw [hn] at hd
    exact lv_sipush hx hb hd rfl (kk H locs ls hW hl)
  | lconst n =>
    have e1 := aGo_inv h
    subst e1; rw [hn] at hd
    exact lv_lconst hx hb hd rfl (kk H locs ls hW hl)
  | ldc i =>
    simp only [aIns] at h
    split at h
    · rename_i v w hv
      have e1 := aGo_inv h
      subst e1; rw [hn] at hd
      exact lv_ldc hx hb hown (hts _ (aWd_mem (hcon _ _ hv))) hd (kk H locs ls hW hl)
    · rename_i v w hv
      obtain ⟨hg, h⟩ := aGd_inv h
      have e1 := aGo_inv h
      subst e1; rw [hn] at hd
      obtain ⟨tx, hZ⟩ := aStr_in hso hv hg hR
      exact va_ldcS hx hb hown hZ hd (kk H locs ls hW hl)
    · cases h
  | ldc_w i =>
    simp only [aIns] at h
    split at h
    · rename_i v w hv
      have e1 := aGo_inv h
      subst e1; rw [hn] at hd
      exact lv_ldcw hx hb hown (hts _ (aWd_mem (hcon _ _ hv))) hd (kk H locs ls hW hl)
    · rename_i v w hv
      obtain ⟨hg, h⟩ := aGd_inv h
      have e1 := aGo_inv h
      subst e1; rw [hn] at hd
      obtain ⟨tx, hZ⟩ := aStr_in hso hv hg hR
      exact aS_ldcwS hx hb hown hZ hd (kk H locs ls hW hl)
    · cases h
  | ldc2_w i =>
    simp only [aIns] at h
    split at h
    · rename_i v w hv
      have e1 := aGo_inv h
      subst e1; rw [hn] at hd
      exact lv_ldc2 hx hb hown (hts _ (aWd_mem (hcon _ _ hv))) hd (kk H locs ls hW hl)
    · cases h
  | iload_n k =>
    obtain ⟨x, h1, rfl⟩ := aLdI_inv h
    rw [hn] at hd
    exact lv_iload_n hx hb hd rfl (aS_ldI hl h1) (kk H locs ls hW hl)
  | iload k =>
    obtain ⟨x, h1, rfl⟩ := aLdI_inv h
    rw [hn] at hd
    exact lv_iload hx hb hd (aS_ldI hl h1) (kk H locs ls hW hl)
  | lload_n k =>
    obtain ⟨x, h1, rfl⟩ := aLdL_inv h
    rw [hn] at hd
    exact lv_lload_n hx hb hd rfl (aS_ldL hl h1) (kk H locs ls hW hl)
  | lload k =>
    obtain ⟨x, h1, rfl⟩ := aLdL_inv h
    rw [hn] at hd
    exact lv_lload hx hb hd (aS_ldL hl h1) (kk H locs ls hW hl)
  | aload_n k =>
    obtain ⟨x, h1, rfl⟩ := aLdR_inv h
    rw [hn] at hd
    exact lv_aload_n hx hb hd rfl (aS_ldR hl h1) (kk H locs ls hW hl)
  | aload k =>
    obtain ⟨x, h1, rfl⟩ := aLdR_inv h
    rw [hn] at hd
    exact lv_aload hx hb hd (aS_ldR hl h1) (kk H locs ls hW hl)
  | istore_n k =>
    obtain ⟨x, r, rfl, h1, h2, rfl⟩ := aStI_inv h
    rw [hn] at hd
    exact lv_istore_n hx hb hd rfl (aLs_has hl) (hl.2.2.1 ▸ h1) rfl (fun ls1 hl1 => kk H locs ls1 hW (aLs_set1 (v := .int x) hl.2.2.1 h2 hl1))
  | istore k =>
    obtain ⟨x, r, rfl, h1, h2, rfl⟩ := aStI_inv h
    rw [hn] at hd
    exact lv_istore hx hb hd (aLs_has hl) (hl.2.2.1 ▸ h1) rfl (fun ls1 hl1 => kk H locs ls1 hW (aLs_set1 (v := .int x) hl.2.2.1 h2 hl1))
  | lstore_n k =>
    obtain ⟨x, r, rfl, h1, h2, rfl⟩ := aStL_inv h
    rw [hn] at hd
    exact lv_lstore_n hx hb hd rfl (aLs_has hl) (hl.2.2.1 ▸ h1) rfl (fun ls1 hl1 => kk H locs ls1 hW (aLs_set2 (v := .long x) hl.2.2.1 h2 hl1))
  | lstore k =>
    obtain ⟨x, r, rfl, h1, h2, rfl⟩ := aStL_inv h
    rw [hn] at hd
    exact lv_lstore hx hb hd (aLs_has hl) (hl.2.2.1 ▸ h1) rfl (fun ls1 hl1 => kk H locs ls1 hW (aLs_set2 (v := .long x) hl.2.2.1 h2 hl1))
  | astore_n k =>
    obtain ⟨x, r, rfl, h1, h2, rfl⟩ := aStR_inv h
    rw [hn] at hd
    exact lv_astore_n hx hb hd rfl (aLs_has hl) (hl.2.2.1 ▸ h1) rfl (fun ls1 hl1 => kk H locs ls1 hW (aLs_set1 (v := .ref x) hl.2.2.1 h2 hl1))
  | astore k =>
    obtain ⟨x, r, rfl, h1, h2, rfl⟩ := aStR_inv h
    rw [hn] at hd
    exact lv_astore hx hb hd (aLs_has hl) (hl.2.2.1 ▸ h1) rfl (fun ls1 hl1 => kk H locs ls1 hW (aLs_set1 (v := .ref x) hl.2.2.1 h2 hl1))
  | iinc i n =>
    simp only [aIns] at h
    split at h
    · rename_i x hi
      obtain ⟨h1, h2, rfl⟩ := aPut1_inv h
      rw [hn] at hd
      obtain ⟨k, hk⟩ := List.getElem?_of_mem (aLl_mem.mpr ⟨_, hi, aNul_i, rfl⟩ : (i, aV ad (.int x)) ∈ aLl ad lv)
      exact lv_iinc hx hb hd (aLs_has hl) (k := k) (x := x) hk rfl (hl.2.2.1 ▸ h1) rfl (fun ls1 hl1 => kk H locs ls1 hW (aLs_set1 (v := .int (x + Int32.ofInt n)) hl.2.2.1 h2 hl1))
    · cases h
  | iadd =>
    obtain ⟨x, y, r, rfl, rfl⟩ := aII_inv h
    rw [hn] at hd
    exact lv_iadd hx hb hd (kk H locs ls hW hl)
  | isub =>
    obtain ⟨x, y, r, rfl, rfl⟩ := aII_inv h
    rw [hn] at hd
    exact lv_isub hx hb hd (kk H locs ls hW hl)
  | imul =>
    obtain ⟨x, y, r, rfl, rfl⟩ := aII_inv h
    rw [hn] at hd
    exact lv_imul hx hb hd (kk H locs ls hW hl)
  | iand =>
    obtain ⟨x, y, r, rfl, rfl⟩ := aII_inv h
    rw [hn] at hd
    exact lv_iand hx hb hd (kk H locs ls hW hl)
  | ior =>
    obtain ⟨x, y, r, rfl, rfl⟩ := aII_inv h
    rw [hn] at hd
    exact lv_ior hx hb hd (kk H locs ls hW hl)
  | ixor =>
    obtain ⟨x, y, r, rfl, rfl⟩ := aII_inv h
    rw [hn] at hd
    exact lv_ixor hx hb hd (kk H locs ls hW hl)
  | ishl =>
    obtain ⟨x, y, r, rfl, rfl⟩ := aII_inv h
    rw [hn] at hd
    exact lv_ishl hx hb hd (kk H locs ls hW hl)
  | ishr =>
    obtain ⟨x, y, r, rfl, rfl⟩ := aII_inv h
    rw [hn] at hd
    exact lv_ishr hx hb hd (kk H locs ls hW hl)
  | iushr =>
    obtain ⟨x, y, r, rfl, rfl⟩ := aII_inv h
    rw [hn] at hd
    exact lv_iushr hx hb hd rfl (kk H locs ls hW hl)
  | idiv =>
    obtain ⟨x, y, r, rfl, h0, rfl⟩ := aIID_inv h
    rw [hn] at hd
    exact lv_idiv hx hb hd h0 (kk H locs ls hW hl)
  | irem =>
    obtain ⟨x, y, r, rfl, h0, rfl⟩ := aIID_inv h
    rw [hn] at hd
    exact lv_irem hx hb hd h0 (kk H locs ls hW hl)
  | ladd =>
    obtain ⟨x, y, r, rfl, rfl⟩ := aLL_inv h
    rw [hn] at hd
    exact lv_ladd hx hb hd (kk H locs ls hW hl)
  | lsub =>
    obtain ⟨x, y, r, rfl, rfl⟩ := aLL_inv h
    rw [hn] at hd
    exact lv_lsub hx hb hd (kk H locs ls hW hl)
  | lmul =>
    obtain ⟨x, y, r, rfl, rfl⟩ := aLL_inv h
    rw [hn] at hd
    exact lv_lmul hx hb hd (kk H locs ls hW hl)
  | land =>
    obtain ⟨x, y, r, rfl, rfl⟩ := aLL_inv h
    rw [hn] at hd
    exact lv_land hx hb hd (kk H locs ls hW hl)
  | lor =>
    obtain ⟨x, y, r, rfl, rfl⟩ := aLL_inv h
    rw [hn] at hd
    exact lv_lor hx hb hd (kk H locs ls hW hl)
  | ldiv =>
    obtain ⟨x, y, r, rfl, h0, rfl⟩ := aLLD_inv h
    rw [hn] at hd
    exact lv_ldiv hx hb hd h0 (kk H locs ls hW hl)
  | lrem =>
    obtain ⟨x, y, r, rfl, h0, rfl⟩ := aLLD_inv h
    rw [hn] at hd
    exact lv_lrem hx hb hd h0 (kk H locs ls hW hl)
  | lshl =>
    obtain ⟨x, y, r, rfl, rfl⟩ := aLI_inv h
    rw [hn] at hd
    exact lv_lshl hx hb hd rfl (kk H locs ls hW hl)
  | lushr =>
    obtain ⟨x, y, r, rfl, rfl⟩ := aLI_inv h
    rw [hn] at hd
    exact lv_lushr hx hb hd rfl (kk H locs ls hW hl)
  | lcmp =>
    obtain ⟨x, y, r, rfl, rfl⟩ := aLL_inv h
    rw [hn] at hd
    exact W.lcmp hx hb hd (kk H locs ls hW hl)
  | i2l =>
    obtain ⟨x, r, rfl, rfl⟩ := aI1_inv h
    rw [hn] at hd
    exact lv_i2l hx hb hd rfl (kk H locs ls hW hl)
  | i2b =>
    obtain ⟨x, r, rfl, rfl⟩ := aI1_inv h
    rw [hn] at hd
    exact lv_i2b hx hb hd rfl (kk H locs ls hW hl)
  | l2i =>
    obtain ⟨x, r, rfl, rfl⟩ := aL1_inv h
    rw [hn] at hd
    exact lv_l2i hx hb hd rfl (kk H locs ls hW hl)
  | pop =>
    simp only [aIns] at h
    split at h
    · rename_i v r
      split at h
      · rename_i hv
        have e1 := aGo_inv h
        subst e1; rw [hn] at hd
        exact lv_pop (va := aV ad v) hx hb hd (by rw [aV_cat]; simpa using hv) (kk H locs ls hW hl)
      · cases h
    · cases h
  | dup =>
    simp only [aIns] at h
    split at h
    · rename_i v r
      split at h
      · rename_i hv
        have e1 := aGo_inv h
        subst e1; rw [hn] at hd
        exact lv_dup (va := aV ad v) hx hb hd (by rw [aV_cat]; simpa using hv) (kk H locs ls hW hl)
      · cases h
    · cases h
  | dup2 =>
    simp only [aIns] at h
    split at h
    · rename_i v u r
      split at h
      · rename_i hv
        have e1 := aGo_inv h
        subst e1; rw [hn] at hd
        rw [Bool.and_eq_true] at hv
        exact lv_dup2_11 (va := aV ad v) (vb := aV ad u) hx hb hd (by rw [aV_cat]; simpa using hv.1) (by rw [aV_cat]; simpa using hv.2) (kk H locs ls hW hl)
      · cases h
    · cases h
  | ifCond cd off =>
    rw [hn] at hd
    cases cd with
    | eq =>
      obtain ⟨x, r, t, rfl, ht, hz⟩ := aIf_inv h
      exact lv_if_eq hx hb hd ht (fun q => by rcases hz with ⟨_, rfl⟩ | ⟨q2, _⟩; exact kk H locs ls hW hl; exact absurd q q2) (fun q => by rcases hz with ⟨q2, _⟩ | ⟨_, rfl⟩; exact absurd q2 q; exact kk H locs ls hW hl)
    | ne =>
      obtain ⟨x, r, t, rfl, ht, hz⟩ := aIf_inv h
      exact lv_if_ne hx hb hd ht (fun q => by rcases hz with ⟨_, rfl⟩ | ⟨q2, _⟩; exact kk H locs ls hW hl; exact absurd q q2) (fun q => by rcases hz with ⟨q2, _⟩ | ⟨_, rfl⟩; exact absurd q q2; exact kk H locs ls hW hl)
    | lt =>
      obtain ⟨x, r, t, rfl, ht, hz⟩ := aIf_inv h
      exact lv_if_lt hx hb hd ht (fun q => by rcases hz with ⟨_, rfl⟩ | ⟨q2, _⟩; exact kk H locs ls hW hl; exact absurd q q2) (fun q => by rcases hz with ⟨q2, _⟩ | ⟨_, rfl⟩; exact absurd q2 q; exact kk H locs ls hW hl)
    | ge =>
      obtain ⟨x, r, t, rfl, ht, hz⟩ := aIf_inv h
      exact lv_if_ge hx hb hd ht (fun q => by rcases hz with ⟨_, rfl⟩ | ⟨q2, _⟩; exact kk H locs ls hW hl; exact absurd q q2) (fun q => by rcases hz with ⟨q2, _⟩ | ⟨_, rfl⟩; exact absurd q2 q; exact kk H locs ls hW hl)
    | gt =>
      obtain ⟨x, r, t, rfl, ht, hz⟩ := aIf_inv h
      exact lv_if_gt hx hb hd ht (fun q => by rcases hz with ⟨_, rfl⟩ | ⟨q2, _⟩; exact kk H locs ls hW hl; exact absurd q q2) (fun q => by rcases hz with ⟨q2, _⟩ | ⟨_, rfl⟩; exact absurd q2 q; exact kk H locs ls hW hl)
    | le =>
      obtain ⟨x, r, t, rfl, ht, hz⟩ := aIf_inv h
      exact lv_if_le hx hb hd ht (fun q => by rcases hz with ⟨_, rfl⟩ | ⟨q2, _⟩; exact kk H locs ls hW hl; exact absurd q q2) (fun q => by rcases hz with ⟨q2, _⟩ | ⟨_, rfl⟩; exact absurd q2 q; exact kk H locs ls hW hl)
  | if_icmp cd off =>
    rw [hn] at hd
    cases cd with
    | eq =>
      obtain ⟨x, y, r, t, rfl, ht, hz⟩ := aIc_inv h
      exact lv_icmp_eq hx hb hd ht (fun q => by rcases hz with ⟨_, rfl⟩ | ⟨q2, _⟩; exact kk H locs ls hW hl; exact absurd q q2) (fun q => by rcases hz with ⟨q2, _⟩ | ⟨_, rfl⟩; exact absurd q2 q; exact kk H locs ls hW hl)
    | ne =>
      obtain ⟨x, y, r, t, rfl, ht, hz⟩ := aIc_inv h
      exact lv_icmp_ne hx hb hd ht (fun q => by rcases hz with ⟨_, rfl⟩ | ⟨q2, _⟩; exact kk H locs ls hW hl; exact absurd q q2) (fun q => by rcases hz with ⟨q2, _⟩ | ⟨_, rfl⟩; exact absurd q q2; exact kk H locs ls hW hl)
    | lt =>
      obtain ⟨x, y, r, t, rfl, ht, hz⟩ := aIc_inv h
      exact lv_icmp_lt hx hb hd ht (fun q => by rcases hz with ⟨_, rfl⟩ | ⟨q2, _⟩; exact kk H locs ls hW hl; exact absurd q q2) (fun q => by rcases hz with ⟨q2, _⟩ | ⟨_, rfl⟩; exact absurd q2 q; exact kk H locs ls hW hl)
    | ge =>
      obtain ⟨x, y, r, t, rfl, ht, hz⟩ := aIc_inv h
      exact lv_icmp_ge hx hb hd ht (fun q => by rcases hz with ⟨_, rfl⟩ | ⟨q2, _⟩; exact kk H locs ls hW hl; exact absurd q q2) (fun q => by rcases hz with ⟨q2, _⟩ | ⟨_, rfl⟩; exact absurd q2 q; exact kk H locs ls hW hl)
    | gt =>
      obtain ⟨x, y, r, t, rfl, ht, hz⟩ := aIc_inv h
      exact lv_icmp_gt hx hb hd ht (fun q => by rcases hz with ⟨_, rfl⟩ | ⟨q2, _⟩; exact kk H locs ls hW hl; exact absurd q q2) (fun q => by rcases hz with ⟨q2, _⟩ | ⟨_, rfl⟩; exact absurd q2 q; exact kk H locs ls hW hl)
    | le =>
      obtain ⟨x, y, r, t, rfl, ht, hz⟩ := aIc_inv h
      exact lv_icmp_le hx hb hd ht (fun q => by rcases hz with ⟨_, rfl⟩ | ⟨q2, _⟩; exact kk H locs ls hW hl; exact absurd q q2) (fun q => by rcases hz with ⟨q2, _⟩ | ⟨_, rfl⟩; exact absurd q2 q; exact kk H locs ls hW hl)
  | goto off =>
    obtain ⟨t, ht, rfl⟩ := aJp_inv h
    rw [hn] at hd
    exact lv_goto hx hb hd ht (kk H locs ls hW hl)
  | tableswitch dflt lo hi offs =>
    simp only [aIns] at h
    split at h
    · rename_i x r
      split at h
      · rename_i ho
        obtain ⟨t, ht, rfl⟩ := aJp_inv h
        exact lv_tableOut hx hb hd ho ht (kk H locs ls hW hl)
      · rename_i ho
        split at h
        · rename_i off hoff
          obtain ⟨t, ht, rfl⟩ := aJp_inv h
          exact lv_tableIn hx hb hd (fun q => ho (Or.inl q)) (fun q => ho (Or.inr q)) hoff ht (kk H locs ls hW hl)
        · cases h
    · cases h
  | lookupswitch dflt ps =>
    simp only [aIns] at h
    split at h
    · rename_i x r
      split at h
      · rename_i ho
        obtain ⟨t, ht, rfl⟩ := aJp_inv h
        exact lv_lookup hx hb hd ho rfl ht (kk H locs ls hW hl)
      · cases h
    · cases h
  | iaload => exact hq.elim
  | baload => exact hq.elim
  | laload => exact hq.elim
  | aaload => exact hq.elim
  | iastore => exact hq.elim
  | bastore => exact hq.elim
  | lastore => exact hq.elim
  | arraylength => exact hq.elim
  | getfield _ => exact hq.elim
  | getstatic _ => exact hq.elim
  | putfield _ => exact hq.elim
  | invokestatic _ => exact hq.elim
  | invokevirtual i =>
    simp only [aIns] at h
    repeat (split at h <;> try cases h)
  | ireturn =>
    simp only [aIns] at h
    repeat (split at h <;> try cases h)
  | lreturn =>
    simp only [aIns] at h
    repeat (split at h <;> try cases h)
  | return_ =>
    simp only [aIns] at h
    repeat (split at h <;> try cases h)
  | _ => simp [aIns] at h
end AS
end
section
/-! SOUNDNESS, the steps that touch the store -/
theorem aInS {n : Nat} {i : Int32} (h : ¬ (i < 0 ∨ n ≤ i.toNatClampNeg)) : vp_in i n := h
theorem aCl_fld {P : List aM} {cl : aCl} {i : Nat} {r : Nat × Nat × Nat × Nat} (hcl : aClC P cl = true) (h : aFd cl.2.1 i = some r) : aFC cl.1 (i, r) = true := by
  simp only [aClC, Bool.and_eq_true] at hcl
  exact List.all_eq_true.mp hcl.1 _ (aFd_mem h)
theorem aFC_inv {own : String} {i ci k kd w : Nat} (h : aFC own (i, ci, k, kd, w) = true) : ∃ (C : String) (T : u_T) (N : Nat), vwCl[ci]? = some (C, T, N) ∧ k < N ∧ Cond.fieldLink own i (T k).1 (T k).2.1 (T k).2.2.1 ∈ aTB ∧ aKdC kd (T k) = true := by
  unfold aFC at h
  split at h
  · rename_i C T N hc
    simp only [Bool.and_eq_true] at h
    exact ⟨C, T, N, hc, Nat.blt_eq.mp h.1.1, aWd_mem h.1.2, h.2⟩
  · cases h
theorem aNf_of {ci : Nat} {C : String} {T : u_T} {N : Nat} (h : vwCl[ci]? = some (C, T, N)) : aNf ci = N := by
  simp only [aNf, h]
theorem aE_obj {ad : Nat → Nat} {c : ClassId} {f : Nat → Value} {ci : Nat} : aE ad c f (.inl ci) = .inr (ci, (List.range (aNf ci)).map (fun k => aV ad (f k))) := rfl
theorem aFs_get {ad : Nat → Nat} {f : Nat → Value} {N k : Nat} (h : k < N) : ((List.range N).map (fun k => aV ad (f k)))[k]? = some (aV ad (f k)) := by
  simp [h]
theorem aFs_set {ad : Nat → Nat} {f : Nat → Value} {N k : Nat} {v : Value} : ((List.range N).map (fun j => aV ad (if j = k then v else f j))) = ((List.range N).map (fun k => aV ad (f k))).set k (aV ad v) := by
  apply List.ext_getElem?
  intro i
  rw [List.getElem?_set]
  by_cases e : k = i
  · subst e
    by_cases hi : k < N
    · simp [hi]
    · simp [hi]
  · have e' : ¬ i = k := fun q => e q.symm
    rw [if_neg e]
    by_cases hi : i < N
    · simp [hi, e']
    · simp [hi]
theorem aOk_narrow {kd : Nat} {t : String × String × String × Bool} {v : Value} {ad : Nat → Nat} (h : aKdC kd t = true) (hv : aOk kd v = true) : t.2.2.2 = false ∧ ∃ ty, parseFieldDescriptor t.2.2.1 = some ty ∧ narrow ty (aV ad v) = aV ad v ∧ fits ty (aV ad v) = true := by
  unfold aOk at hv
  split at hv
  · simp only [aKdC, Bool.and_eq_true, Bool.not_eq_true', decide_eq_true_eq] at h
    exact ⟨h.1, _, h.2, rfl, rfl⟩
  · rename_i x
    simp only [aKdC, Bool.and_eq_true, Bool.not_eq_true', decide_eq_true_eq] at h
    refine ⟨h.1, _, h.2, ?_⟩
    simp only [Bool.or_eq_true, beq_iff_eq] at hv
    rcases hv with rfl | rfl
    · exact ⟨show narrow .boolean (.int 0) = .int 0 by decide, show fits .boolean (.int 0) = true by decide⟩
    · exact ⟨show narrow .boolean (.int 1) = .int 1 by decide, show fits .boolean (.int 1) = true by decide⟩
  · simp only [aKdC, Bool.and_eq_true, Bool.not_eq_true', decide_eq_true_eq] at h
    exact ⟨h.1, _, h.2, rfl, rfl⟩
  · simp only [aKdC, Bool.and_eq_true, Bool.not_eq_true'] at h
    obtain ⟨h1, h2⟩ := h
    split at h2
    · rename_i ty hty
      refine ⟨h1, ty, hty, ?_⟩
      cases ty with
      | object C => exact ⟨rfl, rfl⟩
      | array t => exact ⟨rfl, rfl⟩
      | _ => cases h2
    · cases h2
  · cases hv
theorem aNmX {ci : Nat} {C : String} {T : u_T} {N : Nat} (h : vwCl[ci]? = some (C, T, N)) : ∃ ty0 : Nat → FieldType, (∀ k, k < N → parseFieldDescriptor (T k).2.2.1 = some (ty0 k)) ∧ (∀ a, a < N → ∀ b, b < N → a ≠ b → (T a).2.1 ≠ (T b).2.1) := by
  match ci, h with
  | 0, h => cases h; exact ⟨tyX0, tyX0_ok, nmX0⟩
  | 1, h => cases h; exact ⟨tyX1, tyX1_ok, nmX1⟩
  | 2, h => cases h; exact ⟨tyX2, tyX2_ok, nmX2⟩
  | 3, h => cases h; exact ⟨tyX3, tyX3_ok, nmX3⟩
  | 4, h => cases h; exact ⟨tyX4, tyX4_ok, nmX4⟩
  | 5, h => cases h; exact ⟨tyX5, tyX5_ok, nmX5⟩
  | 6, h => cases h; exact ⟨tyX6, tyX6_ok, nmX6⟩
  | 7, h => cases h; exact ⟨tyX7, tyX7_ok, nmX7⟩
  | 8, h => cases h; exact ⟨tyX8, tyX8_ok, nmX8⟩
  | 9, h => cases h; exact ⟨tyX9, tyX9_ok, nmX9⟩
  | 10, h => cases h; exact ⟨tyX10, tyX10_ok, nmX10⟩
  | 11, h => cases h; exact ⟨tyX11, tyX11_ok, nmX11⟩
  | 12, h => cases h; exact ⟨tyX12, tyX12_ok, nmX12⟩
  | n + 13, h => simp [vwCl] at h
theorem aWs_mem {ws : List Cond} (ps : List Nat) (h : (ps.zip ws).all (fun q => aWd q.1 q.2) = true) (hl : ps.length = ws.length) : ∀ w ∈ ws, w ∈ aTB := by
  intro w hw
  obtain ⟨i, hi⟩ := List.getElem?_of_mem hw
  have hlt : i < ws.length := (List.getElem?_eq_some_iff.mp hi).1
  have hp : ps[i]? = some (ps[i]'(by omega)) := List.getElem?_eq_getElem (by omega)
  have hz : (ps[i]'(by omega), w) ∈ ps.zip ws := List.mem_of_getElem? (i := i) (by rw [List.getElem?_zip_eq_some]; exact ⟨hp, hi⟩)
  exact aWd_mem (List.all_eq_true.mp h _ hz)
theorem aUw0 : ∀ w ∈ u_ws RX0 TX0 3, w ∈ aTB := aWs_mem [247, 249, 251] (by decide +kernel) (by decide)
theorem aUw1 : ∀ w ∈ u_ws RX1 TX1 6, w ∈ aTB := aWs_mem [313, 315, 317, 319, 321, 323] (by decide +kernel) (by decide)
theorem aUw2 : ∀ w ∈ u_ws RX2 TX2 9, w ∈ aTB := aWs_mem [341, 343, 345, 347, 349, 351, 353, 355, 357] (by decide +kernel) (by decide)
theorem aUw3 : ∀ w ∈ u_ws RX3 TX3 4, w ∈ aTB := aWs_mem [265, 267, 269, 271] (by decide +kernel) (by decide)
theorem aUw4 : ∀ w ∈ u_ws RX4 TX4 12, w ∈ aTB := aWs_mem [434, 436, 438, 440, 442, 444, 446, 448, 450, 452, 454, 456] (by decide +kernel) (by decide)
theorem aUw5 : ∀ w ∈ u_ws RX5 TX5 7, w ∈ aTB := aWs_mem [373, 375, 377, 379, 381, 383, 385] (by decide +kernel) (by decide)
theorem aUw6 : ∀ w ∈ u_ws RX6 TX6 3, w ∈ aTB := aWs_mem [196, 198, 200] (by decide +kernel) (by decide)
theorem aUw7 : ∀ w ∈ u_ws RX7 TX7 7, w ∈ aTB := aWs_mem [219, 221, 223, 225, 227, 229, 231] (by decide +kernel) (by decide)
theorem aUw8 : ∀ w ∈ u_ws RX8 TX8 5, w ∈ aTB := aWs_mem [287, 289, 291, 293, 295] (by decide +kernel) (by decide)
theorem aUw9 : ∀ w ∈ u_ws RX9 TX9 4, w ∈ aTB := aWs_mem [165, 167, 169, 171] (by decide +kernel) (by decide)
theorem aUw10 : ∀ w ∈ u_ws RX10 TX10 1, w ∈ aTB := aWs_mem [182] (by decide +kernel) (by decide)
theorem aUw11 : ∀ w ∈ u_ws RX11 TX11 13, w ∈ aTB := aWs_mem [472, 474, 476, 478, 480, 482, 484, 486, 488, 490, 492, 494, 496] (by decide +kernel) (by decide)
theorem aUw12 : ∀ w ∈ u_ws RX12 TX12 60, w ∈ aTB := aWs_mem [1411, 1413, 1415, 1417, 1419, 1421, 1423, 1425, 1427, 1429, 1431, 1433, 1435, 1437, 1439, 1441, 1443, 1445, 1447, 1449, 1451, 1453, 1455, 1457, 1459, 1461, 1463, 1465, 1467, 1469, 1471, 1473, 1475, 1477, 1479, 1481, 1483, 1485, 1487, 1489, 1491, 1493, 1495, 1497, 1499, 1501, 1503, 1505, 1507, 1509, 1511, 1513, 1515, 1517, 1519, 1521, 1523, 1525, 1527, 1529] (by decide +kernel) (by decide)
def aUws (ci : Nat) : List Cond := match vwCl[ci]? with
  | some q => u_ws q.1 q.2.1 q.2.2
  | none => []
theorem aUws_all : ∀ ci, ci < 13 → ∀ w ∈ aUws ci, w ∈ aTB := by
  intro ci h
  match ci, h with
  | 0, _ => exact aUw0
  | 1, _ => exact aUw1
  | 2, _ => exact aUw2
  | 3, _ => exact aUw3
  | 4, _ => exact aUw4
  | 5, _ => exact aUw5
  | 6, _ => exact aUw6
  | 7, _ => exact aUw7
  | 8, _ => exact aUw8
  | 9, _ => exact aUw9
  | 10, _ => exact aUw10
  | 11, _ => exact aUw11
  | 12, _ => exact aUw12
theorem aUws_in {ci : Nat} {C : String} {T : u_T} {N : Nat} (h : vwCl[ci]? = some (C, T, N)) : ∀ w ∈ u_ws C T N, w ∈ aTB := by
  have hl : ci < 13 := (List.getElem?_eq_some_iff.mp h).1
  have := aUws_all ci hl
  simp only [aUws, h] at this
  exact this
end
section
/-! SOUNDNESS of the steps that read and write cells -/
def va_E_i (c : ClassId) (n : Nat) (f : Nat → Int32) : va_E := .inl (c, n, .inl f)
def va_E_l (c : ClassId) (n : Nat) (f : Nat → Int64) : va_E := .inl (c, n, .inr (.inl f))
theorem aCat_sum (ad : Nat → Nat) (r : List Value) : (((r.map (aV ad)).map fun v => v.category).sum) = aCat r := by
  induction r with
  | nil => rfl
  | cons v r ih =>
    simp only [List.map_cons, List.sum_cons, aV_cat, aCat]
    rw [ih]
theorem aStr_no {a : Nat} (h : a < 2000) : aFd aStr a = none := by
  cases e : aFd aStr a with
  | none => rfl
  | some t =>
    have := aFd_mem e
    simp [aStr] at this
    omega
theorem aNfw : nativeFrameWords "java/lang/System" "arraycopy" 5 + 11 ≤ 40 := by decide
theorem aW_upF {ad : Nat → Nat} {cA : Nat → ClassId} {S : List aSh} {σ : aSt} {a : Nat} {g : Nat → Value} {sh : aSh} {e : va_E} (h : S[a]? = some sh) (he : aE ad (cA a) g sh = e) : (aW ad cA S σ).set a (ad a, e) = aW ad cA S (fun b j => if b = a then g j else σ b j) := by
  apply List.ext_getElem?
  intro i
  rw [List.getElem?_set]
  by_cases hi : a = i
  · subst hi
    have hl : a < (aW ad cA S σ).length := by
      rw [aW, List.length_mapIdx]
      exact (List.getElem?_eq_some_iff.mp h).1
    have e1 : (fun (j : Nat) => if a = a then g j else σ a j) = g := by
      funext j
      simp
    rw [if_pos rfl, if_pos hl, aW_at h, e1, he]
  · rw [if_neg hi]
    simp only [aW, List.getElem?_mapIdx]
    have e1 : (fun (j : Nat) => if i = a then g j else σ i j) = σ i := by
      funext j
      rw [if_neg (fun q => hi q.symm)]
    rw [e1]
section AS
variable {p : Program} {l : Launch} {e : Env} {R : Room} {s : State} {m : MethodId} {args : Array Value} {below : List Frame} {meth : Method} {c : Code} {H : Heap} {locs : List Loc} {cells slots : Nat} {Q : State → Prop}
variable {X : aXt} {S : List aSh} {P : List aM} {M : aM} {ad : Nat → Nat} {cA : Nat → ClassId} {D : va_G} {tys : List (ClassId × FieldType)} {pc : Nat} {lv st : List Value} {σ : aSt} {ls : Array Slot} {z : aC}
/-- an array of arrays: what is read -/
theorem aS_aald {cc : ByteArray} {A : Nat → Prop} {ws : va_W} {a : Nat} {rest : List Value} (hexec : p.tables.exec = Jvm.exec) (hb : c.code = cc) (hK : va_K D vwCl tys s) (hP : va_P D vwCl ws H) (q0 t0 : Nat) {cB : ClassId} {n : Nat} {f : Nat → Option Nat} (ha : ws[q0]? = some (a, .inl (cB, n, .inr (.inr (.inr (.inr f)))))) (ht : tys[t0]? = some (cB, .array .int)) {i : Int32} (hin : vp_in i n) (hdg : decode cc pc = .ok (.aaload, 1))
    (kk : W p l e R s m args below meth c H locs cells slots Q (F0 m (pc + 1) ls (va_rf (f i.toNatClampNeg) :: rest))) : W p l e R s m args below meth c H locs cells slots Q (F0 m pc ls (.int i :: .ref a :: rest)) := by
  have hlt : i.toNatClampNeg < n := Nat.not_le.mp fun q => hin (Or.inr q)
  exact W.aald (v := va_rf (f i.toNatClampNeg)) (ty := .array .int) hexec hb (hP q0 _ ha) ((hK.2 t0 _ ht).1 n (fun j => va_rf (f j))) rfl (fun q => by cases q) (by show ¬ (i < 0 ∨ (arrV _ _ _).slots.size ≤ _); rw [arrV_size]; exact hin) (by show (arrV _ _ _).slots[_]? = _; exact arrV_read _ _ hlt) rfl rfl hdg kk
set_option maxHeartbeats 4000000 in
theorem aS_go2 {ins : Instr} {len : Nat} (hF : aFx M p s m c args) (hcl : aClC P (aCs M) = true) (hC : aCx X S ad cA D tys s.heap.size s) (hrm : 1 ≤ R.frames ∧ 60 ≤ R.locals ∧ cells ≤ R.cells ∧ slots ≤ R.slots) (hd : decode (aBy M) pc = .ok (ins, len)) (hn : len = aLn ins len) (hW : aWo S ad cA D s σ H locs) (hl : aLs ad ls (aML M) lv)
    (hq : match ins with
      | .iaload => True
      | .baload => True
      | .laload => True
      | .aaload => True
      | .iastore => True
      | .bastore => True
      | .lastore => True
      | .arraylength => True
      | .getfield _ => True
      | .getstatic _ => True
      | .invokestatic _ => True
      | .putfield _ => True
      | _ => False)
    (h : aIns X S M pc ins lv st σ = some (.inl z)) (kk : aKK p l e R s m args below meth c cells slots Q S M ad cA D z) : W p l e R s m args below meth c H locs cells slots Q (F0 m pc ls (st.map (aV ad))) := by
  obtain ⟨hx, hb, hml, hown, hts⟩ := hF
  obtain ⟨-, hK, hT, hI, hE, hZ, hN, -⟩ := hC
  obtain ⟨hP, hS⟩ := hW
  have hD : va_D (aA ad S s.heap.size) (aW ad cA S σ) := aW_D hI
  cases ins with
  | iaload =>
    rw [hn] at hd
    simp only [aIns] at h
    split at h
    · rename_i i a r
      split at h
      · rename_i v hv
        have e1 := aGo_inv h
        subst e1
        unfold aIld at hv
        split at hv
        · rename_i n hs
          split at hv
          · rename_i hin
            cases hv
            obtain ⟨t0, ht⟩ := hT a 0 n hs
            exact va_iald hx hb hK hP a t0 (aW_at hs) ht hin hd (kk H locs ls ⟨hP, hS⟩ hl)
          · cases hv
        · cases hv
        · rename_i hs
          split at hv
          · rename_i n f hX
            split at hv
            · rename_i hin
              cases hv
              exact va_ti hx hb (hE a n f hs hX) hS hin rfl hd (kk H locs ls ⟨hP, hS⟩ hl)
            · cases hv
          · cases hv
      · cases h
    · cases h
  | arraylength =>
    rw [hn] at hd
    simp only [aIns] at h
    split at h
    · rename_i a r
      split at h
      · rename_i v hv
        have e1 := aGo_inv h
        subst e1
        unfold aLen at hv
        split at hv
        · rename_i t n hs
          cases hv
          obtain ⟨t0, ht⟩ := hT a t n hs
          exact va_alen hx hb hK hP a t0 (aW_at hs) ht rfl hd (kk H locs ls ⟨hP, hS⟩ hl)
        · cases hv
        · rename_i hs
          split at hv
          · rename_i n f hX
            cases hv
            exact va_tlen hx hb (hE a n f hs hX) hS rfl hd (kk H locs ls ⟨hP, hS⟩ hl)
          · cases hv
      · cases h
    · cases h
  | baload =>
    rw [hn] at hd
    simp only [aIns] at h
    split at h
    · rename_i i a r
      split at h
      · rename_i t n hs
        split at h
        · rename_i hin
          have e1 := aGo_inv h
          subst e1
          obtain ⟨ht1, hin⟩ := hin
          obtain ⟨t0, ht⟩ := hT a t n hs
          rcases ht1 with rfl | rfl
          · exact va_bald hx hb hK hP a t0 (aW_at hs) ht hin hd (kk H locs ls ⟨hP, hS⟩ hl)
          · exact va_zald hx hb hK hP a t0 (aW_at hs) ht hin hd (kk H locs ls ⟨hP, hS⟩ hl)
        · cases h
      · cases h
    · cases h
  | laload =>
    rw [hn] at hd
    simp only [aIns] at h
    split at h
    · rename_i i a r
      split at h
      · rename_i t n hs
        split at h
        · rename_i hin
          have e1 := aGo_inv h
          subst e1
          obtain ⟨rfl, hin⟩ := hin
          obtain ⟨t0, ht⟩ := hT a 3 n hs
          exact va_lald hx hb hK hP a t0 (aW_at hs) ht hin hd (kk H locs ls ⟨hP, hS⟩ hl)
        · cases h
      · cases h
    · cases h
  | aaload =>
    rw [hn] at hd
    simp only [aIns] at h
    split at h
    · rename_i i a r
      split at h
      · rename_i t n hs
        split at h
        · rename_i hin
          obtain ⟨rfl, hin⟩ := hin
          split at h
          · rename_i b hb2
            have e1 := aGo_inv h
            subst e1
            obtain ⟨t0, ht⟩ := hT a 4 n hs
            refine aS_aald (A := aA ad S s.heap.size) hx hb hK hP a t0 (aW_at hs) ht hin hd ?_
            have := kk H locs ls ⟨hP, hS⟩ hl
            simp only [aRf, hb2]
            exact this
          · cases h
        · cases h
      · cases h
    · cases h
  | iastore =>
    rw [hn] at hd
    simp only [aIns] at h
    split at h
    · rename_i x i a r
      split at h
      · rename_i t n hs
        split at h
        · rename_i hin
          have e1 := aGo_inv h
          subst e1
          obtain ⟨rfl, hin⟩ := hin
          obtain ⟨t0, ht⟩ := hT a 0 n hs
          refine va_iast hx hb hK hP hD hS a t0 (aW_at hs) ht hin hd (fun H1 locs1 hP1 hD1 hS1 => kk H1 locs1 ls ⟨?_, hS1⟩ hl)
          have e2 := aW_up (ad := ad) (cA := cA) (σ := σ) (k := i.toNatClampNeg) (v := .int x) (e := .inl (cA a, n, .inl (upd (fun j => aI (σ a j)) i.toNatClampNeg x))) hs (by
            show va_E_i (cA a) n _ = _
            unfold va_E_i
            congr 4
            funext j
            by_cases ej : j = i.toNatClampNeg
            · simp [upd, ej, aI]
            · simp [upd, ej])
          exact e2 ▸ hP1
        · cases h
      · cases h
    · cases h
  | bastore =>
    rw [hn] at hd
    simp only [aIns] at h
    split at h
    · rename_i x i a r
      split at h
      · rename_i t n hs
        split at h
        · rename_i hin
          have e1 := aGo_inv h
          subst e1
          obtain ⟨ht1, hin⟩ := hin
          obtain ⟨t0, ht⟩ := hT a t n hs
          rcases ht1 with rfl | rfl
          · refine va_bast hx hb hK hP hD hS a t0 (aW_at hs) ht hin hd (fun H1 locs1 hP1 hD1 hS1 => kk H1 locs1 ls ⟨?_, hS1⟩ hl)
            have e2 := aW_up (ad := ad) (cA := cA) (σ := σ) (k := i.toNatClampNeg) (v := .int (vp_nar .byte x)) (e := .inl (cA a, n, .inl (upd (fun j => aI (σ a j)) i.toNatClampNeg (vp_nar .byte x)))) hs (by
              show va_E_i (cA a) n _ = _
              unfold va_E_i
              congr 4
              funext j
              by_cases ej : j = i.toNatClampNeg
              · simp [upd, ej, aI]
              · simp [upd, ej])
            exact e2 ▸ hP1
          · refine va_zast hx hb hK hP hD hS a t0 (aW_at hs) ht hin hd (fun H1 locs1 hP1 hD1 hS1 => kk H1 locs1 ls ⟨?_, hS1⟩ hl)
            have e2 := aW_up (ad := ad) (cA := cA) (σ := σ) (k := i.toNatClampNeg) (v := .int (vp_nar .boolean x)) (e := .inl (cA a, n, .inl (upd (fun j => aI (σ a j)) i.toNatClampNeg (vp_nar .boolean x)))) hs (by
              show va_E_i (cA a) n _ = _
              unfold va_E_i
              congr 4
              funext j
              by_cases ej : j = i.toNatClampNeg
              · simp [upd, ej, aI]
              · simp [upd, ej])
            exact e2 ▸ hP1
        · cases h
      · cases h
    · cases h
  | lastore =>
    rw [hn] at hd
    simp only [aIns] at h
    split at h
    · rename_i x i a r
      split at h
      · rename_i t n hs
        split at h
        · rename_i hin
          have e1 := aGo_inv h
          subst e1
          obtain ⟨rfl, hin⟩ := hin
          obtain ⟨t0, ht⟩ := hT a 3 n hs
          refine va_last hx hb hK hP hD hS a t0 (aW_at hs) ht hin hd (fun H1 locs1 hP1 hD1 hS1 => kk H1 locs1 ls ⟨?_, hS1⟩ hl)
          have e2 := aW_up (ad := ad) (cA := cA) (σ := σ) (k := i.toNatClampNeg) (v := .long x) (e := .inl (cA a, n, .inr (.inl (vp_updL (fun j => aJ (σ a j)) i.toNatClampNeg x)))) hs (by
            show va_E_l (cA a) n _ = _
            unfold va_E_l
            congr 5
            funext j
            by_cases ej : j = i.toNatClampNeg
            · simp [vp_updL, ej, aJ]
            · simp [vp_updL, ej])
          exact e2 ▸ hP1
        · cases h
      · cases h
    · cases h
  | getstatic i =>
    rw [hn] at hd
    simp only [aIns] at h
    split at h
    · rename_i a w hv
      obtain ⟨hlt, h⟩ := aGd_inv h
      have e1 := aGo_inv h
      subst e1
      have hk : aKC (aOwn M) (i, .ref a, w) = true := by
        simp only [aClC, Bool.and_eq_true] at hcl
        exact List.all_eq_true.mp hcl.2.2 _ (aFd_mem hv)
      simp only [aKC] at hk
      rw [aStr_no (Nat.blt_eq.mp hlt)] at hk
      simp only at hk
      split at hk
      · rename_i C n d hst
        have hz := hZ _ (aFd_mem hst)
        rw [Bool.or_eq_true, decide_eq_true_eq] at hk
        rcases hk with hk | hk
        · exact va_gets hx hb hz hS hown (hts _ (aWd_mem hk)) (fun _ q => q) hd (kk H locs ls ⟨hP, hS⟩ hl)
        · exact va_getsN hx hb hz hS hown (va_tabs rfl rfl (hN _ hk)) (fun _ q => q) hd (kk H locs ls ⟨hP, hS⟩ hl)
      · cases hk
    · cases h
  | getfield i =>
    rw [hn] at hd
    simp only [aIns] at h
    split at h
    · rename_i a r
      split at h
      · rename_i ci k kd w hf
        split at h
        · rename_i cj hs
          split at h
          · rename_i hcj
            have hcj := Nat.eq_of_beq_eq_true hcj
            subst hcj
            have e1 := aGo_inv h
            subst e1
            obtain ⟨C, T, N, hc, hk, hlink, -⟩ := aFC_inv (aCl_fld hcl hf)
            exact va_get hx hb hts (aUws_in hc) hown hK hP a (aW_at hs) hc k hk (hts _ hlink) (fun _ q => q) (by rw [aNf_of hc]; exact aFs_get hk) hd (kk H locs ls ⟨hP, hS⟩ hl)
          · cases h
        · cases h
      · cases h
    · cases h
  | putfield i =>
    rw [hn] at hd
    simp only [aIns] at h
    split at h
    · rename_i v a r
      split at h
      · rename_i ci k kd w hf
        split at h
        · rename_i cj hs
          split at h
          · rename_i hcj
            rw [Bool.and_eq_true] at hcj
            obtain ⟨hcj, hok⟩ := hcj
            have hcj := Nat.eq_of_beq_eq_true hcj
            subst hcj
            have e1 := aGo_inv h
            subst e1
            obtain ⟨C, T, N, hc, hk, hlink, hkd⟩ := aFC_inv (aCl_fld hcl hf)
            obtain ⟨ty0, hty, hnm⟩ := aNmX hc
            obtain ⟨hfin, ty, hpd, hnar, hfit⟩ := aOk_narrow (ad := ad) hkd hok
            refine va_put hx hb hts (aUws_in hc) ty0 hty hnm hown hK hP hD hS a (aW_at hs) hc k hk (hts _ hlink) (fun _ q => q) hfin hpd hnar hfit (by rw [aNf_of hc, List.length_map, List.length_range]; exact hk) hd (fun H1 locs1 hP1 hD1 hS1 => kk H1 locs1 ls ⟨?_, hS1⟩ hl)
            have e2 := aW_up (ad := ad) (cA := cA) (σ := σ) (k := k) (v := v) (e := .inr (ci, ((List.range (aNf ci)).map (fun k => aV ad (σ a k))).set k (aV ad v))) hs (by
              rw [aE_obj, aFs_set])
            exact e2 ▸ hP1
          · cases h
        · cases h
      · cases h
    · cases h
  | invokestatic i =>
    rw [hn] at hd
    simp only [aIns] at h
    split at h
    · rename_i kd K n w hf
      split at h
      · rename_i hk
        have hk := Nat.eq_of_beq_eq_true hk
        subst hk
        have hcc : aPC (aOwn M) (i, 0, K, n, w) = true := by
          simp only [aClC, Bool.and_eq_true] at hcl
          exact List.all_eq_true.mp hcl.2.1 _ (aFd_mem hf)
        have hsz : c.maxLocals = ls.size := by rw [hml]; exact hl.1.symm
        unfold aPrim at h
        split at h
        · split at h
          · rename_i y x r
            obtain ⟨hr, h⟩ := aGd_inv h
            have e1 := aGo_inv h
            subst e1
            simp only [aPC, Bool.and_eq_true] at hcc
            exact va_mmax hx hb hsz hown (hts _ (aWd_mem hcc.1.1)) (hts _ (aWd_mem hcc.1.2)) (hts _ (aWd_mem hcc.2.2)) (hts _ (aWd_mem hcc.2.1)) hrm.1 (by rw [aCat_sum]; have := Nat.le_of_ble_eq_true hr; omega) hrm.2.2.1 hrm.2.2.2 hd (kk H locs ls ⟨hP, hS⟩ hl)
          · cases h
        · split at h
          · rename_i y x r
            obtain ⟨hr, h⟩ := aGd_inv h
            have e1 := aGo_inv h
            subst e1
            simp only [aPC, Bool.and_eq_true] at hcc
            exact va_mmin hx hb hsz hown (hts _ (aWd_mem hcc.1.1)) (hts _ (aWd_mem hcc.1.2)) (hts _ (aWd_mem hcc.2.2)) (hts _ (aWd_mem hcc.2.1)) hrm.1 (by rw [aCat_sum]; have := Nat.le_of_ble_eq_true hr; omega) hrm.2.2.1 hrm.2.2.2 hd (kk H locs ls ⟨hP, hS⟩ hl)
          · cases h
        · split at h
          · rename_i y x r
            obtain ⟨hr, h⟩ := aGd_inv h
            have e1 := aGo_inv h
            subst e1
            simp only [aPC, Bool.and_eq_true] at hcc
            exact va_mmax_long hx hb hsz hown (hts _ (aWd_mem hcc.1.1)) (hts _ (aWd_mem hcc.1.2)) (hts _ (aWd_mem hcc.2.2)) (hts _ (aWd_mem hcc.2.1)) hrm.1 (by rw [aCat_sum]; have := Nat.le_of_ble_eq_true hr; omega) hrm.2.2.1 hrm.2.2.2 hd (kk H locs ls ⟨hP, hS⟩ hl)
          · cases h
        · split at h
          · rename_i y x r
            obtain ⟨hr, h⟩ := aGd_inv h
            have e1 := aGo_inv h
            subst e1
            simp only [aPC, Bool.and_eq_true] at hcc
            exact va_mmin_long hx hb hsz hown (hts _ (aWd_mem hcc.1.1)) (hts _ (aWd_mem hcc.1.2)) (hts _ (aWd_mem hcc.2.2)) (hts _ (aWd_mem hcc.2.1)) hrm.1 (by rw [aCat_sum]; have := Nat.le_of_ble_eq_true hr; omega) hrm.2.2.1 hrm.2.2.2 hd (kk H locs ls ⟨hP, hS⟩ hl)
          · cases h
        · split at h
          · rename_i n dp a1 sp a0 r
            split at h
            · rename_i n0 n1 hs0 hs1
              split at h
              · rename_i hin
                obtain ⟨hr, h⟩ := aGd_inv h
                have e1 := aGo_inv h
                subst e1
                simp only [aPC, Bool.and_eq_true] at hcc
                obtain ⟨t0, ht0⟩ := hT a0 0 n0 hs0
                obtain ⟨t1, ht1⟩ := hT a1 0 n1 hs1
                refine va_copyi hx hb hsz hown (hts _ (aWd_mem hcc.1.1)) (hts _ (aWd_mem hcc.2.1)) (hts _ (aWd_mem hcc.1.2)) (hts _ (aWd_mem hcc.2.2)) hK hP hD hS a0 a1 t0 t1 (aW_at hs0) (aW_at hs1) ht0 ht1 rfl hin.1.1 hin.1.2.1 hin.1.2.2 hin.2.1 hin.2.2 (fun _ _ => rfl) hrm.1 (by rw [aCat_sum]; have := aNfw; have := Nat.le_of_ble_eq_true hr; omega) hd (fun H1 locs1 hP1 hD1 hS1 => kk H1 locs1 ls ⟨?_, hS1⟩ hl)
                have e2 := aW_upF (ad := ad) (cA := cA) (σ := σ) (a := a1) (g := fun j => if dp.toNatClampNeg ≤ j ∧ j < dp.toNatClampNeg + n.toNatClampNeg then σ a0 (sp.toNatClampNeg + (j - dp.toNatClampNeg)) else σ a1 j) (e := .inl (cA a1, n1, .inl (va_cpy (fun j => aI (σ a0 j)) (fun j => aI (σ a1 j)) sp.toNatClampNeg dp.toNatClampNeg n.toNatClampNeg))) hs1 (by
                  show va_E_i (cA a1) n1 _ = _
                  unfold va_E_i
                  congr 4
                  funext j
                  by_cases ej : dp.toNatClampNeg ≤ j ∧ j < dp.toNatClampNeg + n.toNatClampNeg
                  · simp [va_cpy, ej]
                  · simp only [va_cpy, if_neg ej])
                have e3 : (fun b j => if b = a1 then (if dp.toNatClampNeg ≤ j ∧ j < dp.toNatClampNeg + n.toNatClampNeg then σ a0 (sp.toNatClampNeg + (j - dp.toNatClampNeg)) else σ b j) else σ b j) = (fun b j => if b = a1 then (if dp.toNatClampNeg ≤ j ∧ j < dp.toNatClampNeg + n.toNatClampNeg then σ a0 (sp.toNatClampNeg + (j - dp.toNatClampNeg)) else σ a1 j) else σ b j) := by
                  funext b j
                  by_cases eb : b = a1
                  · simp [eb]
                  · simp [eb]
                show va_P D vwCl (aW ad cA S (fun b j => if b = a1 then (if dp.toNatClampNeg ≤ j ∧ j < dp.toNatClampNeg + n.toNatClampNeg then σ a0 (sp.toNatClampNeg + (j - dp.toNatClampNeg)) else σ b j) else σ b j)) H1
                rw [e3]
                exact e2 ▸ hP1
              · cases h
            · cases h
          · cases h
        · cases h
      · split at h
        · split at h
          · cases h
          · cases h
        · cases h
    · cases h
  | _ => exact hq.elim
end AS
end
section
/-! SOUNDNESS of returns, calls, and of a whole run -/
theorem aIf_no {P : Int32 → Prop} {dec : ∀ x, Decidable (P x)} {pc : Nat} {off : Int} {lv st : List Value} {σ : aSt} {y : (Option Value × aSt) ⊕ (Nat × List Value × aC)} (h : aIf P dec pc off lv st σ = some (.inr y)) : False := by
  unfold aIf at h
  simp only [aGo] at h
  repeat' (split at h)
  all_goals cases h
theorem aIc_no {P : Int32 → Int32 → Prop} {dec : ∀ x y, Decidable (P x y)} {pc : Nat} {off : Int} {lv st : List Value} {σ : aSt} {y : (Option Value × aSt) ⊕ (Nat × List Value × aC)} (h : aIc P dec pc off lv st σ = some (.inr y)) : False := by
  unfold aIc at h
  simp only [aGo] at h
  repeat' (split at h)
  all_goals cases h
theorem aIns_kind {X : aXt} {S : List aSh} {M : aM} {pc : Nat} {ins : Instr} {lv st : List Value} {σ : aSt} {y : (Option Value × aSt) ⊕ (Nat × List Value × aC)} (h : aIns X S M pc ins lv st σ = some (.inr y)) : ins = .ireturn ∨ ins = .lreturn ∨ ins = .return_ ∨ (∃ i, ins = .invokestatic i) ∨ ∃ i, ins = .invokevirtual i := by
  cases ins with
  | ireturn => exact Or.inl rfl
  | lreturn => exact Or.inr (Or.inl rfl)
  | return_ => exact Or.inr (Or.inr (Or.inl rfl))
  | invokestatic i => exact Or.inr (Or.inr (Or.inr (Or.inl ⟨i, rfl⟩)))
  | invokevirtual i => exact Or.inr (Or.inr (Or.inr (Or.inr ⟨i, rfl⟩)))
  | ifCond cd off =>
    exfalso
    cases cd <;> exact aIf_no h
  | if_icmp cd off =>
    exfalso
    cases cd <;> exact aIc_no h
  | _ =>
    exfalso
    simp only [aIns, aGo, aGd, aJp, aPut1, aPut2, aLdI, aLdL, aLdR, aStI, aStL, aStR, aII, aLL, aLI, aI1, aL1, aIID, aLLD] at h
    repeat' (split at h)
    all_goals cases h
theorem aTk_spec : ∀ (n : Nat) (acc st as r : List Value), aTk n acc st = some (as, r) → ∃ t, t.length = n ∧ st = t ++ r ∧ as = t.reverse ++ acc := by
  intro n
  induction n with
  | zero =>
    intro acc st as r h
    cases h
    exact ⟨[], rfl, rfl, rfl⟩
  | succ n ih =>
    intro acc st as r h
    cases st with
    | nil => cases h
    | cons v st =>
      obtain ⟨t, h1, h2, h3⟩ := ih (v :: acc) st as r h
      exact ⟨v :: t, by rw [List.length_cons, h1], by rw [h2]; rfl, by rw [h3]; simp⟩
theorem aTk0 {n : Nat} {st as r : List Value} (h : aTk n [] st = some (as, r)) : as.length = n ∧ st = as.reverse ++ r := by
  obtain ⟨t, h1, h2, h3⟩ := aTk_spec n [] st as r h
  rw [List.append_nil] at h3
  subst h3
  exact ⟨by rw [List.length_reverse, h1], by rw [List.reverse_reverse]; exact h2⟩
theorem aArg_mem (ad : Nat → Nat) : ∀ (as : List Value) (k i : Nat) (v : Value), (aArg as)[i]? = some v → v ≠ .null → (k + i, aV ad v) ∈ lv_args k (as.map (aV ad)) := by
  intro as
  induction as with
  | nil => intro k i v h; simp [aArg] at h
  | cons u r ih =>
    intro k i v h hv
    simp only [aArg] at h
    rw [List.map_cons, lv_args]
    split at h
    · rename_i hc
      have hc : u.category = 2 := by simpa using hc
      rw [aV_cat, if_pos hc]
      match i, h with
      | 0, h => cases h; exact List.mem_cons_self
      | 1, h => cases h; exact absurd rfl hv
      | i + 2, h =>
        have := ih (k + 2) i v (by simpa using h) hv
        exact List.mem_cons_of_mem _ (by rw [show k + (i + 2) = k + 2 + i by omega]; exact this)
    · rename_i hc
      have hc : ¬ u.category = 2 := by simpa using hc
      rw [aV_cat, if_neg hc]
      match i, h with
      | 0, h => cases h; exact List.mem_cons_self
      | i + 1, h =>
        have := ih (k + 1) i v (by simpa using h) hv
        exact List.mem_cons_of_mem _ (by rw [show k + (i + 1) = k + 1 + i by omega]; exact this)
theorem aArg_len (ad : Nat → Nat) : ∀ as : List Value, (lg_sl (as.map (aV ad))).length = (aArg as).length := by
  intro as
  induction as with
  | nil => rfl
  | cons u r ih =>
    simp only [lg_sl, List.map_cons, List.flatMap_cons, List.length_append, aArg]
    simp only [lg_sl] at ih
    rw [ih, aV_cat]
    rcases lv_cat u with h | h
    · simp [h]; omega
    · simp [h]; omega
theorem aLs_ent {ad : Nat → Nat} {M : aM} {as : List Value} {ls : Array Slot} (hle : (aArg as).length ≤ aML M) (h : lv_has ls (aML M) (lv_args 0 (as.map (aV ad)))) : aLs ad ls (aML M) (aEnt M as) := by
  refine ⟨h.1, h.2.1, ?_, fun i v hi hv => ?_⟩
  · rw [aEnt, List.length_append, List.length_replicate]
    omega
  · have hm : (aArg as)[i]? = some v := by
      rw [aEnt] at hi
      by_cases hlt : i < (aArg as).length
      · rw [List.getElem?_append_left hlt] at hi
        exact hi
      · rw [List.getElem?_append_right (by omega)] at hi
        rw [List.getElem?_replicate] at hi
        split at hi
        · cases hi; exact absurd rfl hv
        · cases hi
    have := aArg_mem ad as 0 i v hm hv
    rw [Nat.zero_add] at this
    exact h.2.2 _ this
/-- a method's words, its room at a depth, its end -/
def aWs (M : aM) : List Cond := Cond.code (aY M) (aBy M) (aML M) (aRt M) :: aTB
def aRm (d : Nat) : Room := { frames := d + 6, cells := 0, slots := 0, locals := 41 * (d + 6) }
def aQc (S : List aSh) (ad : Nat → Nat) (cA : Nat → ClassId) (D : va_G) (v : Option Value) (σ' : aSt) (A : Nat → Prop) : Array Value → State → Outcome → State → Prop :=
  fun _ st o t => o = .returned (v.map (aV ad)) ∧ va_P D vwCl (aW ad cA S σ') t.heap ∧ va_F A st t
def aPre (X : aXt) (S : List aSh) (ad : Nat → Nat) (cA : Nat → ClassId) (D : va_G) (tys : List (ClassId × FieldType)) (sz : Nat) (as : List Value) (σ : aSt) : Array Value → State → Prop :=
  va_Pc (as.map (aV ad)) (fun U => va_P D vwCl (aW ad cA S σ) U.heap ∧ aCx X S ad cA D tys sz U)
def aMet (X : aXt) (S : List aSh) (l : Launch) (d : Nat) (M : aM) (as : List Value) (σ : aSt) (v : Option Value) (σ' : aSt) : Prop :=
  ∀ (D : va_G) (ad : Nat → Nat) (cA : Nat → ClassId) (tys : List (ClassId × FieldType)) (sz : Nat), Met l (aY M) (aWs M) (aRm d) (aPre X S ad cA D tys sz as σ) (aQc S ad cA D v σ' (aA ad S sz)) 0 0 (aA ad S sz)
theorem aCx.moved {X : aXt} {S : List aSh} {ad : Nat → Nat} {cA : Nat → ClassId} {D : va_G} {tys : List (ClassId × FieldType)} {sz : Nat} {s U : State} {locs : List Loc} (hC : aCx X S ad cA D tys sz s) (hS : va_S (aA ad S sz) s.heap U.heap locs) (hW : s.WarmedH U.vm) : aCx X S ad cA D tys U.heap.size U := by
  obtain ⟨hsz, hK, hT, hI, hE, hZ, hN, hR⟩ := hC
  have hle : sz ≤ U.heap.size := by rw [← hsz]; exact hS.1
  have hAB : ∀ q, q < U.heap.size → aA ad S U.heap.size q → aA ad S sz q := fun q hq h => h.elim Or.inl (fun h => absurd h (by omega))
  have hkeep : ∀ a : Nat, a < s.heap.size → ¬ aA ad S sz a → U.heap[a]? = s.heap[a]? := hS.2.1
  refine ⟨rfl, va_K.moved hW.alike hK, hT, hI, fun a n f hs hX => ?_, fun q hq => ?_, fun w hw => ?_, fun q hq => vk_R.warm hW (hR q hq)⟩
  · have h1 := (va_T.moved hW.alike (hE a n f hs hX)).kept hkeep
    obtain ⟨cell, e1, e2, e3, e4, e5, e6, e7⟩ := h1
    exact ⟨cell, e1, e2, e3, e4, e5, e6, fun z => e7 (hAB _ (Array.getElem?_eq_some_iff.mp e1).1 z)⟩
  · have h1 := (va_Z.moved hW.alike (hZ q hq)).kept hkeep
    obtain ⟨cf, kf, fi, f, a, cell, h1, h2, h3, h4, h5, h6, h7, h8⟩ := h1
    exact ⟨cf, kf, fi, f, a, cell, h1, h2, h3, h4, h5, h6, h7, fun z => h8 (hAB _ (Array.getElem?_eq_some_iff.mp h5).1 z)⟩
  · have := hN w hw
    simp only [aNest, List.mem_cons, List.not_mem_nil, or_false] at hw
    rcases hw with rfl | rfl
    · exact va_Nw.warmF hW this
    · exact va_Nw.warmF hW this
theorem aCx.blind {X : aXt} {S : List aSh} {ad : Nat → Nat} {cA : Nat → ClassId} {D : va_G} {tys : List (ClassId × FieldType)} {sz : Nat} {U V : State} (hh : V.heap = U.heap) (hv : V.vm = U.vm) (hC : aCx X S ad cA D tys sz U) : aCx X S ad cA D tys sz V := by
  obtain ⟨hsz, hK, hT, hI, hE, hZ, hN, hR⟩ := hC
  have ha : U.vm.Alike V.vm := by rw [hv]; exact Vm.Alike.refl U.vm
  refine ⟨by rw [hh]; exact hsz, va_K.moved ha hK, hT, hI, fun a n f hs hX => ?_, fun q hq => ?_, fun w hw => ?_, fun q hq => vk_R.same hv (hR q hq)⟩
  · rw [hh]; exact va_T.moved ha (hE a n f hs hX)
  · rw [hh]; exact va_Z.moved ha (hZ q hq)
  · have := hN w hw
    simp only [aNest, List.mem_cons, List.not_mem_nil, or_false] at hw
    rcases hw with rfl | rfl
    · exact va_Nw.same rfl hv.symm this
    · exact va_Nw.same rfl hv.symm this
theorem aPre_blind {X : aXt} {S : List aSh} {ad : Nat → Nat} {cA : Nat → ClassId} {D : va_G} {tys : List (ClassId × FieldType)} {sz : Nat} {as : List Value} {σ : aSt} : FrameBlind (aPre X S ad cA D tys sz as σ) := by
  intro a U g mk q
  obtain ⟨q0, qP, qC⟩ := q
  exact ⟨q0, qP, aCx.blind (U := U) (V := U.calling g mk a) rfl rfl qC⟩
theorem aGoodIn (M : aM) (h : Cond.code (aY M) (aBy M) (aML M) (aRt M) ∈ aTB) : GoodIn aTB (aWs M) := by
  intro w hw
  have hm : w ∈ aTB := by
    rcases List.mem_cons.mp hw with rfl | hw
    · exact h
    · exact hw
  exact ⟨hm, good_of_word (List.mem_filter.mp hm).2⟩
section AS
variable {p : Program} {l : Launch} {e : Env} {R : Room} {s : State} {m : MethodId} {args : Array Value} {below : List Frame} {meth : Method} {c : Code} {H : Heap} {locs : List Loc} {cells slots : Nat} {Q : State → Prop}
variable {X : aXt} {S : List aSh} {P : List aM} {M : aM} {ad : Nat → Nat} {cA : Nat → ClassId} {D : va_G} {tys : List (ClassId × FieldType)} {pc : Nat} {lv st : List Value} {σ : aSt} {ls : Array Slot} {z : aC}
theorem aS_go {ins : Instr} {len : Nat} (hF : aFx M p s m c args) (hcl : aClC P (aCs M) = true) (hso : aStrOK (aCs M) = true) (hC : aCx X S ad cA D tys s.heap.size s) (hrm : 1 ≤ R.frames ∧ 60 ≤ R.locals ∧ cells ≤ R.cells ∧ slots ≤ R.slots) (hd : decode (aBy M) pc = .ok (ins, len)) (hn : len = aLn ins len) (hW : aWo S ad cA D s σ H locs) (hl : aLs ad ls (aML M) lv)
    (h : aIns X S M pc ins lv st σ = some (.inl z)) (kk : aKK p l e R s m args below meth c cells slots Q S M ad cA D z) : W p l e R s m args below meth c H locs cells slots Q (F0 m pc ls (st.map (aV ad))) := by
  cases ins with
  | iaload => exact aS_go2 hF hcl hC hrm hd hn hW hl trivial h kk
  | baload => exact aS_go2 hF hcl hC hrm hd hn hW hl trivial h kk
  | laload => exact aS_go2 hF hcl hC hrm hd hn hW hl trivial h kk
  | aaload => exact aS_go2 hF hcl hC hrm hd hn hW hl trivial h kk
  | iastore => exact aS_go2 hF hcl hC hrm hd hn hW hl trivial h kk
  | bastore => exact aS_go2 hF hcl hC hrm hd hn hW hl trivial h kk
  | lastore => exact aS_go2 hF hcl hC hrm hd hn hW hl trivial h kk
  | arraylength => exact aS_go2 hF hcl hC hrm hd hn hW hl trivial h kk
  | getfield _ => exact aS_go2 hF hcl hC hrm hd hn hW hl trivial h kk
  | putfield _ => exact aS_go2 hF hcl hC hrm hd hn hW hl trivial h kk
  | getstatic _ => exact aS_go2 hF hcl hC hrm hd hn hW hl trivial h kk
  | invokestatic _ => exact aS_go2 hF hcl hC hrm hd hn hW hl trivial h kk
  | _ => exact aS_go1 hF hcl hso hC.2.2.2.2.2.2.2 hd hn hW hl trivial h kk
theorem aS_ret {ins : Instr} {len : Nat} {v : Option Value} {σ' : aSt} {Qc : Array Value → State → Outcome → State → Prop} {free : Addr → Prop} (hF : aFx M p s m c args) (hr : meth.sig.returnType = aRt M) (hlocks : meth.locks = false) (hd : decode (aBy M) pc = .ok (ins, len)) (hn : len = aLn ins len)
    (h : aIns X S M pc ins lv st σ = some (.inr (.inl (v, σ')))) (hq : σ' = σ → ∀ t : State, t.heap = H → s.WarmedH t.vm → Qc args s (.returned (v.map (aV ad))) t) (hf : ∀ q ∈ locs, free q.base) : W p l e R s m args below meth c H locs cells slots (MQ below Qc args s cells slots free) (F0 m pc ls (st.map (aV ad))) := by
  obtain ⟨hx, hb, hml, hown, hts⟩ := hF
  rcases aIns_kind h with rfl | rfl | rfl | ⟨i, rfl⟩ | ⟨i, rfl⟩
  · rw [hn] at hd
    simp only [aIns] at h
    split at h
    · rename_i x
      split at h
      · rename_i hrt
        cases h
        exact W.zret (v := x) (ty := .int) hx hb (by rw [hr, hrt]) rfl (hq rfl) hf hd hlocks
      · rename_i hrt
        split at h
        · rename_i hx01
          cases h
          refine W.zret (v := x) (ty := .boolean) hx hb (by rw [hr, hrt]) ?_ (hq rfl) hf hd hlocks
          rcases hx01 with rfl | rfl
          · decide
          · decide
        · cases h
      · cases h
    · cases h
  · rw [hn] at hd
    simp only [aIns] at h
    split at h
    · rename_i x
      split at h
      · rename_i hrt
        cases h
        exact W.lret (v := x) hx hb (by rw [hr, hrt]) (hq rfl) hf hd hlocks
      · cases h
    · cases h
  · rw [hn] at hd
    simp only [aIns] at h
    split at h
    · rename_i hrt
      cases h
      exact W.vret hx hb (by rw [hr, hrt]) (hq rfl) hf hd hlocks
    · cases h
  · exfalso
    simp only [aIns, aPrim, aGd, aGo] at h
    repeat' (split at h)
    all_goals cases h
  · exfalso
    simp only [aIns] at h
    repeat' (split at h)
    all_goals cases h
end AS
end
section
/-! SOUNDNESS of calls, and of a whole run: what the abstract machine comes to, the JVM comes to -/
theorem aCC_inv {P : List aM} {own : String} {i kd K n : Nat} {w : Nat × Nat × Nat × Nat} {M' : aM} (h : aCC P own (i, kd, K, n, w) = true) (hk : kd ≠ 0) (hK : P[K]? = some M') :
    Cond.methodLink own i (aY M') ∈ aTB ∧ Cond.initialized (aY M').cls ∈ aTB ∧ ((aY M').cls ≠ "java/lang/invoke/MethodHandle" ∧ (aY M').cls ≠ "java/lang/invoke/VarHandle" ∧ (parseMethodDescriptor (aY M').desc).map (fun d => d.parameters.length) = some n) ∧
    ((kd = 1 ∧ Cond.static (aY M') ∈ aTB) ∨ ∃ (ci : Nat) (r : vw_C), kd = ci + 2 ∧ vwCl[ci]? = some r ∧ r.1 = (aY M').cls ∧ Cond.instanceMethod (aY M') ∈ aTB ∧ Cond.selects (aY M').cls (aY M') (aY M') ∈ aTB) := by
  unfold aCC at h
  split at h
  · rename_i hb
    exact absurd (Nat.eq_of_beq_eq_true hb) hk
  · rw [hK] at h
    simp only [Bool.and_eq_true, decide_eq_true_eq] at h
    obtain ⟨⟨⟨h1, h2⟩, h3, h4, h5⟩, h6⟩ := h
    refine ⟨aWd_mem h1, aWd_mem h2, ⟨h3, h4, h5⟩, ?_⟩
    match kd, hk, h6 with
    | 0, hk, _ => exact absurd rfl hk
    | 1, _, h6 => exact Or.inl ⟨rfl, aWd_mem h6⟩
    | ci + 2, _, h6 =>
      simp only at h6
      split at h6
      · rename_i r hr
        simp only [Bool.and_eq_true, decide_eq_true_eq] at h6
        exact Or.inr ⟨ci, r, rfl, hr, h6.1, aWd_mem h6.2.1, aWd_mem h6.2.2⟩
      · cases h6
theorem aMap_toList (ad : Nat → Nat) (v : Option Value) (r : List Value) : (v.map (aV ad)).toList ++ r.map (aV ad) = (v.toList ++ r).map (aV ad) := by
  cases v <;> rfl
section AS
variable {p : Program} {l : Launch} {e : Env} {R : Room} {s : State} {m : MethodId} {args : Array Value} {below : List Frame} {meth : Method} {c : Code} {H : Heap} {locs : List Loc} {cells slots : Nat} {Q : State → Prop}
variable {X : aXt} {S : List aSh} {P : List aM} {M : aM} {ad : Nat → Nat} {cA : Nat → ClassId} {D : va_G} {tys : List (ClassId × FieldType)} {pc : Nat} {lv st : List Value} {σ : aSt} {ls : Array Slot} {z : aC}
/-- behind a call -/
theorem aW_run {st0 r : List Value} {v : Option Value} {σ2 : aSt} (hC : aCx X S ad cA D tys s.heap.size s) (hS : va_S (aA ad S s.heap.size) s.heap H locs) (hl : aLs ad ls (aML M) lv)
    (hr : va_Run p l e R s m args below meth c H locs cells slots 0 0 (F0 m pc ls st0) (r.map (aV ad)) (fun st o t => o = .returned (v.map (aV ad)) ∧ va_P D vwCl (aW ad cA S σ2) t.heap ∧ va_F (aA ad S H.size) st t) (aA ad S H.size))
    (kk : aKK p l e R s m args below meth c cells slots Q S M ad cA D (pc + 3, lv, v.toList ++ r, σ2)) : W p l e R s m args below meth c H locs cells slots Q (F0 m pc ls st0) := by
  intro T hT X0
  obtain ⟨v', st₀, t, T', L, h0, X', hL, e1, e2, ⟨hv, hP, hz, hk⟩, st⟩ := hr T hT X0
  cases hv
  rw [h0] at hz hk
  have hA : ∀ q, q < H.size → aA ad S H.size q → aA ad S s.heap.size q := fun q hq h => h.elim Or.inl (fun h => absurd h (by omega))
  obtain ⟨t2, a1, b1⟩ := kk T'.heap (locs ++ L) ls ⟨by rw [e1]; exact hP, ⟨Nat.le_trans hS.1 (by rw [e1]; exact hz), fun q h1 h2 => by rw [e1, hk q (Nat.lt_of_lt_of_le h1 hS.1) (fun z => h2 (hA q (Nat.lt_of_lt_of_le h1 hS.1) z))]; exact hS.2.1 q h1 h2, fun q hq => by
      rcases List.mem_append.mp hq with h | h
      · exact hS.2.2 q h
      · exact (hL q h).elim Or.inl (fun z => Or.inr (Nat.le_trans hS.1 z))⟩⟩ hl T' rfl X'
  refine ⟨t2, st t2 ?_, b1⟩
  have := a1
  rw [← aMap_toList] at this
  exact this
set_option maxHeartbeats 4000000 in
theorem aS_call {ins : Instr} {len K : Nat} {as : List Value} {d' : Nat} {M' : aM} {v : Option Value} {σ2 : aSt} (hF : aFx M p s m c args) (hG : ∀ M ∈ P, aMC M = true ∧ aCoC M = true ∧ (aClC P (aCs M) = true ∧ aStrOK (aCs M) = true)) (hcl : aClC P (aCs M) = true) (hC : aCx X S ad cA D tys s.heap.size s) (hroom : d' + 7 ≤ R.frames ∧ 41 * (d' + 7) ≤ R.locals ∧ cells ≤ R.cells ∧ slots ≤ R.slots) (hd : decode (aBy M) pc = .ok (ins, len)) (hn : len = aLn ins len) (hW : aWo S ad cA D s σ H locs) (hl : aLs ad ls (aML M) lv)
    (h : aIns X S M pc ins lv st σ = some (.inr (.inr (K, as, z)))) (hK : P[K]? = some M') (hM : aMet X S l d' M' as z.2.2.2 v σ2) (kk : aKK p l e R s m args below meth c cells slots Q S M ad cA D (z.1, z.2.1, v.toList ++ z.2.2.1, σ2)) : W p l e R s m args below meth c H locs cells slots Q (F0 m pc ls (st.map (aV ad))) := by
  have hF0 := hF
  obtain ⟨hx, hb, hml, hown, hts⟩ := hF
  obtain ⟨hP, hS⟩ := hW
  obtain ⟨hMC, -, -⟩ := hG M' (List.mem_of_getElem? hK)
  simp only [aMC, Bool.and_eq_true, decide_eq_true_eq] at hMC
  obtain ⟨⟨hcode, hplain, hownM⟩, hml22⟩ := hMC
  have hml22 := Nat.le_of_ble_eq_true hml22
  have hcode := aWd_mem hcode
  have hGI := aGoodIn M' hcode
  have hCm : ∀ U : State, U.heap = H → s.WarmedH U.vm → aCx X S ad cA D tys H.size U := fun U hU hWm => by
    have := hC.moved (U := U) (locs := locs) (by rw [hU]; exact hS) hWm
    rw [hU] at this
    exact this
  have hRR : (aRm d').frames + 1 ≤ R.frames ∧ 8 + (aML M' + 11) + (aRm d').locals ≤ R.locals := by
    simp only [aRm]
    omega
  rcases aIns_kind h with rfl | rfl | rfl | ⟨i, rfl⟩ | ⟨i, rfl⟩
  · exfalso
    simp only [aIns] at h
    repeat' (split at h)
    all_goals cases h
  · exfalso
    simp only [aIns] at h
    repeat' (split at h)
    all_goals cases h
  · exfalso
    simp only [aIns] at h
    repeat' (split at h)
    all_goals cases h
  · rw [hn] at hd
    simp only [aIns] at h
    split at h
    · rename_i kd K0 n w hf
      split at h
      · exfalso
        simp only [aPrim, aGd, aGo] at h
        repeat' (split at h)
        all_goals cases h
      · split at h
        · rename_i as0 r htk
          split at h
          · rename_i hk
            cases h
            rw [Bool.and_eq_true] at hk
            obtain ⟨hk1, hk2⟩ := hk
            have hk1 := Nat.eq_of_beq_eq_true hk1
            have hk2 := Nat.le_of_ble_eq_true hk2
            subst hk1
            have hcc : aCC P (aOwn M) (i, 1, K, n, w) = true := by
              simp only [aClC, Bool.and_eq_true] at hcl
              exact List.all_eq_true.mp hcl.2.1 _ (aFd_mem hf)
            obtain ⟨hlink, hini, hdesc, hst⟩ := aCC_inv hcc (by decide) hK
            have hst : Cond.static (aY M') ∈ aTB := by
              rcases hst with ⟨-, h⟩ | ⟨ci, r, h, -⟩
              · exact h
              · omega
            obtain ⟨hlen, hstk⟩ := aTk0 htk
            have hcw : CallB R s args (aOwn M) i (aY M') (aBy M') (aML M') (aRt M') (aWs M') (aRm d') 0 0 n ∧ (Cond.static (aY M')).before args s = true := ⟨callB_of n hts hGI rfl rfl rfl (hts _ hini) (hts _ hlink) hdesc hRR, hts _ hst⟩
            refine aW_run (M := M) (lv := lv) hC hS hl (va_runS (As := as.map (aV ad)) (rest := r.map (aV ad)) ⟨hx, hb, hml, hown, hts⟩ (hM D ad cA tys H.size) hcw ⟨aPre_blind, fun U hU hWm => ⟨rfl, by rw [hU]; exact hP, hCm U hU hWm⟩⟩ rfl (by rw [List.length_map]; exact hlen) hl.1 (by rw [hstk]; simp) (lv_room (by rw [aCat_sum]; exact hk2)) hd ⟨by omega, by omega⟩) kk
          · cases h
        · cases h
    · cases h
  · rw [hn] at hd
    simp only [aIns] at h
    split at h
    · rename_i kd K0 n w hf
      split at h
      · rename_i as0 a r htk
        split at h
        · rename_i cj hs
          split at h
          · rename_i hk
            cases h
            rw [Bool.and_eq_true] at hk
            obtain ⟨hk1, hk2⟩ := hk
            have hk1 := Nat.eq_of_beq_eq_true hk1
            have hk2 := Nat.le_of_ble_eq_true hk2
            subst hk1
            have hcc : aCC P (aOwn M) (i, cj + 2, K, n, w) = true := by
              simp only [aClC, Bool.and_eq_true] at hcl
              exact List.all_eq_true.mp hcl.2.1 _ (aFd_mem hf)
            obtain ⟨hlink, hini, hdesc, hst⟩ := aCC_inv hcc (by omega) hK
            obtain ⟨rr, hr, hcn, hinst, hsel⟩ : ∃ r : vw_C, vwCl[cj]? = some r ∧ r.1 = (aY M').cls ∧ Cond.instanceMethod (aY M') ∈ aTB ∧ Cond.selects (aY M').cls (aY M') (aY M') ∈ aTB := by
              rcases hst with ⟨h, -⟩ | ⟨ci, r, h, h1, h2, h3, h4⟩
              · omega
              · have : ci = cj := by omega
                subst this
                exact ⟨r, h1, h2, h3, h4⟩
            obtain ⟨hlen, hstk⟩ := aTk0 htk
            have hcw : CallW R s args (aOwn M) (aY M').cls i (aY M') (aBy M') (aML M') (aRt M') (aWs M') (aRm d') 0 0 n := ⟨callB_of n hts hGI rfl rfl rfl (hts _ hini) (hts _ hlink) hdesc hRR, hts _ hinst, hts _ hsel⟩
            have hrec := va_recv hC.2.1 hP hr (aW_at hs)
            rw [hcn] at hrec
            refine aW_run (M := M) (lv := lv) hC hS hl (va_runV (b := ad a) (As := as0.map (aV ad)) (rest := r.map (aV ad)) ⟨hx, hb, hml, hown, hts⟩ (hM D ad cA tys H.size) hcw ⟨aPre_blind, hrec, fun U hU hWm => ⟨rfl, by rw [hU]; exact hP, hCm U hU hWm⟩⟩ rfl (by rw [List.length_map]; exact hlen) hl.1 (by rw [hstk]; simp [aV]) (lv_room (by rw [aCat_sum]; exact hk2)) hd ⟨by omega, by omega⟩) kk
          · cases h
        · cases h
      · cases h
    · cases h
end AS
/-- a whole run from a frame -/
theorem aSound (X : aXt) (S : List aSh) (P : List aM) (hG : ∀ M ∈ P, aMC M = true ∧ aCoC M = true ∧ (aClC P (aCs M) = true ∧ aStrOK (aCs M) = true)) (l : Launch) : ∀ (f d : Nat) (M : aM) (pc : Nat) (lv st : List Value) (σ : aSt) (v : Option Value) (σ' : aSt), aExec X S P f d M pc lv st σ = some (v, σ') → aCoC M = true → (aClC P (aCs M) = true ∧ aStrOK (aCs M) = true) →
    ∀ {p : Program} {e : Env} {R : Room} {s : State} {m : MethodId} {args : Array Value} {below : List Frame} {meth : Method} {c : Code} {H : Heap} {locs : List Loc} {cells slots : Nat} {ad : Nat → Nat} {cA : Nat → ClassId} {D : va_G} {tys : List (ClassId × FieldType)} {ls : Array Slot},
      aFx M p s m c args → meth.sig.returnType = aRt M → meth.locks = false → aCx X S ad cA D tys s.heap.size s → (d + 6 ≤ R.frames ∧ 41 * (d + 6) ≤ R.locals ∧ cells ≤ R.cells ∧ slots ≤ R.slots) → aWo S ad cA D s σ H locs → aLs ad ls (aML M) lv →
      W p l e R s m args below meth c H locs cells slots (MQ below (aQc S ad cA D v σ' (aA ad S s.heap.size)) args s cells slots (aA ad S s.heap.size)) (F0 m pc ls (st.map (aV ad))) := by
  intro f
  induction f with
  | zero => intro d M pc lv st σ v σ' h; cases h
  | succ f ih =>
    intro d M pc lv st σ v σ' h hMo hcl p e R s m args below meth c H locs cells slots ad cA D tys ls hF hr hlocks hC hroom hW hl
    rw [aExec] at h
    cases hstep : aStep X S M pc lv st σ with
    | none => rw [hstep] at h; cases h
    | some r =>
      rw [hstep] at h
      unfold aStep at hstep
      split at hstep
      · rename_i q hq
        obtain ⟨hd, hn⟩ := aCo_dec hMo hq
        match r, h, hstep with
        | .inl (pc', lv', st', σ1), h, hstep =>
          simp only at h
          exact aS_go hF hcl.1 hcl.2 hC ⟨by omega, by omega, hroom.2.2.1, hroom.2.2.2⟩ hd hn hW hl hstep (fun H1 locs1 ls1 hW1 hl1 => ih d M pc' lv' st' σ1 v σ' h hMo hcl hF hr hlocks hC hroom hW1 hl1)
        | .inr (.inl (v1, σ1)), h, hstep =>
          simp only at h
          cases h
          refine aS_ret hF hr hlocks hd hn hstep (fun e t ht hWm => ?_) hW.2.2.2
          subst e
          exact ⟨rfl, by rw [ht]; exact hW.1, hW.2.F ht⟩
        | .inr (.inr (K, as, (pc', lv', st', σ1))), h, hstep =>
          simp only at h
          match d, h, hroom with
          | 0, h, _ => cases h
          | d' + 1, h, hroom =>
            simp only at h
            split at h
            · cases h
            · rename_i M' hK
              split at h
              · cases h
              · rename_i hble
                split at h
                · cases h
                · rename_i v2 σ2 hex
                  have hM' := hG M' (List.mem_of_getElem? hK)
                  have hble := Nat.le_of_ble_eq_true hble
                  have hMet : aMet X S l d' M' as σ1 v2 σ2 := by
                    intro D ad cA tys sz
                    have hpl : plainName (aY M').cls = true ∧ (aY M').cls = aOwn M' := by
                      have := hM'.1
                      simp only [aMC, Bool.and_eq_true, decide_eq_true_eq] at this
                      exact this.1.2
                    refine Met.ofW (cc := aBy M') (maxL := aML M') (ret := aRt M') hpl.1 rfl ?_
                    intro p e s m args below meth c s₁ B hml hv
                    obtain ⟨rfl, hP, hC⟩ := hv
                    have hx := B.exec
                    have hb := B.bytes
                    have hr := B.returns
                    have hts := atoms_spec (ws := aWs M') B.pre
                    have hown : s.vm.findClass (aOwn M') = some m.cls := by
                      rw [← hpl.2]
                      exact findClass_of_methodNamed B.named
                    have hlocks := B.notSynchronized
                    have hsz := hC.1
                    subst hsz
                    have hent := lv_entry (as.map (aV ad)) (n := aML M') (by rw [aArg_len]; exact hble)
                    rw [lg_entry_eq]
                    exact ih d' M' 0 (aEnt M' as) [] σ1 v2 σ2 hex hM'.2.1 hM'.2.2 (cells := 0) (slots := 0) ⟨hx, hb, hml, hown, fun w hw => hts w (List.mem_cons_of_mem _ hw)⟩ hr hlocks hC ⟨Nat.le_refl _, Nat.le_refl _, Nat.le_refl _, Nat.le_refl _⟩ ⟨hP, va_S.rf⟩ (aLs_ent hble hent)
                  exact aS_call (d' := d') hF hG hcl.1 hC ⟨by omega, by omega, hroom.2.2.1, hroom.2.2.2⟩ hd hn hW hl hstep hK hMet (fun H1 locs1 ls1 hW1 hl1 => ih (d' + 1) M pc' lv' (v2.toList ++ st') σ2 v σ' h hMo hcl hF hr hlocks hC hroom hW1 hl1)
      · cases hstep
end
section
/-! THE MAKING MACHINE: the constructors -/
/-- a constructor: its method; 'new' (pool index, class, three words); 'invokespecial' (pool index, kind: 0 Object's, 1 by link, 2 by nest link; constructor, parameters, three words); int[][] (pool index, word) -/
abbrev aMk : Type := aM × List (Nat × Nat × Nat × Nat × Nat) × List (Nat × Nat × Nat × Nat × Nat × Nat × Nat) × List (Nat × Nat)
/-! THE CONSTRUCTORS as the making machine reads them -/
def aNestM : List Cond := [.methodLinkNest "HalfDone" 9 ⟨"HalfDone$Tape", "<init>", "()V"⟩ "HalfDone", .methodLinkNest "HalfDone" 34 ⟨"HalfDone$Laws", "<init>", "()V"⟩ "HalfDone", .methodLinkNest "HalfDone" 41 ⟨"HalfDone$Beginnings", "<init>", "()V"⟩ "HalfDone", .methodLinkNest "HalfDone" 48 ⟨"HalfDone$Endings", "<init>", "()V"⟩ "HalfDone", .methodLinkNest "HalfDone" 55 ⟨"HalfDone$Past", "<init>", "()V"⟩ "HalfDone", .methodLinkNest "HalfDone" 62 ⟨"HalfDone$Dealer", "<init>", "()V"⟩ "HalfDone", .methodLinkNest "HalfDone" 78 ⟨"HalfDone$Game", "<init>", "()V"⟩ "HalfDone", .methodLinkNest "HalfDone" 85 ⟨"HalfDone$Estate", "<init>", "()V"⟩ "HalfDone"]
def aL_X0_init : List (Nat × Instr × Nat) := [(0, .aload_n 0, 1), (1, .invokespecial 3, 3), (4, .aload_n 0, 1), (5, .iconst 5, 1), (6, .bipush 12, 2), (8, .multianewarray 9 2, 4), (12, .putfield 11, 3), (15, .aload_n 0, 1), (16, .iconst 5, 1), (17, .newarray .int, 2), (19, .putfield 16, 3), (22, .return_, 1)]
def aM_X0_init : aM := (yX0_init, cX0_init, 1, none, aC_RX0, aL_X0_init, 238)
def aK_X0_init : aMk := (aM_X0_init, [], [(3, 0, 0, 0, 239, 146, 147)], [(9, 240)])
def aL_X1_init : List (Nat × Instr × Nat) := [(0, .aload_n 0, 1), (1, .invokespecial 3, 3), (4, .aload_n 0, 1), (5, .bipush 6, 2), (7, .newarray .int, 2), (9, .putfield 9, 3), (12, .aload_n 0, 1), (13, .bipush 64, 2), (15, .newarray .int, 2), (17, .putfield 15, 3), (20, .aload_n 0, 1), (21, .bipush 64, 2), (23, .newarray .int, 2), (25, .putfield 18, 3), (28, .aload_n 0, 1), (29, .bipush 64, 2), (31, .newarray .int, 2), (33, .putfield 21, 3), (36, .aload_n 0, 1), (37, .bipush 64, 2), (39, .newarray .int, 2), (41, .putfield 24, 3), (44, .return_, 1)]
def aM_X1_init : aM := (yX1_init, cX1_init, 1, none, aC_RX1, aL_X1_init, 302)
def aK_X1_init : aMk := (aM_X1_init, [], [(3, 0, 0, 0, 303, 146, 147)], [])
def aL_X2_init : List (Nat × Instr × Nat) := [(0, .aload_n 0, 1), (1, .invokespecial 3, 3), (4, .aload_n 0, 1), (5, .bipush 6, 2), (7, .newarray .int, 2), (9, .putfield 9, 3), (12, .aload_n 0, 1), (13, .bipush 6, 2), (15, .newarray .int, 2), (17, .putfield 15, 3), (20, .aload_n 0, 1), (21, .bipush 6, 2), (23, .newarray .int, 2), (25, .putfield 18, 3), (28, .aload_n 0, 1), (29, .bipush 54, 2), (31, .newarray .int, 2), (33, .putfield 21, 3), (36, .aload_n 0, 1), (37, .bipush 54, 2), (39, .newarray .int, 2), (41, .putfield 24, 3), (44, .aload_n 0, 1), (45, .sipush 832, 3), (48, .newarray .int, 2), (50, .putfield 27, 3), (53, .aload_n 0, 1), (54, .bipush 64, 2), (56, .newarray .int, 2), (58, .putfield 30, 3), (61, .aload_n 0, 1), (62, .sipush 832, 3), (65, .newarray .int, 2), (67, .putfield 33, 3), (70, .aload_n 0, 1), (71, .aload_n 1, 1), (72, .putfield 36, 3), (75, .return_, 1)]
def aM_X2_init : aM := (yX2_init, cX2_init, 2, none, aC_RX2, aL_X2_init, 330)
def aK_X2_init : aMk := (aM_X2_init, [], [(3, 0, 0, 0, 331, 146, 147)], [])
def aL_X3_init : List (Nat × Instr × Nat) := [(0, .aload_n 0, 1), (1, .invokespecial 3, 3), (4, .aload_n 0, 1), (5, .bipush 12, 2), (7, .newarray .int, 2), (9, .putfield 9, 3), (12, .aload_n 0, 1), (13, .bipush 12, 2), (15, .newarray .int, 2), (17, .putfield 15, 3), (20, .aload_n 0, 1), (21, .bipush 12, 2), (23, .newarray .int, 2), (25, .putfield 18, 3), (28, .return_, 1)]
def aM_X3_init : aM := (yX3_init, cX3_init, 1, none, aC_RX3, aL_X3_init, 258)
def aK_X3_init : aMk := (aM_X3_init, [], [(3, 0, 0, 0, 259, 146, 147)], [])
def aL_X4_init : List (Nat × Instr × Nat) := [(0, .aload_n 0, 1), (1, .invokespecial 3, 3), (4, .aload_n 0, 1), (5, .bipush 6, 2), (7, .newarray .int, 2), (9, .putfield 9, 3), (12, .aload_n 0, 1), (13, .bipush 6, 2), (15, .newarray .int, 2), (17, .putfield 15, 3), (20, .aload_n 0, 1), (21, .bipush 6, 2), (23, .newarray .int, 2), (25, .putfield 18, 3), (28, .aload_n 0, 1), (29, .bipush 48, 2), (31, .newarray .int, 2), (33, .putfield 21, 3), (36, .aload_n 0, 1), (37, .bipush 48, 2), (39, .newarray .int, 2), (41, .putfield 24, 3), (44, .aload_n 0, 1), (45, .bipush 6, 2), (47, .newarray .int, 2), (49, .putfield 27, 3), (52, .aload_n 0, 1), (53, .iconst 5, 1), (54, .newarray .int, 2), (56, .putfield 30, 3), (59, .aload_n 0, 1), (60, .iconst 5, 1), (61, .newarray .int, 2), (63, .putfield 33, 3), (66, .aload_n 0, 1), (67, .bipush 67, 2), (69, .newarray .int, 2), (71, .putfield 36, 3), (74, .return_, 1)]
def aM_X4_init : aM := (yX4_init, cX4_init, 1, none, aC_RX4, aL_X4_init, 392)
def aK_X4_init : aMk := (aM_X4_init, [], [(3, 0, 0, 0, 393, 146, 147)], [])
def aL_X5_init : List (Nat × Instr × Nat) := [(0, .aload_n 0, 1), (1, .invokespecial 3, 3), (4, .aload_n 0, 1), (5, .bipush 7, 2), (7, .newarray .int, 2), (9, .putfield 9, 3), (12, .aload_n 0, 1), (13, .iconst 4, 1), (14, .newarray .int, 2), (16, .putfield 15, 3), (19, .aload_n 0, 1), (20, .bipush 24, 2), (22, .newarray .int, 2), (24, .putfield 18, 3), (27, .aload_n 0, 1), (28, .bipush 24, 2), (30, .newarray .int, 2), (32, .putfield 21, 3), (35, .aload_n 0, 1), (36, .bipush 6, 2), (38, .newarray .int, 2), (40, .putfield 24, 3), (43, .return_, 1)]
def aM_X5_init : aM := (yX5_init, cX5_init, 1, none, aC_RX5, aL_X5_init, 364)
def aK_X5_init : aMk := (aM_X5_init, [], [(3, 0, 0, 0, 365, 146, 147)], [])
def aL_X6_init : List (Nat × Instr × Nat) := [(0, .aload_n 0, 1), (1, .invokespecial 3, 3), (4, .aload_n 0, 1), (5, .sipush 240, 3), (8, .newarray .int, 2), (10, .putfield 9, 3), (13, .aload_n 0, 1), (14, .aload_n 1, 1), (15, .putfield 15, 3), (18, .return_, 1)]
def aM_X6_init : aM := (yX6_init, cX6_init, 2, none, aC_RX6, aL_X6_init, 189)
def aK_X6_init : aMk := (aM_X6_init, [], [(3, 0, 0, 0, 190, 146, 147)], [])
def aL_X7_init : List (Nat × Instr × Nat) := [(0, .aload_n 0, 1), (1, .invokespecial 5, 3), (4, .aload_n 0, 1), (5, .bipush 6, 2), (7, .sipush 240, 3), (10, .multianewarray 11 2, 4), (14, .putfield 13, 3), (17, .aload_n 0, 1), (18, .bipush 6, 2), (20, .newarray .int, 2), (22, .putfield 16, 3), (25, .aload_n 0, 1), (26, .bipush 8, 2), (28, .newarray .int, 2), (30, .putfield 20, 3), (33, .aload_n 0, 1), (34, .bipush 64, 2), (36, .newarray .int, 2), (38, .putfield 23, 3), (41, .aload_n 0, 1), (42, .bipush 6, 2), (44, .sipush 160, 3), (47, .multianewarray 11 2, 4), (51, .putfield 26, 3), (54, .return_, 1)]
def aM_X7_init : aM := (yX7_init, cX7_init, 1, none, aC_RX7, aL_X7_init, 207)
def aK_X7_init : aMk := (aM_X7_init, [], [(5, 0, 0, 0, 208, 146, 147)], [(11, 209)])
def aL_X8_init : List (Nat × Instr × Nat) := [(0, .aload_n 0, 1), (1, .invokespecial 3, 3), (4, .aload_n 0, 1), (5, .bipush 40, 2), (7, .bipush 67, 2), (9, .multianewarray 9 2, 4), (13, .putfield 11, 3), (16, .aload_n 0, 1), (17, .bipush 67, 2), (19, .newarray .int, 2), (21, .putfield 16, 3), (24, .return_, 1)]
def aM_X8_init : aM := (yX8_init, cX8_init, 1, none, aC_RX8, aL_X8_init, 278)
def aK_X8_init : aMk := (aM_X8_init, [], [(3, 0, 0, 0, 279, 146, 147)], [(9, 280)])
def aL_X9_init : List (Nat × Instr × Nat) := [(0, .aload_n 0, 1), (1, .invokespecial 3, 3), (4, .aload_n 0, 1), (5, .sipush 240, 3), (8, .newarray .int, 2), (10, .putfield 9, 3), (13, .return_, 1)]
def aM_X9_init : aM := (yX9_init, cX9_init, 1, none, aC_RX9, aL_X9_init, 152)
def aK_X9_init : aMk := (aM_X9_init, [], [(3, 0, 0, 0, 153, 146, 147)], [])
def aL_X10_init : List (Nat × Instr × Nat) := [(0, .aload_n 0, 1), (1, .invokespecial 3, 3), (4, .aload_n 0, 1), (5, .aload_n 1, 1), (6, .putfield 9, 3), (9, .return_, 1)]
def aM_X10_init : aM := (yX10_init, cX10_init, 2, none, aC_RX10, aL_X10_init, 179)
def aK_X10_init : aMk := (aM_X10_init, [], [(3, 0, 0, 0, 180, 146, 147)], [])
def aL_X11_init : List (Nat × Instr × Nat) := [(0, .aload_n 0, 1), (1, .invokespecial 1, 3), (4, .aload_n 0, 1), (5, .new 7, 3), (8, .dup, 1), (9, .invokespecial 9, 3), (12, .putfield 10, 3), (15, .aload_n 0, 1), (16, .new 16, 3), (19, .dup, 1), (20, .aload_n 0, 1), (21, .getfield 10, 3), (24, .invokespecial 18, 3), (27, .putfield 21, 3), (30, .aload_n 0, 1), (31, .new 25, 3), (34, .dup, 1), (35, .aload_n 0, 1), (36, .getfield 10, 3), (39, .invokespecial 27, 3), (42, .putfield 28, 3), (45, .aload_n 0, 1), (46, .new 32, 3), (49, .dup, 1), (50, .invokespecial 34, 3), (53, .putfield 35, 3), (56, .aload_n 0, 1), (57, .new 39, 3), (60, .dup, 1), (61, .invokespecial 41, 3), (64, .putfield 42, 3), (67, .aload_n 0, 1), (68, .new 46, 3), (71, .dup, 1), (72, .invokespecial 48, 3), (75, .putfield 49, 3), (78, .aload_n 0, 1), (79, .new 53, 3), (82, .dup, 1), (83, .invokespecial 55, 3), (86, .putfield 56, 3), (89, .aload_n 0, 1), (90, .new 60, 3), (93, .dup, 1), (94, .invokespecial 62, 3), (97, .putfield 63, 3), (100, .aload_n 0, 1), (101, .new 67, 3), (104, .dup, 1), (105, .aload_n 0, 1), (106, .getfield 63, 3), (109, .invokespecial 69, 3), (112, .putfield 72, 3), (115, .aload_n 0, 1), (116, .new 76, 3), (119, .dup, 1), (120, .invokespecial 78, 3), (123, .putfield 79, 3), (126, .aload_n 0, 1), (127, .new 83, 3), (130, .dup, 1), (131, .invokespecial 85, 3), (134, .putfield 86, 3), (137, .aload_n 0, 1), (138, .new 83, 3), (141, .dup, 1), (142, .invokespecial 85, 3), (145, .putfield 90, 3), (148, .aload_n 0, 1), (149, .iconst (-1), 1), (150, .putfield 93, 3), (153, .return_, 1)]
def aM_X11_init : aM := (yX11_init, cX11_init, 1, none, aC_RX11, aL_X11_init, 144)
def aK_X11_init : aMk := (aM_X11_init, [(7, 9, 148, 149, 116), (16, 10, 175, 176, 117), (25, 6, 185, 186, 118), (32, 7, 203, 204, 119), (39, 0, 234, 235, 120), (46, 3, 254, 255, 121), (53, 8, 274, 275, 122), (60, 1, 298, 299, 123), (67, 2, 326, 327, 124), (76, 5, 360, 361, 125), (83, 4, 388, 389, 126)], [(1, 0, 0, 0, 145, 146, 147), (9, 2, 9, 0, 0, 151, 116), (18, 1, 10, 1, 177, 178, 117), (27, 1, 6, 1, 187, 188, 118), (34, 2, 7, 0, 0, 206, 119), (41, 2, 0, 0, 0, 237, 120), (48, 2, 3, 0, 0, 257, 121), (55, 2, 8, 0, 0, 277, 122), (62, 2, 1, 0, 0, 301, 123), (69, 1, 2, 1, 328, 329, 124), (78, 2, 5, 0, 0, 363, 125), (85, 2, 4, 0, 0, 391, 126)], [])
def aL_X12_init : List (Nat × Instr × Nat) := [(0, .aload_n 0, 1), (1, .invokespecial 3, 3), (4, .aload_n 0, 1), (5, .sipush 240, 3), (8, .newarray .byte, 2), (10, .putfield 9, 3), (13, .aload_n 0, 1), (14, .sipush 1440, 3), (17, .newarray .byte, 2), (19, .putfield 13, 3), (22, .aload_n 0, 1), (23, .bipush 6, 2), (25, .newarray .int, 2), (27, .putfield 16, 3), (30, .aload_n 0, 1), (31, .sipush 128, 3), (34, .newarray .int, 2), (36, .putfield 20, 3), (39, .aload_n 0, 1), (40, .aload_n 0, 1), (41, .getfield 9, 3), (44, .putfield 23, 3), (47, .aload_n 0, 1), (48, .ldc 26, 2), (50, .putfield 28, 3), (53, .aload_n 0, 1), (54, .ldc 32, 2), (56, .putfield 34, 3), (59, .aload_n 0, 1), (60, .bipush 24, 2), (62, .newarray .int, 2), (64, .putfield 37, 3), (67, .aload_n 0, 1), (68, .bipush 24, 2), (70, .newarray .int, 2), (72, .putfield 40, 3), (75, .aload_n 0, 1), (76, .bipush 96, 2), (78, .newarray .int, 2), (80, .putfield 43, 3), (83, .aload_n 0, 1), (84, .bipush 96, 2), (86, .newarray .int, 2), (88, .putfield 46, 3), (91, .aload_n 0, 1), (92, .bipush 36, 2), (94, .newarray .int, 2), (96, .putfield 49, 3), (99, .aload_n 0, 1), (100, .bipush 36, 2), (102, .newarray .int, 2), (104, .putfield 52, 3), (107, .aload_n 0, 1), (108, .iconst 5, 1), (109, .newarray .int, 2), (111, .putfield 55, 3), (114, .aload_n 0, 1), (115, .iconst 5, 1), (116, .newarray .int, 2), (118, .putfield 58, 3), (121, .aload_n 0, 1), (122, .bipush 60, 2), (124, .newarray .int, 2), (126, .putfield 61, 3), (129, .aload_n 0, 1), (130, .iconst 5, 1), (131, .newarray .int, 2), (133, .putfield 64, 3), (136, .aload_n 0, 1), (137, .bipush 67, 2), (139, .newarray .int, 2), (141, .putfield 67, 3), (144, .aload_n 0, 1), (145, .iconst (-1), 1), (146, .putfield 70, 3), (149, .aload_n 0, 1), (150, .sipush 2680, 3), (153, .newarray .int, 2), (155, .putfield 74, 3), (158, .aload_n 0, 1), (159, .iconst 5, 1), (160, .newarray .int, 2), (162, .putfield 77, 3), (165, .aload_n 0, 1), (166, .bipush 6, 2), (168, .newarray .int, 2), (170, .putfield 80, 3), (173, .aload_n 0, 1), (174, .sipush 384, 3), (177, .newarray .boolean, 2), (179, .putfield 83, 3), (182, .aload_n 0, 1), (183, .bipush 6, 2), (185, .newarray .int, 2), (187, .putfield 87, 3), (190, .aload_n 0, 1), (191, .bipush 6, 2), (193, .newarray .int, 2), (195, .putfield 90, 3), (198, .aload_n 0, 1), (199, .bipush 6, 2), (201, .newarray .int, 2), (203, .putfield 93, 3), (206, .aload_n 0, 1), (207, .bipush 6, 2), (209, .newarray .int, 2), (211, .putfield 96, 3), (214, .aload_n 0, 1), (215, .bipush 6, 2), (217, .newarray .int, 2), (219, .putfield 99, 3), (222, .aload_n 0, 1), (223, .bipush 6, 2), (225, .newarray .int, 2), (227, .putfield 102, 3), (230, .aload_n 0, 1), (231, .bipush 12, 2), (233, .newarray .int, 2), (235, .putfield 105, 3), (238, .aload_n 0, 1), (239, .bipush 12, 2), (241, .newarray .int, 2), (243, .putfield 108, 3), (246, .aload_n 0, 1), (247, .bipush 12, 2), (249, .newarray .int, 2), (251, .putfield 111, 3), (254, .aload_n 0, 1), (255, .bipush 67, 2), (257, .newarray .int, 2), (259, .putfield 114, 3), (262, .return_, 1)]
def aM_X12_init : aM := (yX12_init, cX12_init, 1, none, aC_RX12, aL_X12_init, 1347)
def aK_X12_init : aMk := (aM_X12_init, [], [(3, 0, 0, 0, 1348, 146, 147)], [])
def aK_law : aMk := (aM_law, [(8, 11, 140, 141, 115), (16, 12, 1343, 1344, 127)], [(15, 1, 11, 0, 142, 143, 115), (18, 1, 12, 0, 1345, 1346, 127)], [])
def aCt : List aMk := [aK_X0_init, aK_X1_init, aK_X2_init, aK_X3_init, aK_X4_init, aK_X5_init, aK_X6_init, aK_X7_init, aK_X8_init, aK_X9_init, aK_X10_init, aK_X11_init, aK_X12_init]
def aDfL : List (List Value) := [[.null, .null, .int 0], [.null, .null, .null, .null, .null, .int 0], [.null, .null, .null, .null, .null, .null, .null, .null, .null], [.null, .null, .null, .int 0], [.null, .null, .null, .null, .null, .null, .null, .null, .null, .int 0, .int 0, .int 0], [.null, .null, .null, .null, .null, .int 0, .int 0], [.null, .null, .int 0], [.null, .null, .null, .null, .null, .int 0, .int 0], [.null, .null, .int 0, .int 0, .int 0], [.null, .int 0, .int 0, .int 0], [.null], [.null, .null, .null, .null, .null, .null, .null, .null, .null, .null, .null, .null, .int 0], [.int 0, .null, .null, .null, .null, .null, .int 0, .int 0, .int 0, .int 0, .int 0, .int 0, .int 0, .int 0, .int 0, .null, .null, .int 0, .null, .null, .null, .null, .null, .null, .null, .null, .int 0, .int 0, .int 0, .int 0, .int 0, .int 0, .null, .null, .int 0, .null, .int 0, .null, .int 0, .null, .long 0, .null, .null, .null, .null, .int 0, .null, .null, .null, .int 0, .null, .int 0, .int 0, .int 0, .null, .null, .null, .int 0, .null, .int 0]]
def aDf (ci : Nat) : Nat → Value := fun k => (aDfL.getD ci []).getD k .null
def aFr (lo : Nat) (v : Value) : Bool := match v with
  | .ref a => Nat.blt a lo || Nat.ble 1000 a
  | _ => true
def aFrC (lo : Nat) (f : Nat → Value) (sh : aSh) : Bool := match sh with
  | .inl ci => (List.range (aNf ci)).all (fun k => aFr lo (f k))
  | .inr (t, n) => match Nat.beq t 4 with
    | true => (List.range n).all (fun j => aFr lo (f j))
    | false => true
def aFrS (lo : Nat) (σ : aSt) : Nat → List aSh → Bool
  | _, [] => true
  | i, sh :: r => aFrC lo (σ i) sh && aFrS lo σ (i + 1) r
def aFrA (lv st : List Value) (σ : aSt) (S : List aSh) : Bool := lv.all (aFr S.length) && (st.all (aFr S.length) && (aFrS S.length σ 0 S && Nat.blt S.length 900))
/-- a new cell -/
def aNw (σ : aSt) (a : Nat) (g : Nat → Value) : aSt := fun b j => if b = a then g j else σ b j
/-- a new array of arrays of ints, and these -/
def aNw2 (σ : aSt) (a n : Nat) : aSt := fun b j => if b = a then (if j < n then .ref (a + 1 + j) else .null) else (if b < a then σ b j else .int 0)
def aTc (t : ArrayType) : Option Nat := match t with
  | .int => some 0
  | .byte => some 1
  | .boolean => some 2
  | .long => some 3
  | _ => none
def aZr (t : Nat) : Value := match t with
  | 3 => .long 0
  | _ => .int 0
def aMkE (X : aXt) (C : List aMk) : Nat → Nat → aMk → Nat → List Value → List Value → aSt → List aSh → Nat → Option (aSt × List aSh × Nat)
  | 0, _, _, _, _, _, _, _, _ => none
  | f + 1, d, M, pc, lv, st, σ, S, k => match aFd (aCo M.1) pc with
    | none => none
    | some q => match q.1 with
      | .return_ => match st with
        | [] => some (σ, S, k)
        | _ => none
      | .new i => match aFrA lv st σ S with
        | false => none
        | true => match aFd M.2.1 i with
          | none => none
          | some (ci, _) => aMkE X C f d M (pc + 3) lv (.ref S.length :: st) (aNw σ S.length (aDf ci)) (S ++ [.inl ci]) (k + aNf ci)
      | .newarray t => match aFrA lv st σ S with
        | false => none
        | true => match st with
          | .int n :: r => match aTc t with
            | none => none
            | some tc => if (¬ n < 0) ∧ n.toNatClampNeg ≤ 10000 then aMkE X C f d M (pc + 2) lv (.ref S.length :: r) (aNw σ S.length (fun _ => aZr tc)) (S ++ [.inr (tc, n.toNatClampNeg)]) (k + n.toNatClampNeg) else none
          | _ => none
      | .multianewarray i dm => match aFrA lv st σ S with
        | false => none
        | true => match st with
          | .int n2 :: .int n1 :: r => match aFd M.2.2.2 i with
            | none => none
            | some _ => if (((¬ n1 < 0) ∧ ¬ n2 < 0) ∧ dm = 2) ∧ ((n1.toNatClampNeg ≤ 60 ∧ n2.toNatClampNeg ≤ 1000) ∧ S[2]? = some (.inr (0, 240))) then aMkE X C f d M (pc + 4) lv (.ref S.length :: r) (aNw2 σ S.length n1.toNatClampNeg) (S ++ (.inr (4, n1.toNatClampNeg) :: List.replicate n1.toNatClampNeg (.inr (0, n2.toNatClampNeg)))) (k + n1.toNatClampNeg + n1.toNatClampNeg * n2.toNatClampNeg) else none
          | _ => none
      | .invokespecial i => match aFd M.2.2.1 i with
        | none => none
        | some (kd, K, n, _) => match Nat.beq kd 0 with
          | true => match st with
            | .ref _ :: r => match Nat.ble (aCat r) 8 with
              | true => aMkE X C f d M (pc + 3) lv r σ S k
              | false => none
            | _ => none
          | false => match aFrA lv st σ S with
            | false => none
            | true => match aTk n [] st with
              | some (as, .ref a :: r) => match Nat.ble (aCat r) 8 with
                | false => none
                | true => match d with
                  | 0 => none
                  | d' + 1 => match C[K]? with
                    | none => none
                    | some M' => match Nat.ble (aArg (.ref a :: as)).length (aML M'.1) with
                      | false => none
                      | true => match aMkE X C f d' M' 0 (aEnt M'.1 (.ref a :: as)) [] σ S 0 with
                        | none => none
                        | some (σ2, S2, k2) => match Nat.blt S2.length 1000 with
                          | false => none
                          | true => aMkE X C f (d' + 1) M (pc + 3) lv r σ2 S2 (k + k2)
              | _ => none
      | .putfield i => match st with
        | v :: .ref a :: r => match aFd (aCs M.1).2.1 i with
          | none => none
          | some (ci, j, kd, _) => match S[a]? with
            | some (.inl cj) => match Nat.beq ci cj && (Nat.beq kd 9) with
              | true => match v with
                | .ref b => aMkE X C f d M (pc + 3) lv r (aUp σ a j (.ref b)) S k
                | _ => none
              | false => match Nat.beq ci cj && aOk kd v with
                | true => aMkE X C f d M (pc + 3) lv r (aUp σ a j v) S k
                | false => none
            | _ => none
        | _ => none
      | ins => match aIns X S M.1 pc ins lv st σ with
        | some (.inl z) => aMkE X C f d M z.1 z.2.1 z.2.2.1 z.2.2.2 S k
        | _ => none
def aLv0 : List Value := [.ref 1000, .null, .null, .null, .null, .null, .null]
/-- the law's head, up to its loop: by the machine, the two objects and the long[1] -/
def aX0 : aXt := fun _ => none
def aH0 : Option (aSt × List aSh × Nat) := aMkE aX0 aCt 4000 3 aK_X11_init 0 (aEnt aM_X11_init [.ref 0]) [] (aNw (fun _ _ => .null) 0 (aDf 11)) [.inl 11] 13
set_option maxRecDepth 100000 in
theorem aH0_ok : (aH0.map (fun q => decide (q.2.1 = aS.take 120) && Nat.beq q.2.2 8524)) = some true := by decide +kernel
end
section
/-! SOUNDNESS of the making machine -/
theorem aV_move {ad ad' : Nat → Nat} {lo : Nat} {v : Value} (h : ∀ a, a < lo ∨ 1000 ≤ a → ad' a = ad a) (hv : aFr lo v = true) : aV ad' v = aV ad v := by
  cases v with
  | ref a =>
    simp only [aFr, Bool.or_eq_true] at hv
    have : ad' a = ad a := h a (hv.imp (fun q => Nat.blt_eq.mp q) (fun q => Nat.le_of_ble_eq_true q))
    simp only [aV, this]
  | _ => rfl
theorem aRf_move {ad ad' : Nat → Nat} {lo : Nat} {v : Value} (h : ∀ a, a < lo ∨ 1000 ≤ a → ad' a = ad a) (hv : aFr lo v = true) : aRf ad' v = aRf ad v := by
  cases v with
  | ref a =>
    simp only [aFr, Bool.or_eq_true] at hv
    have : ad' a = ad a := h a (hv.imp (fun q => Nat.blt_eq.mp q) (fun q => Nat.le_of_ble_eq_true q))
    simp only [aRf, this]
  | _ => rfl
theorem aMap_move {ad ad' : Nat → Nat} {lo : Nat} {l : List Value} (h : ∀ a, a < lo ∨ 1000 ≤ a → ad' a = ad a) (hv : l.all (aFr lo) = true) : l.map (aV ad') = l.map (aV ad) :=
  List.map_congr_left (fun v hm => aV_move h (List.all_eq_true.mp hv v hm))
theorem aLs_move {ad ad' : Nat → Nat} {lo n : Nat} {ls : Array Slot} {l : List Value} (h : ∀ a, a < lo ∨ 1000 ≤ a → ad' a = ad a) (hv : l.all (aFr lo) = true) (hl : aLs ad ls n l) : aLs ad' ls n l := by
  refine ⟨hl.1, hl.2.1, hl.2.2.1, fun i v hi hn => ?_⟩
  rw [aV_move h (List.all_eq_true.mp hv v (List.mem_of_getElem? hi))]
  exact hl.2.2.2 i v hi hn
theorem arrV_congr {c : ClassId} {n : Nat} {f g : Nat → Value} (h : ∀ j, j < n → f j = g j) : arrV c n f = arrV c n g := by
  have h1 : (arrV c n f).slots = (arrV c n g).slots := by
    apply Array.ext_getElem?
    intro j
    by_cases hj : j < n
    · rw [arrV_read _ _ hj, arrV_read _ _ hj, h j hj]
    · rw [Array.getElem?_eq_none (by rw [arrV_size]; omega), Array.getElem?_eq_none (by rw [arrV_size]; omega)]
  exact congrArg (fun z : Array Value => ({ arrV c n f with slots := z } : Cell)) h1
theorem aAt_move {D : va_G} {ad ad' : Nat → Nat} {lo x : Nat} {c : ClassId} {f : Nat → Value} {sh : aSh} {H : Heap} (h : ∀ a, a < lo ∨ 1000 ≤ a → ad' a = ad a) (hf : aFrC lo f sh = true) (hat : va_at D vwCl (x, aE ad c f sh) H) : va_at D vwCl (x, aE ad' c f sh) H := by
  match sh, hf, hat with
  | .inl ci, hf, hat =>
    have e : (List.range (aNf ci)).map (fun k => aV ad' (f k)) = (List.range (aNf ci)).map (fun k => aV ad (f k)) :=
      List.map_congr_left (fun k hm => aV_move h (List.all_eq_true.mp hf k hm))
    simp only [aE, e]
    exact hat
  | .inr (t, n), hf, hat =>
    by_cases ht : t = 4
    · subst ht
      have hf : (List.range n).all (fun j => aFr lo (f j)) = true := hf
      have e : vp_cell c (n, .inr (.inr (.inr (.inr (fun j => aRf ad' (f j)))))) = vp_cell c (n, .inr (.inr (.inr (.inr (fun j => aRf ad (f j)))))) := by
        rw [vp_cell_q, vp_cell_q]
        exact arrV_congr (fun j hj => by rw [aRf_move h (List.all_eq_true.mp hf j (List.mem_range.mpr hj))])
      have hat : H[x]? = some (vp_cell c (n, .inr (.inr (.inr (.inr (fun j => aRf ad (f j))))))) := hat
      show H[x]? = some (vp_cell c (n, .inr (.inr (.inr (.inr (fun j => aRf ad' (f j)))))))
      rw [e]
      exact hat
    · have e : aE ad' c f (.inr (t, n)) = aE ad c f (.inr (t, n)) := by
        unfold aE
        simp only
        split
        · rfl
        · exact absurd rfl ht
        · rfl
      rw [e]
      exact hat
theorem aFrS_at {lo : Nat} {σ : aSt} : ∀ (S : List aSh) (i : Nat), aFrS lo σ i S = true → ∀ j sh, S[j]? = some sh → aFrC lo (σ (i + j)) sh = true := by
  intro S
  induction S with
  | nil => intro i _ j sh h; simp at h
  | cons s0 r ih =>
    intro i h j sh hj
    simp only [aFrS, Bool.and_eq_true] at h
    cases j with
    | zero => simp at hj; subst hj; exact h.1
    | succ j =>
      have := ih (i + 1) h.2 j sh (by simpa using hj)
      rw [show i + (j + 1) = i + 1 + j by omega]
      exact this
theorem aA_grow {ad ad' : Nat → Nat} {S S' : List aSh} {sz : Nat} (hle : S.length ≤ S'.length) (h1 : ∀ i, i < S.length → ad' i = ad i) (h2 : ∀ i, S.length ≤ i → i < S'.length → sz ≤ ad' i) : ∀ q, aA ad' S' sz q ↔ aA ad S sz q := by
  intro q
  constructor
  · rintro (⟨i, hi, rfl⟩ | h)
    · by_cases hlt : i < S.length
      · exact Or.inl ⟨i, hlt, (h1 i hlt).symm⟩
      · exact Or.inr (h2 i (by omega) hi)
    · exact Or.inr h
  · rintro (⟨i, hi, rfl⟩ | h)
    · exact Or.inl ⟨i, by omega, h1 i hi⟩
    · exact Or.inr h
theorem va_S_iff {A B : Nat → Prop} {H0 H : Heap} {locs : List Loc} (h : ∀ q, A q ↔ B q) (hS : va_S A H0 H locs) : va_S B H0 H locs := ⟨hS.1, fun q h1 h2 => hS.2.1 q h1 (fun z => h2 ((h q).mp z)), fun l hl => (h _).mp (hS.2.2 l hl)⟩
/-- new cells behind the old ones -/
theorem aW_grow {D : va_G} {ad ad' : Nat → Nat} {cA cA' : Nat → ClassId} {S N : List aSh} {σ σ' : aSt} {A : Nat → Prop} {H : Heap} {new : va_W} (hfr : aFrS S.length σ 0 S = true) (hlen : new.length = N.length)
    (ha : ∀ a, a < S.length ∨ 1000 ≤ a → ad' a = ad a) (hc : ∀ i, i < S.length → cA' i = cA i) (hs : ∀ i, i < S.length → σ' i = σ i)
    (hnew : ∀ (j : Nat) (sh : aSh), N[j]? = some sh → new[j]? = some (ad' (S.length + j), aE ad' (cA' (S.length + j)) (σ' (S.length + j)) sh))
    (hP : va_P D vwCl (aW ad cA S σ ++ new) H) (hD : va_D A (aW ad cA S σ ++ new)) : va_P D vwCl (aW ad' cA' (S ++ N) σ') H ∧ aInj ad' (S ++ N) ∧ ∀ i, S.length ≤ i → i < (S ++ N).length → A (ad' i) := by
  have hl0 : (aW ad cA S σ).length = S.length := by rw [aW, List.length_mapIdx]
  have hadr : ∀ i, i < (S ++ N).length → ∃ e, (aW ad cA S σ ++ new)[i]? = some (ad' i, e) := by
    intro i hi
    rw [List.length_append] at hi
    by_cases hlt : i < S.length
    · obtain ⟨sh, hsh⟩ : ∃ sh, S[i]? = some sh := ⟨_, List.getElem?_eq_getElem hlt⟩
      exact ⟨_, by rw [List.getElem?_append_left (by omega), aW_at hsh, ha i (Or.inl hlt)]⟩
    · obtain ⟨sh, hsh⟩ : ∃ sh, N[i - S.length]? = some sh := ⟨_, List.getElem?_eq_getElem (by omega)⟩
      have := hnew (i - S.length) sh hsh
      rw [show S.length + (i - S.length) = i by omega] at this
      exact ⟨_, by rw [List.getElem?_append_right (by omega), hl0]; exact this⟩
  refine ⟨?_, ?_, ?_⟩
  · intro i q hq
    have hi := (aW_of hq).1
    rw [List.length_append] at hi
    by_cases hlt : i < S.length
    · obtain ⟨sh, hsh⟩ : ∃ sh, S[i]? = some sh := ⟨_, List.getElem?_eq_getElem hlt⟩
      have hsh2 : (S ++ N)[i]? = some sh := by rw [List.getElem?_append_left hlt]; exact hsh
      rw [aW_at hsh2] at hq
      cases hq
      have h1 := hP i _ (by rw [List.getElem?_append_left (by omega)]; exact aW_at hsh)
      have h2 := aFrS_at S 0 hfr i sh hsh
      rw [Nat.zero_add] at h2
      rw [ha i (Or.inl hlt), hc i hlt, hs i hlt]
      exact aAt_move ha h2 h1
    · obtain ⟨sh, hsh⟩ : ∃ sh, N[i - S.length]? = some sh := ⟨_, List.getElem?_eq_getElem (by omega)⟩
      have hsh2 : (S ++ N)[i]? = some sh := by rw [List.getElem?_append_right (by omega)]; exact hsh
      rw [aW_at hsh2] at hq
      cases hq
      have h0 := hnew (i - S.length) sh hsh
      rw [show S.length + (i - S.length) = i by omega] at h0
      exact hP i _ (by rw [List.getElem?_append_right (by omega), hl0]; exact h0)
  · intro i j hi hj he
    obtain ⟨e1, h1⟩ := hadr i hi
    obtain ⟨e2, h2⟩ := hadr j hj
    exact hD.1 i j _ _ h1 h2 he
  · intro i _ hi
    obtain ⟨e1, h1⟩ := hadr i hi
    exact hD.2 i _ h1
theorem aCx_grow {X : aXt} {S S' : List aSh} {ad ad' : Nat → Nat} {cA cA' : Nat → ClassId} {D : va_G} {tys tys' : List (ClassId × FieldType)} {sz : Nat} {U : State} (hX : ∀ a q, X a = some q → 1000 ≤ a) (hle : S.length ≤ S'.length) (hC : aCx X S ad cA D tys sz U) (ha : ∀ a, a < S.length ∨ 1000 ≤ a → ad' a = ad a) (hA : ∀ q, aA ad' S' sz q ↔ aA ad S sz q) (hK : va_K D vwCl tys' U) (hT : ∀ i t n : Nat, S'[i]? = some (.inr (t, n)) → ∃ t0 : Nat, tys'[t0]? = some (cA' i, aFt t)) (hI : aInj ad' S') : aCx X S' ad' cA' D tys' sz U := by
  obtain ⟨hsz, -, -, -, hE, hZ, hN, hR⟩ := hC
  refine ⟨hsz, hK, hT, hI, fun a n f hs h => ?_, fun q hq => ?_, hN, fun q hq => ?_⟩
  · have hs0 : S[a]? = none := by
      rw [List.getElem?_eq_none_iff] at hs ⊢
      omega
    obtain ⟨cell, e1, e2, e3, e4, e5, e6, e7⟩ := hE a n f hs0 h
    rw [ha a (Or.inr (hX a _ h))]
    exact ⟨cell, e1, e2, e3, e4, e5, e6, fun z => e7 ((hA _).mp z)⟩
  · have h1 := (hZ q hq).narrow (B := aA ad' S' sz) (fun x hx => (hA x).mp hx)
    have e : ad' q.1 = ad q.1 := by
      apply ha
      right
      simp only [aStat, List.mem_cons, List.not_mem_nil, or_false] at hq
      rcases hq with rfl | rfl | rfl <;> decide
    rw [e]
    exact h1
  · have h1 := hR q hq
    have e : ad' q.2.2.2 = ad q.2.2.2 := by
      apply ha
      right
      simp only [aStrK, List.mem_cons, List.not_mem_nil, or_false] at hq
      rcases hq with rfl | rfl | rfl | rfl | rfl <;> decide
    rw [e]
    exact h1
end
section
/-! SOUNDNESS of the making machine, its runs -/
def aNC (own : String) (q : Nat × Nat × Nat × Nat × Nat) : Bool := match vwCl[q.2.1]? with
  | some r => aWd q.2.2.1 (.classLink own q.1 r.1) && (aWd q.2.2.2.1 (.instantiable r.1 r.2.2) && aWd q.2.2.2.2 (.initialized r.1))
  | none => false
def aSC (Cs : List aMk) (own : String) (q : Nat × Nat × Nat × Nat × Nat × Nat × Nat) : Bool := match q.2.1 with
  | 0 => aWd q.2.2.2.2.1 (.methodLink own q.1 objectInit) && (aWd q.2.2.2.2.2.1 (.instanceMethod objectInit) && aWd q.2.2.2.2.2.2 (.code objectInit ⟨#[0xb1]⟩ 1 none))
  | kd + 1 => match Cs[q.2.2.1]? with
    | some M => (decide ((aY M.1).cls ≠ "java/lang/invoke/MethodHandle") && (decide ((aY M.1).cls ≠ "java/lang/invoke/VarHandle") && decide ((parseMethodDescriptor (aY M.1).desc).map (fun d => d.parameters.length) = some q.2.2.2.1))) && ((aWd q.2.2.2.2.2.1 (.instanceMethod (aY M.1)) && aWd q.2.2.2.2.2.2 (.initialized (aY M.1).cls)) && (match kd with
      | 0 => aWd q.2.2.2.2.1 (.methodLink own q.1 (aY M.1))
      | _ => decide (Cond.methodLinkNest own q.1 (aY M.1) "HalfDone" ∈ aNestM)))
    | none => false
def aUC (own : String) (q : Nat × Nat) : Bool := aWd q.2 (.classLink own q.1 "[[I")
def aMkC (Cs : List aMk) (M : aMk) : Bool := (M.2.1.all (aNC (aOwn M.1)) && (M.2.2.1.all (aSC Cs (aOwn M.1)) && M.2.2.2.all (aUC (aOwn M.1)))) && (aCoC M.1 && aStrOK (aCs M.1))
def aCtC (M : aMk) : Bool := aMC M.1 && (decide ((aY M.1).name = "<init>") && decide (aRt M.1 = none))
set_option maxRecDepth 100000 in
theorem aOT_0 : aMkC aCt aK_X0_init = true := by decide +kernel
set_option maxRecDepth 100000 in
theorem aOU_0 : aCtC aK_X0_init = true := by decide +kernel
set_option maxRecDepth 100000 in
theorem aOT_1 : aMkC aCt aK_X1_init = true := by decide +kernel
set_option maxRecDepth 100000 in
theorem aOU_1 : aCtC aK_X1_init = true := by decide +kernel
set_option maxRecDepth 100000 in
theorem aOT_2 : aMkC aCt aK_X2_init = true := by decide +kernel
set_option maxRecDepth 100000 in
theorem aOU_2 : aCtC aK_X2_init = true := by decide +kernel
set_option maxRecDepth 100000 in
theorem aOT_3 : aMkC aCt aK_X3_init = true := by decide +kernel
set_option maxRecDepth 100000 in
theorem aOU_3 : aCtC aK_X3_init = true := by decide +kernel
set_option maxRecDepth 100000 in
theorem aOT_4 : aMkC aCt aK_X4_init = true := by decide +kernel
set_option maxRecDepth 100000 in
theorem aOU_4 : aCtC aK_X4_init = true := by decide +kernel
set_option maxRecDepth 100000 in
theorem aOT_5 : aMkC aCt aK_X5_init = true := by decide +kernel
set_option maxRecDepth 100000 in
theorem aOU_5 : aCtC aK_X5_init = true := by decide +kernel
set_option maxRecDepth 100000 in
theorem aOT_6 : aMkC aCt aK_X6_init = true := by decide +kernel
set_option maxRecDepth 100000 in
theorem aOU_6 : aCtC aK_X6_init = true := by decide +kernel
set_option maxRecDepth 100000 in
theorem aOT_7 : aMkC aCt aK_X7_init = true := by decide +kernel
set_option maxRecDepth 100000 in
theorem aOU_7 : aCtC aK_X7_init = true := by decide +kernel
set_option maxRecDepth 100000 in
theorem aOT_8 : aMkC aCt aK_X8_init = true := by decide +kernel
set_option maxRecDepth 100000 in
theorem aOU_8 : aCtC aK_X8_init = true := by decide +kernel
set_option maxRecDepth 100000 in
theorem aOT_9 : aMkC aCt aK_X9_init = true := by decide +kernel
set_option maxRecDepth 100000 in
theorem aOU_9 : aCtC aK_X9_init = true := by decide +kernel
set_option maxRecDepth 100000 in
theorem aOT_10 : aMkC aCt aK_X10_init = true := by decide +kernel
set_option maxRecDepth 100000 in
theorem aOU_10 : aCtC aK_X10_init = true := by decide +kernel
set_option maxRecDepth 100000 in
theorem aOT_11 : aMkC aCt aK_X11_init = true := by decide +kernel
set_option maxRecDepth 100000 in
theorem aOU_11 : aCtC aK_X11_init = true := by decide +kernel
set_option maxRecDepth 100000 in
theorem aOT_12 : aMkC aCt aK_X12_init = true := by decide +kernel
set_option maxRecDepth 100000 in
theorem aOU_12 : aCtC aK_X12_init = true := by decide +kernel
theorem aCt_ok : ∀ M ∈ aCt, aMkC aCt M = true ∧ aCtC M = true ∧ aClC aProg (aCs M.1) = true := List.forall_mem_cons.mpr ⟨⟨aOT_0, aOU_0, aOC_RX0⟩, List.forall_mem_cons.mpr ⟨⟨aOT_1, aOU_1, aOC_RX1⟩, List.forall_mem_cons.mpr ⟨⟨aOT_2, aOU_2, aOC_RX2⟩, List.forall_mem_cons.mpr ⟨⟨aOT_3, aOU_3, aOC_RX3⟩, List.forall_mem_cons.mpr ⟨⟨aOT_4, aOU_4, aOC_RX4⟩, List.forall_mem_cons.mpr ⟨⟨aOT_5, aOU_5, aOC_RX5⟩, List.forall_mem_cons.mpr ⟨⟨aOT_6, aOU_6, aOC_RX6⟩, List.forall_mem_cons.mpr ⟨⟨aOT_7, aOU_7, aOC_RX7⟩, List.forall_mem_cons.mpr ⟨⟨aOT_8, aOU_8, aOC_RX8⟩, List.forall_mem_cons.mpr ⟨⟨aOT_9, aOU_9, aOC_RX9⟩, List.forall_mem_cons.mpr ⟨⟨aOT_10, aOU_10, aOC_RX10⟩, List.forall_mem_cons.mpr ⟨⟨aOT_11, aOU_11, aOC_RX11⟩, List.forall_mem_cons.mpr ⟨⟨aOT_12, aOU_12, aOC_RX12⟩, fun _ h => absurd h List.not_mem_nil⟩⟩⟩⟩⟩⟩⟩⟩⟩⟩⟩⟩⟩
end
section
/-! SOUNDNESS of the making machine, its steps -/
def aNR (v : Value) : Bool := match v with
  | .ref _ => false
  | _ => true
theorem aV_nr {ad : Nat → Nat} {v : Value} (h : aNR v = true) : aV ad v = v := by
  cases v with
  | ref a => cases h
  | _ => rfl
def aDfC : Bool := (List.range 13).all (fun ci => match vwCl[ci]? with
  | some r => (List.range r.2.2).all (fun k => decide ((parseFieldDescriptor (r.2.1 k).2.2.1).map defaultValue = some (aDf ci k)) && aNR (aDf ci k))
  | none => false)
set_option maxRecDepth 100000 in
theorem aDfC_ok : aDfC = true := by decide +kernel
theorem aDf_ok {ci : Nat} {C : String} {T : u_T} {N : Nat} (h : vwCl[ci]? = some (C, T, N)) : ∀ k, k < N → (parseFieldDescriptor (T k).2.2.1).map defaultValue = some (aDf ci k) ∧ aNR (aDf ci k) = true := by
  intro k hk
  have hl : ci < 13 := (List.getElem?_eq_some_iff.mp h).1
  have h1 := List.all_eq_true.mp aDfC_ok ci (List.mem_range.mpr hl)
  rw [h] at h1
  have h2 := List.all_eq_true.mp h1 k (List.mem_range.mpr hk)
  simp only [Bool.and_eq_true, decide_eq_true_eq] at h2
  exact h2
/-- final fields, set by their own class's constructor -/
def aPFC (M : aM) : Bool := (aCo M).all (fun q => match q.2.1 with
  | .putfield i => match aFd (aCs M).2.1 i with
    | some (ci, k, kd, _) => match Nat.beq kd 9 with
      | true => (match vwCl[ci]? with
        | some r => decide ((r.2.1 k).1 = aOwn M) && ((r.2.1 k).2.2.2 && (match parseFieldDescriptor (r.2.1 k).2.2.1 with
          | some ty => ty.isReference
          | none => false))
        | none => false)
      | false => true
    | none => false
  | _ => true)
set_option maxRecDepth 100000 in
theorem aPFC_all : aCt.all (fun M => aPFC M.1) = true := by decide +kernel
theorem aWdA : aWd 174 (.arrayClass .int) = true ∧ aWd 1341 (.arrayClass .byte) = true ∧ aWd 1532 (.arrayClass .boolean) = true ∧ aWd 2035 (.arrayClass .long) = true := by decide +kernel
def aAO (U : State) : Prop := (Cond.arrayOver (.array .int)).before #[] U = true
theorem aAO_moved {u U : State} (hvm : u.vm.Alike U.vm) (h : aAO u) : aAO U := by
  obtain ⟨comp, c, k, h1, h2, h3, h4, h5⟩ := arrayOverA_spec h
  obtain ⟨k', hk', he⟩ := hvm.2.2 _ _ h3
  have hi : (U.vm.classes.findIdx? fun (x : Class) => match x.kind with | .array component _ => component == comp | _ => false) = some c := by
    have e1 := va_idx_bare U.vm comp
    rw [hvm.bare_eq] at e1
    exact e1.symm.trans ((va_idx_bare u.vm comp).trans h2)
  have hkind : k'.kind = .array comp (.array .int) := by rw [he]; exact h4
  have f1 : U.vm.findClass (FieldType.array .int).toString = some comp := by rw [hvm.findClass]; exact h1
  have f2 : U.vm.findClass ("[" ++ (FieldType.array .int).toString) = some c := by rw [hvm.findClass]; exact h5
  unfold aAO Cond.before Cond.holds
  simp only [Cond.value]
  rw [f1, Option.bind_some]
  refine (congrArg (fun o : Option Nat => (o.bind (fun c => (U.vm.classes[c]?).map fun (k : Class) => match k.kind with | .array _ ty => decide (ty = FieldType.array .int) && decide (U.vm.findClass ("[" ++ (FieldType.array .int).toString) = some c) | _ => false) == some true)) hi).trans ?_
  simp [hk', hkind, f2]
section AS
variable {p : Program} {l : Launch} {e : Env} {R : Room} {s : State} {m : MethodId} {args : Array Value} {below : List Frame} {meth : Method} {c : Code} {H : Heap} {locs : List Loc} {cells slots : Nat} {Q : State → Prop}
variable {X : aXt} {S : List aSh} {ad : Nat → Nat} {cA : Nat → ClassId} {D : va_G} {tys : List (ClassId × FieldType)} {pc : Nat} {lv st : List Value} {σ : aSt} {ls : Array Slot}
/-- the old cells keep their addresses, the new ones lie apart -/
theorem aK_grow {N : List aSh} {new : va_W} {n : Nat} {ad' : Nat → Nat} {cA' : Nat → ClassId} {σ' : aSt} {tys' : List (ClassId × FieldType)} (hX : ∀ a q, X a = some q → 1000 ≤ a) (hC : aCx X S ad cA D tys s.heap.size s) (hlv : lv.all (aFr S.length) = true) (hst : st.all (aFr S.length) = true) (hfr : aFrS S.length σ 0 S = true) (hlen : new.length = N.length)
    (ha : ∀ a, a < S.length ∨ 1000 ≤ a → ad' a = ad a) (hc : ∀ i, i < S.length → cA' i = cA i) (hs : ∀ i, i < S.length → σ' i = σ i)
    (hnew : ∀ (j : Nat) (sh : aSh), N[j]? = some sh → new[j]? = some (ad' (S.length + j), aE ad' (cA' (S.length + j)) (σ' (S.length + j)) sh))
    (hP : va_P D vwCl (aW ad cA S σ ++ new) H) (hD : va_D (aA ad S s.heap.size) (aW ad cA S σ ++ new)) (hS : va_S (aA ad S s.heap.size) s.heap H locs) (hl : aLs ad ls n lv)
    (hK : va_K D vwCl tys' s) (hT0 : ∀ (k : Nat) (q : ClassId × FieldType), tys[k]? = some q → tys'[k]? = some q) (hT : ∀ j t n : Nat, N[j]? = some (.inr (t, n)) → ∃ t0 : Nat, tys'[t0]? = some (cA' (S.length + j), aFt t)) :
    aCx X (S ++ N) ad' cA' D tys' s.heap.size s ∧ (∀ q, aA ad' (S ++ N) s.heap.size q ↔ aA ad S s.heap.size q) ∧ aWo (S ++ N) ad' cA' D s σ' H locs ∧ aLs ad' ls n lv ∧ st.map (aV ad') = st.map (aV ad) := by
  obtain ⟨h1, h2, h3⟩ := aW_grow hfr hlen ha hc hs hnew hP hD
  have hge : ∀ i, S.length ≤ i → i < (S ++ N).length → s.heap.size ≤ ad' i := by
    intro i h4 h5
    rcases h3 i h4 h5 with ⟨j, hj, e⟩ | h
    · have := h2 j i (by rw [List.length_append]; omega) h5 (by rw [ha j (Or.inl hj)]; exact e)
      omega
    · exact h
  have hle : S.length ≤ (S ++ N).length := by rw [List.length_append]; omega
  have hA := aA_grow (sz := s.heap.size) hle (fun i hi => ha i (Or.inl hi)) hge
  refine ⟨aCx_grow hX hle hC ha hA hK ?_ h2, hA, ⟨h1, va_S_iff (fun q => (hA q).symm) hS⟩, aLs_move ha hlv hl, aMap_move ha hst⟩
  intro i t n0 hi
  by_cases hlt : i < S.length
  · rw [List.getElem?_append_left hlt] at hi
    obtain ⟨t0, ht⟩ := hC.2.2.1 i t n0 hi
    exact ⟨t0, by rw [hc i hlt]; exact hT0 _ _ ht⟩
  · rw [List.getElem?_append_right (by omega)] at hi
    obtain ⟨t0, ht⟩ := hT _ t n0 hi
    rw [show S.length + (i - S.length) = i by omega] at ht
    exact ⟨t0, ht⟩
end AS
end
section
/-! SOUNDNESS of the making machine: new cells -/
/-- behind a step that makes cells -/
def aKM (p : Program) (l : Launch) (e : Env) (R : Room) (s : State) (m : MethodId) (args : Array Value) (below : List Frame) (meth : Method) (c : Code) (cells slots : Nat) (Q : State → Prop) (X : aXt) (S : List aSh) (ad : Nat → Nat) (D : va_G) (M : aM) (S' : List aSh) (pc : Nat) (lv st : List Value) (σ : aSt) : Prop :=
  ∀ (ad' : Nat → Nat) (cA' : Nat → ClassId) (tys' : List (ClassId × FieldType)) (H1 : Heap) (locs1 : List Loc) (ls1 : Array Slot), (∀ a, a < S.length ∨ 1000 ≤ a → ad' a = ad a) → aCx X S' ad' cA' D tys' s.heap.size s → (∀ q, aA ad' S' s.heap.size q ↔ aA ad S s.heap.size q) → aWo S' ad' cA' D s σ H1 locs1 → aLs ad' ls1 (aML M) lv → W p l e R s m args below meth c H1 locs1 cells slots Q (F0 m pc ls1 (st.map (aV ad')))
/-- new int[n][k], stated here, shown at the end -/
def aMna (l : Launch) : Prop := ∀ {p : Program} {e : Env} {R : Room} {s : State} {m : MethodId} {args : Array Value} {below : List Frame} {meth : Method} {c : Code} {H H0 : Heap} {locs : List Loc} {cells slots : Nat} {Q : State → Prop} {cc : ByteArray} {pc index : Nat} {ls : Array Slot} {rest : List Value} {D : va_G} {A : Nat → Prop} {tys : List (ClassId × FieldType)} {ws : va_W} {own : String} {n k : Int32},
  p.tables.exec = Jvm.exec → c.code = cc → s.vm.findClass own = some m.cls → (Cond.classLink own index "[[I").before args s = true → aAO s → (Cond.arrayClass .int).before args s = true → va_K D vwCl tys s → va_P D vwCl ws H → va_D A ws → va_S A H0 H locs → (∀ q, H0.size ≤ q → A q) → ¬ n < 0 → ¬ k < 0 → n.toNatClampNeg ≤ 60 → k.toNatClampNeg ≤ 1000 →
  cells + (1 + n.toNatClampNeg) ≤ R.cells → slots + (n.toNatClampNeg + n.toNatClampNeg * k.toNatClampNeg) ≤ R.slots → decode cc pc = .ok (.multianewarray index 2, 4) →
  (∀ (q : Nat) (cO cI : ClassId) (H1 : Heap), va_K D vwCl (tys ++ [(cO, .array .int), (cI, .int)]) s → va_P D vwCl (ws ++ ((q, .inl (cO, n.toNatClampNeg, .inr (.inr (.inr (.inr (fun i => if i < n.toNatClampNeg then some (q + 1 + i) else none)))))) :: (List.range n.toNatClampNeg).map (fun i => (q + 1 + i, .inl (cI, k.toNatClampNeg, .inl (fun _ => 0)))))) H1 →
    va_D A (ws ++ ((q, .inl (cO, n.toNatClampNeg, .inr (.inr (.inr (.inr (fun i => if i < n.toNatClampNeg then some (q + 1 + i) else none)))))) :: (List.range n.toNatClampNeg).map (fun i => (q + 1 + i, .inl (cI, k.toNatClampNeg, .inl (fun _ => 0)))))) → va_S A H0 H1 locs →
    W p l e R s m args below meth c H1 locs (cells + 1 + n.toNatClampNeg) (slots + n.toNatClampNeg + n.toNatClampNeg * k.toNatClampNeg) Q (F0 m (pc + 4) ls (.ref q :: rest))) →
  W p l e R s m args below meth c H locs cells slots Q (F0 m pc ls (.int k :: .int n :: rest))
section AS
variable {p : Program} {l : Launch} {e : Env} {R : Room} {s : State} {m : MethodId} {args : Array Value} {below : List Frame} {meth : Method} {c : Code} {H : Heap} {locs : List Loc} {cells slots : Nat} {Q : State → Prop}
variable {X : aXt} {S : List aSh} {ad : Nat → Nat} {cA : Nat → ClassId} {D : va_G} {tys : List (ClassId × FieldType)} {pc : Nat} {lv st : List Value} {σ : aSt} {ls : Array Slot} {M : aMk}
theorem aK_new {i ci : Nat} {w : Nat × Nat × Nat} (hF : aFx M.1 p s m c args) (hmk : M.2.1.all (aNC (aOwn M.1)) = true) (hX : ∀ a q, X a = some q → 1000 ≤ a) (hC : aCx X S ad cA D tys s.heap.size s) (hfr : aFrA lv st σ S = true) (hf : aFd M.2.1 i = some (ci, w)) (hcells : cells + 1 ≤ R.cells) (hslots : slots + aNf ci ≤ R.slots) (hd : decode (aBy M.1) pc = .ok (.new i, 3)) (hW : aWo S ad cA D s σ H locs) (hl : aLs ad ls (aML M.1) lv)
    (kk : aKM p l e R s m args below meth c (cells + 1) (slots + aNf ci) Q X S ad D M.1 (S ++ [.inl ci]) (pc + 3) lv (.ref S.length :: st) (aNw σ S.length (aDf ci))) : W p l e R s m args below meth c H locs cells slots Q (F0 m pc ls (st.map (aV ad))) := by
  obtain ⟨hx, hb, hml, hown, hts⟩ := hF
  obtain ⟨hP, hS⟩ := hW
  have h1 := List.all_eq_true.mp hmk _ (aFd_mem hf)
  unfold aNC at h1
  split at h1
  · rename_i r hr
    simp only at hr
    obtain ⟨C, T, N⟩ := r
    simp only [Bool.and_eq_true] at h1
    obtain ⟨w1, w2, w3⟩ := h1
    have hN := aNf_of hr
    rw [hN] at hslots kk
    obtain ⟨ty0, hty, hnm⟩ := aNmX hr
    simp only [aFrA, Bool.and_eq_true] at hfr
    obtain ⟨hlv, hst, hfs, hsz⟩ := hfr
    have hsz := Nat.blt_eq.mp hsz
    refine va_new (fs := (List.range N).map (aDf ci)) hx hb hts (aUws_in hr) ty0 hty hown (hts _ (aWd_mem w1)) (hts _ (aWd_mem w2)) (hts _ (aWd_mem w3)) hC.2.1 hP (aW_D hC.2.2.2.1) hS (fun q hq => Or.inr hq) hr (fun j hj => ?_) hcells hslots hd (fun q H1 hP1 hD1 hS1 => ?_)
    · have h2 := (aDf_ok hr j hj).1
      rw [hty j hj, Option.map_some] at h2
      rw [Option.some.inj h2]
      simp [vp_V, hj]
    · have ha : ∀ a, a < S.length ∨ 1000 ≤ a → (fun a => if a = S.length then q else ad a) a = ad a := by
        intro a h
        have : a ≠ S.length := by omega
        simp only [this, if_false]
      obtain ⟨g1, g2, g3, g4, g5⟩ := aK_grow (N := [.inl ci]) (ad' := fun a => if a = S.length then q else ad a) (cA' := cA) (σ' := aNw σ S.length (aDf ci)) (tys' := tys) hX hC hlv hst hfs rfl ha (fun _ _ => rfl) (fun i hi => by
          funext j
          have : i ≠ S.length := by omega
          simp only [aNw, this, if_false]) (fun j sh hj => by
          have h0 : j < 1 := (List.getElem?_eq_some_iff.mp hj).1
          have h0 : j = 0 := by omega
          subst h0
          cases hj
          show some _ = some _
          rw [aE_obj, hN]
          refine congrArg some (Prod.ext (by simp) ?_)
          refine congrArg (fun z => (Sum.inr (ci, z) : va_E)) (List.map_congr_left (fun k hk => ?_))
          have hk := List.mem_range.mp hk
          simp only [aNw, Nat.add_zero, if_true]
          exact (aV_nr (aDf_ok hr k hk).2).symm) hP1 hD1 hS1 hl hC.2.1 (fun _ _ h => h) (fun j t n hj => by
          have h0 : j < 1 := (List.getElem?_eq_some_iff.mp hj).1
          have h0 : j = 0 := by omega
          subst h0
          cases hj)
      have h3 := kk _ cA tys H1 locs ls ha g1 g2 g3 g4
      rw [List.map_cons, g5] at h3
      simp only [aV, if_true] at h3
      exact h3
  · cases h1
def aTy (t : ArrayType) : FieldType := newarray.typeOf t
def aA0 (tc n : Nat) : vp_A := match tc with
  | 3 => (n, .inr (.inl (fun _ => 0)))
  | _ => (n, .inl (fun _ => 0))
theorem aTc_ok {t : ArrayType} {tc : Nat} (h : aTc t = some tc) : Cond.arrayClass (newarray.typeOf t) ∈ aTB ∧ aFt tc = newarray.typeOf t ∧ componentBytes (newarray.typeOf t) ≤ 8 ∧ (∀ (cA : ClassId) (n : Nat), vp_cell cA (aA0 tc n) = arrV cA n (fun _ => defaultValue (newarray.typeOf t))) ∧ ∀ (ad : Nat → Nat) (c : ClassId) (n : Nat), aE ad c (fun _ => aZr tc) (.inr (tc, n)) = .inl (c, aA0 tc n) := by
  cases t <;> cases h
  · exact ⟨aWd_mem aWdA.2.2.1, rfl, by decide, fun _ _ => rfl, fun _ _ _ => rfl⟩
  · exact ⟨aWd_mem aWdA.2.1, rfl, by decide, fun _ _ => rfl, fun _ _ _ => rfl⟩
  · exact ⟨aWd_mem aWdA.1, rfl, by decide, fun _ _ => rfl, fun _ _ _ => rfl⟩
  · exact ⟨aWd_mem aWdA.2.2.2, rfl, by decide, fun _ _ => rfl, fun _ _ _ => rfl⟩
theorem aK_newa {t : ArrayType} {tc : Nat} {n : Int32} (hF : aFx M.1 p s m c args) (hX : ∀ a q, X a = some q → 1000 ≤ a) (hC : aCx X S ad cA D tys s.heap.size s) (hfr : aFrA lv (.int n :: st) σ S = true) (htc : aTc t = some tc) (hn : ¬ n < 0) (hn2 : n.toNatClampNeg ≤ 10000) (hcells : cells + 1 ≤ R.cells) (hslots : slots + n.toNatClampNeg ≤ R.slots) (hd : decode (aBy M.1) pc = .ok (.newarray t, 2)) (hW : aWo S ad cA D s σ H locs) (hl : aLs ad ls (aML M.1) lv)
    (kk : aKM p l e R s m args below meth c (cells + 1) (slots + n.toNatClampNeg) Q X S ad D M.1 (S ++ [.inr (tc, n.toNatClampNeg)]) (pc + 2) lv (.ref S.length :: st) (aNw σ S.length (fun _ => aZr tc))) : W p l e R s m args below meth c H locs cells slots Q (F0 m pc ls ((.int n :: st).map (aV ad))) := by
  obtain ⟨hx, hb, hml, hown, hts⟩ := hF
  obtain ⟨hP, hS⟩ := hW
  obtain ⟨k1, k2, k3, k4, k5⟩ := aTc_ok htc
  simp only [aFrA, Bool.and_eq_true] at hfr
  obtain ⟨hlv, hst, hfs, hsz⟩ := hfr
  have hsz := Nat.blt_eq.mp hsz
  have hst : st.all (aFr S.length) = true := by
    rw [List.all_cons, Bool.and_eq_true] at hst
    exact hst.2
  refine va_newa (a0 := aA0 tc n.toNatClampNeg) hx hb (hts _ k1) rfl hC.2.1 hP (aW_D hC.2.2.2.1) hS (fun q hq => Or.inr hq) (fun z => k4 z _) hn rfl ?_ hcells hslots hd (fun q cN H1 hK1 hP1 hD1 hS1 => ?_)
  · calc n.toNatClampNeg * componentBytes (newarray.typeOf t) ≤ 10000 * 8 := Nat.mul_le_mul hn2 k3
      _ ≤ 536870912 := by decide
  · have ha : ∀ a, a < S.length ∨ 1000 ≤ a → (fun a => if a = S.length then q else ad a) a = ad a := by
      intro a h
      have : a ≠ S.length := by omega
      simp only [this, if_false]
    obtain ⟨g1, g2, g3, g4, g5⟩ := aK_grow (N := [.inr (tc, n.toNatClampNeg)]) (ad' := fun a => if a = S.length then q else ad a) (cA' := fun a => if a = S.length then cN else cA a) (σ' := aNw σ S.length (fun _ => aZr tc)) (tys' := tys ++ [(cN, newarray.typeOf t)]) hX hC hlv hst hfs rfl ha (fun i hi => by
        have : i ≠ S.length := by omega
        simp only [this, if_false]) (fun i hi => by
        funext j
        have : i ≠ S.length := by omega
        simp only [aNw, this, if_false]) (fun j sh hj => by
        have h0 : j < 1 := (List.getElem?_eq_some_iff.mp hj).1
        have h0 : j = 0 := by omega
        subst h0
        cases hj
        show some _ = some _
        refine congrArg some (Prod.ext (by simp) ?_)
        have e : aNw σ S.length (fun _ => aZr tc) (S.length + 0) = fun _ => aZr tc := by
          funext j
          simp [aNw]
        rw [e, k5]
        simp) hP1 hD1 hS1 hl hK1 (fun k q h => by
        rw [List.getElem?_append_left (List.getElem?_eq_some_iff.mp h).1]
        exact h) (fun j t9 n9 hj => by
        have h0 : j < 1 := (List.getElem?_eq_some_iff.mp hj).1
        have h0 : j = 0 := by omega
        subst h0
        cases hj
        refine ⟨tys.length, ?_⟩
        rw [List.getElem?_append_right (Nat.le_refl _), Nat.sub_self, k2]
        simp)
    have h3 := kk _ _ _ H1 locs ls ha g1 g2 g3 g4
    rw [List.map_cons, g5] at h3
    simp only [aV, if_true] at h3
    exact h3
end AS
end
section
/-! SOUNDNESS of the making machine: arrays of arrays, final fields, constructors called -/
section AS
variable {p : Program} {l : Launch} {e : Env} {R : Room} {s : State} {m : MethodId} {args : Array Value} {below : List Frame} {meth : Method} {c : Code} {H : Heap} {locs : List Loc} {cells slots : Nat} {Q : State → Prop}
variable {X : aXt} {S : List aSh} {ad : Nat → Nat} {cA : Nat → ClassId} {D : va_G} {tys : List (ClassId × FieldType)} {pc : Nat} {lv st : List Value} {σ : aSt} {ls : Array Slot} {M : aMk}
theorem aK_multi {i w : Nat} {n k : Int32} (hMna : aMna l) (hAO : aAO s) (hF : aFx M.1 p s m c args) (hmk : M.2.2.2.all (aUC (aOwn M.1)) = true) (hX : ∀ a q, X a = some q → 1000 ≤ a) (hC : aCx X S ad cA D tys s.heap.size s) (hfr : aFrA lv (.int k :: .int n :: st) σ S = true) (hf : aFd M.2.2.2 i = some w) (hn : ¬ n < 0) (hk : ¬ k < 0) (hn2 : n.toNatClampNeg ≤ 60) (hk2 : k.toNatClampNeg ≤ 1000) (hcells : cells + (1 + n.toNatClampNeg) ≤ R.cells) (hslots : slots + (n.toNatClampNeg + n.toNatClampNeg * k.toNatClampNeg) ≤ R.slots) (hd : decode (aBy M.1) pc = .ok (.multianewarray i 2, 4)) (hW : aWo S ad cA D s σ H locs) (hl : aLs ad ls (aML M.1) lv)
    (kk : aKM p l e R s m args below meth c (cells + 1 + n.toNatClampNeg) (slots + n.toNatClampNeg + n.toNatClampNeg * k.toNatClampNeg) Q X S ad D M.1 (S ++ (.inr (4, n.toNatClampNeg) :: List.replicate n.toNatClampNeg (.inr (0, k.toNatClampNeg)))) (pc + 4) lv (.ref S.length :: st) (aNw2 σ S.length n.toNatClampNeg)) : W p l e R s m args below meth c H locs cells slots Q (F0 m pc ls ((.int k :: .int n :: st).map (aV ad))) := by
  obtain ⟨hx, hb, hml, hown, hts⟩ := hF
  obtain ⟨hP, hS⟩ := hW
  have h1 := List.all_eq_true.mp hmk _ (aFd_mem hf)
  simp only [aUC] at h1
  simp only [aFrA, Bool.and_eq_true] at hfr
  obtain ⟨hlv, hst, hfs, hsz⟩ := hfr
  have hsz := Nat.blt_eq.mp hsz
  have hst : st.all (aFr S.length) = true := by
    simp only [List.all_cons, Bool.and_eq_true] at hst
    exact hst.2.2
  refine hMna hx hb hown (hts _ (aWd_mem h1)) hAO (hts _ (aWd_mem aWdA.1)) hC.2.1 hP (aW_D hC.2.2.2.1) hS (fun q hq => Or.inr hq) hn hk hn2 hk2 hcells hslots hd (fun q cO cI H1 hK1 hP1 hD1 hS1 => ?_)
  have ha : ∀ a, a < S.length ∨ 1000 ≤ a → (fun x => if S.length ≤ x ∧ x < S.length + 1 + n.toNatClampNeg then q + (x - S.length) else ad x) a = ad a := by
    intro a h
    have : ¬ (S.length ≤ a ∧ a < S.length + 1 + n.toNatClampNeg) := by omega
    simp only [this, if_false]
  obtain ⟨g1, g2, g3, g4, g5⟩ := aK_grow (N := .inr (4, n.toNatClampNeg) :: List.replicate n.toNatClampNeg (.inr (0, k.toNatClampNeg))) (ad' := fun x => if S.length ≤ x ∧ x < S.length + 1 + n.toNatClampNeg then q + (x - S.length) else ad x) (cA' := fun x => if x = S.length then cO else if S.length < x then cI else cA x) (σ' := aNw2 σ S.length n.toNatClampNeg) (tys' := tys ++ [(cO, .array .int), (cI, .int)]) hX hC hlv hst hfs (by simp) ha (fun i hi => by
      have h2 : i ≠ S.length := by omega
      have h3 : ¬ S.length < i := by omega
      simp only [h2, h3, if_false]) (fun i hi => by
      funext j
      have h2 : i ≠ S.length := by omega
      simp only [aNw2, h2, hi, if_false, if_true]) (fun j sh hj => by
      cases j with
      | zero =>
        cases hj
        show some _ = some _
        refine congrArg some (Prod.ext ?_ ?_)
        · have h2 : S.length ≤ S.length + 0 ∧ S.length + 0 < S.length + 1 + n.toNatClampNeg := by omega
          simp only [h2, and_self, if_true]
          omega
        · show Sum.inl _ = Sum.inl _
          refine congrArg Sum.inl (Prod.ext ?_ (Prod.ext rfl ?_))
          · simp
          · show Sum.inr (Sum.inr (Sum.inr (Sum.inr _))) = Sum.inr (Sum.inr (Sum.inr (Sum.inr _)))
            refine congrArg (fun z => Sum.inr (Sum.inr (Sum.inr (Sum.inr z)))) (funext fun i => ?_)
            simp only [aNw2, Nat.add_zero, if_true]
            by_cases hi : i < n.toNatClampNeg
            · have h2 : S.length ≤ S.length + 1 + i ∧ S.length + 1 + i < S.length + 1 + n.toNatClampNeg := by omega
              simp only [hi, if_true, aRf, h2, and_self]
              exact congrArg some (by omega)
            · simp only [hi, if_false, aRf]
      | succ j =>
        rw [List.getElem?_cons_succ, List.getElem?_replicate] at hj
        split at hj
        · rename_i hjn
          cases hj
          rw [List.getElem?_cons_succ, List.getElem?_map, List.getElem?_range hjn]
          show some _ = some _
          refine congrArg some (Prod.ext ?_ ?_)
          · have h2 : S.length ≤ S.length + (j + 1) ∧ S.length + (j + 1) < S.length + 1 + n.toNatClampNeg := by omega
            simp only [h2, and_self, if_true]
            omega
          · have h2 : S.length + (j + 1) ≠ S.length := by omega
            have h3 : ¬ S.length + (j + 1) < S.length := by omega
            have h4 : S.length < S.length + (j + 1) := by omega
            simp only [aE, aNw2, h2, h3, h4, if_false, if_true, aI]
        · cases hj) hP1 hD1 hS1 hl hK1 (fun k q h => by
      rw [List.getElem?_append_left (List.getElem?_eq_some_iff.mp h).1]
      exact h) (fun j t9 n9 hj => by
      cases j with
      | zero =>
        cases hj
        refine ⟨tys.length, ?_⟩
        rw [List.getElem?_append_right (Nat.le_refl _), Nat.sub_self]
        simp [aFt]
      | succ j =>
        rw [List.getElem?_cons_succ, List.getElem?_replicate] at hj
        split at hj
        · cases hj
          refine ⟨tys.length + 1, ?_⟩
          rw [List.getElem?_append_right (by omega), show tys.length + 1 - tys.length = 1 by omega]
          have h2 : S.length + (j + 1) ≠ S.length := by omega
          have h4 : S.length < S.length + (j + 1) := by omega
          simp only [h2, h4, if_false, if_true, aFt]
          rfl
        · cases hj)
  have h3 := kk _ _ _ H1 locs ls ha g1 g2 g3 g4
  rw [List.map_cons, g5] at h3
  have h2 : S.length ≤ S.length ∧ S.length < S.length + 1 + n.toNatClampNeg := by omega
  simp only [aV, h2, and_self, if_true, Nat.sub_self, Nat.add_zero] at h3
  exact h3
theorem aK_putF {i ci k w a b : Nat} {q : Instr × Nat} (hF : aFx M.1 p s m c args) (hcl : aClC aProg (aCs M.1) = true) (hpf : aPFC M.1 = true) (hnm0 : meth.name = "<init>") (hC : aCx X S ad cA D tys s.heap.size s) (hq : aFd (aCo M.1) pc = some q) (hqi : q.1 = .putfield i) (hf : aFd (aCs M.1).2.1 i = some (ci, k, 9, w)) (hs : S[a]? = some (.inl ci)) (hd : decode (aBy M.1) pc = .ok (.putfield i, 3)) (hW : aWo S ad cA D s σ H locs) (hl : aLs ad ls (aML M.1) lv)
    (kk : aKK p l e R s m args below meth c cells slots Q S M.1 ad cA D (pc + 3, lv, st, aUp σ a k (.ref b))) : W p l e R s m args below meth c H locs cells slots Q (F0 m pc ls ((.ref b :: .ref a :: st).map (aV ad))) := by
  obtain ⟨hx, hb, hml, hown, hts⟩ := hF
  obtain ⟨hP, hS⟩ := hW
  obtain ⟨C, T, N, hc, hk, hlink, hkd⟩ := aFC_inv (aCl_fld hcl hf)
  obtain ⟨ty0, hty, hnm⟩ := aNmX hc
  have h1 := List.all_eq_true.mp hpf _ (aFd_mem hq)
  simp only [hqi, hf, hc] at h1
  simp only [Bool.and_eq_true, decide_eq_true_eq, show Nat.beq 9 9 = true from rfl] at h1
  obtain ⟨h2, h3, h4⟩ := h1
  split at h4
  · rename_i ty hpd
    have hnf : narrow ty (.ref (ad b)) = .ref (ad b) ∧ fits ty (.ref (ad b)) = true := by
      cases ty with
      | object C => exact ⟨rfl, rfl⟩
      | array t => exact ⟨rfl, rfl⟩
      | _ => cases h4
    refine va_putF (v := .ref (ad b)) hx hb hts (aUws_in hc) ty0 hty hnm hown hC.2.1 hP (aW_D hC.2.2.2.1) hS a (aW_at hs) hc k hk (hts _ hlink) (fun _ q => q) h3 hnm0 h2 hpd hnf.1 hnf.2 (by rw [aNf_of hc, List.length_map, List.length_range]; exact hk) hd (fun H1 locs1 hP1 hD1 hS1 => kk H1 locs1 ls ⟨?_, hS1⟩ hl)
    have e2 := aW_up (ad := ad) (cA := cA) (σ := σ) (k := k) (v := .ref b) (e := .inr (ci, ((List.range (aNf ci)).map (fun k => aV ad (σ a k))).set k (aV ad (.ref b)))) hs (by
      rw [aE_obj, aFs_set])
    exact e2 ▸ hP1
  · cases h4
theorem aK_obj {i K n w1 w2 w3 : Nat} {a : Nat} (hF : aFx M.1 p s m c args) (hct : aSC aCt (aOwn M.1) (i, 0, K, n, w1, w2, w3) = true) (hroom : 1 ≤ R.frames ∧ 60 ≤ R.locals) (hcat : aCat st ≤ 8) (hd : decode (aBy M.1) pc = .ok (.invokespecial i, 3)) (hl : aLs ad ls (aML M.1) lv)
    (kk : W p l e R s m args below meth c H locs cells slots Q (F0 m (pc + 3) ls (st.map (aV ad)))) : W p l e R s m args below meth c H locs cells slots Q (F0 m pc ls ((.ref a :: st).map (aV ad))) := by
  obtain ⟨hx, hb, hml, hown, hts⟩ := hF
  simp only [aSC, Bool.and_eq_true] at hct
  obtain ⟨h1, h2, h3⟩ := hct
  have h4 : 2 * (F0 m pc ls ((.ref a :: st).map (aV ad))).monitorRoom + ((st.map (aV ad)).map fun v => v.category).sum ≤ 8 := lv_room (by rw [aCat_sum]; exact hcat)
  exact W.objInit hx hb hown (hts _ (aWd_mem h1)) (hts _ (aWd_mem h2)) (hts _ (aWd_mem h3)) (g := F0 m pc ls ((.ref a :: st).map (aV ad))) rfl (by rw [hml]; exact hl.1) (a := ad a) (rest := st.map (aV ad)) rfl hd hroom.1 (by omega) kk
end AS
/-- a constructor's contract -/
def aQm (S : List aSh) (ad : Nat → Nat) (D : va_G) (S' : List aSh) (σ' : aSt) (A : Nat → Prop) : Array Value → State → Outcome → State → Prop :=
  fun _ st o t => o = .returned none ∧ ∃ (ad' : Nat → Nat) (cA' : Nat → ClassId) (tys' : List (ClassId × FieldType)), (∀ a, a < S.length ∨ 1000 ≤ a → ad' a = ad a) ∧ va_P D vwCl (aW ad' cA' S' σ') t.heap ∧ va_K D vwCl tys' t ∧ (∀ i t n : Nat, S'[i]? = some (.inr (t, n)) → ∃ t0 : Nat, tys'[t0]? = some (cA' i, aFt t)) ∧ aInj ad' S' ∧ (∀ i, S.length ≤ i → i < S'.length → st.heap.size ≤ ad' i) ∧ va_F A st t
def aPreM (S : List aSh) (ad : Nat → Nat) (cA : Nat → ClassId) (D : va_G) (tys : List (ClassId × FieldType)) (sz : Nat) (as : List Value) (σ : aSt) : Array Value → State → Prop :=
  va_Pc (as.map (aV ad)) (fun U => va_P D vwCl (aW ad cA S σ) U.heap ∧ aCx aX0 S ad cA D tys sz U ∧ (∀ w ∈ aNestM, va_Nw w U) ∧ aAO U)
def aRmM (d mc ms : Nat) : Room := { frames := d + 6, cells := mc, slots := ms, locals := 41 * (d + 6) }
def aMetM (l : Launch) (d : Nat) (M : aMk) (as : List Value) (σ : aSt) (S : List aSh) (σ' : aSt) (S' : List aSh) (k' : Nat) : Prop :=
  ∀ (D : va_G) (ad : Nat → Nat) (cA : Nat → ClassId) (tys : List (ClassId × FieldType)) (sz : Nat), Met l (aY M.1) (aWs M.1) (aRmM d (S'.length - S.length) k') (aPreM S ad cA D tys sz as σ) (aQm S ad D S' σ' (aA ad S sz)) (S'.length - S.length) k' (aA ad S sz)
theorem aCx.x0 {X : aXt} {S : List aSh} {ad : Nat → Nat} {cA : Nat → ClassId} {D : va_G} {tys : List (ClassId × FieldType)} {sz : Nat} {U : State} (hC : aCx X S ad cA D tys sz U) : aCx aX0 S ad cA D tys sz U := by
  obtain ⟨h1, h2, h3, h4, h5, h6⟩ := hC
  exact ⟨h1, h2, h3, h4, fun a n f _ h => absurd h (by simp [aX0]), h6⟩
theorem aNestM_warm {s U : State} (hW : s.WarmedH U.vm) (h : ∀ w ∈ aNestM, va_Nw w s) : ∀ w ∈ aNestM, va_Nw w U := by
  intro w hw
  have := h w hw
  simp only [aNestM, List.mem_cons, List.not_mem_nil, or_false] at hw
  repeat' (rcases hw with rfl | hw)
  all_goals first
    | exact va_Nw.warmM hW this
    | (subst hw; exact va_Nw.warmM hW this)
theorem aNestM_same {s U : State} (hv : U.vm = s.vm) (h : ∀ w ∈ aNestM, va_Nw w s) : ∀ w ∈ aNestM, va_Nw w U := by
  intro w hw
  have := h w hw
  simp only [aNestM, List.mem_cons, List.not_mem_nil, or_false] at hw
  repeat' (rcases hw with rfl | hw)
  all_goals first
    | exact va_Nw.same rfl hv.symm this
    | (subst hw; exact va_Nw.same rfl hv.symm this)
theorem aPreM_blind {S : List aSh} {ad : Nat → Nat} {cA : Nat → ClassId} {D : va_G} {tys : List (ClassId × FieldType)} {sz : Nat} {as : List Value} {σ : aSt} : FrameBlind (aPreM S ad cA D tys sz as σ) := by
  intro a U g mk q
  obtain ⟨q0, qP, qC, qN, qA⟩ := q
  exact ⟨q0, qP, aCx.blind (U := U) (V := U.calling g mk a) rfl rfl qC, aNestM_same (s := U) (U := U.calling g mk a) rfl qN, aAO_moved (u := U) (U := U.calling g mk a) (Vm.Alike.refl U.vm) qA⟩
end
section
/-! SOUNDNESS of the making machine: calls of constructors, whole runs -/
section AS
variable {p : Program} {l : Launch} {e : Env} {R : Room} {s : State} {m : MethodId} {args : Array Value} {below : List Frame} {meth : Method} {c : Code} {H : Heap} {locs : List Loc} {cells slots : Nat} {Q : State → Prop}
variable {X : aXt} {S : List aSh} {ad : Nat → Nat} {cA : Nat → ClassId} {D : va_G} {tys : List (ClassId × FieldType)} {pc : Nat} {lv st : List Value} {σ : aSt} {ls : Array Slot} {M : aMk}
theorem aK_run {mc ms : Nat} {st0 r : List Value} {S2 : List aSh} {σ2 : aSt} {a0 : Array Value} (hX : ∀ a q, X a = some q → 1000 ≤ a) (hle : S.length ≤ S2.length) (hC : aCx X S ad cA D tys s.heap.size s) (hlv : lv.all (aFr S.length) = true) (hrv : r.all (aFr S.length) = true) (hS : va_S (aA ad S s.heap.size) s.heap H locs) (hl : aLs ad ls (aML M.1) lv)
    (hr : va_Run p l e R s m args below meth c H locs cells slots mc ms (F0 m pc ls st0) (r.map (aV ad)) (aQm S ad D S2 σ2 (aA ad S H.size) a0) (aA ad S H.size))
    (kk : aKM p l e R s m args below meth c (cells + mc) (slots + ms) Q X S ad D M.1 S2 (pc + 3) lv r σ2) : W p l e R s m args below meth c H locs cells slots Q (F0 m pc ls st0) := by
  intro T hT X0
  obtain ⟨v', st₀, t, T', L, h0, X', hL, e1, e2, ⟨hv, ad', cA', tys', ha, hP, hK, hT', hI, hge, hz, hk⟩, stp⟩ := hr T hT X0
  cases hv
  rw [h0] at hge hz hk
  have hA := aA_grow (sz := s.heap.size) hle (fun i hi => ha i (Or.inl hi)) (fun i h1 h2 => Nat.le_trans hS.1 (hge i h1 h2))
  have hal : t.vm.Alike s.vm := by
    rw [← e2]
    exact (X'.warmed.alike).symm
  have hC' := aCx_grow hX hle hC ha hA (va_K.moved hal hK) hT' hI
  have hAA : ∀ q, q < H.size → aA ad S H.size q → aA ad S s.heap.size q := fun q hq h => h.elim Or.inl (fun h => absurd h (by omega))
  have hS' : va_S (aA ad S s.heap.size) s.heap T'.heap (locs ++ L) := ⟨Nat.le_trans hS.1 (by rw [e1]; exact hz), fun q h1 h2 => by rw [e1, hk q (Nat.lt_of_lt_of_le h1 hS.1) (fun z => h2 (hAA q (Nat.lt_of_lt_of_le h1 hS.1) z))]; exact hS.2.1 q h1 h2, fun q hq => by
      rcases List.mem_append.mp hq with h | h
      · exact hS.2.2 q h
      · exact (hL q h).elim Or.inl (fun z => Or.inr (Nat.le_trans hS.1 z))⟩
  obtain ⟨t2, a1, b1⟩ := kk ad' cA' tys' T'.heap (locs ++ L) ls ha hC' hA ⟨by rw [e1]; exact hP, va_S_iff (fun q => (hA q).symm) hS'⟩ (aLs_move ha hlv hl) T' rfl X'
  refine ⟨t2, stp t2 ?_, b1⟩
  rw [aMap_move ha hrv] at a1
  exact a1
theorem aK_call {i kd K n : Nat} {w : Nat × Nat × Nat} {as r : List Value} {a d' : Nat} {M' : aMk} {σ2 : aSt} {S2 : List aSh} {k2 : Nat} (hF : aFx M.1 p s m c args) (hct : aSC aCt (aOwn M.1) (i, kd + 1, K, n, w) = true) (hK : aCt[K]? = some M') (hNest : ∀ w ∈ aNestM, va_Nw w s) (hAO : aAO s) (hX : ∀ a q, X a = some q → 1000 ≤ a) (hC : aCx X S ad cA D tys s.heap.size s)
    (hroom : d' + 7 ≤ R.frames ∧ 41 * (d' + 7) ≤ R.locals ∧ cells + (S2.length - S.length) ≤ R.cells ∧ slots + k2 ≤ R.slots) (hd : decode (aBy M.1) pc = .ok (.invokespecial i, 3)) (hW : aWo S ad cA D s σ H locs) (hl : aLs ad ls (aML M.1) lv) (hfr : aFrA lv st σ S = true) (htk : aTk n [] st = some (as, .ref a :: r)) (hcat : aCat r ≤ 8) (hM : aMetM l d' M' (.ref a :: as) σ S σ2 S2 k2) (hle : S.length ≤ S2.length)
    (kk : aKM p l e R s m args below meth c (cells + (S2.length - S.length)) (slots + k2) Q X S ad D M.1 S2 (pc + 3) lv r σ2) : W p l e R s m args below meth c H locs cells slots Q (F0 m pc ls (st.map (aV ad))) := by
  have hF0 := hF
  obtain ⟨hx, hb, hml, hown, hts⟩ := hF
  obtain ⟨hP, hS⟩ := hW
  obtain ⟨-, hCtC, -⟩ := aCt_ok M' (List.mem_of_getElem? hK)
  simp only [aCtC, aMC, Bool.and_eq_true, decide_eq_true_eq] at hCtC
  obtain ⟨⟨⟨hcode, hplain, hownM⟩, hml22⟩, hinit, hret⟩ := hCtC
  have hml22 := Nat.le_of_ble_eq_true hml22
  have hGI := aGoodIn M'.1 (aWd_mem hcode)
  have hCm : ∀ U : State, U.heap = H → s.WarmedH U.vm → aCx aX0 S ad cA D tys H.size U := fun U hU hWm => by
    have := (hC.moved (U := U) (locs := locs) (by rw [hU]; exact hS) hWm).x0
    rw [hU] at this
    exact this
  have hRR : (aRmM d' (S2.length - S.length) k2).frames + 1 ≤ R.frames ∧ 8 + (aML M'.1 + 11) + (aRmM d' (S2.length - S.length) k2).locals ≤ R.locals := by
    simp only [aRmM]
    omega
  obtain ⟨hlen, hstk⟩ := aTk0 htk
  simp only [aFrA, Bool.and_eq_true] at hfr
  obtain ⟨hlv, hst, hfs, hsz⟩ := hfr
  have hrv : r.all (aFr S.length) = true := by
    rw [hstk, List.all_append, List.all_cons, Bool.and_eq_true, Bool.and_eq_true] at hst
    exact hst.2.2
  simp only [aSC, hK, Bool.and_eq_true, decide_eq_true_eq] at hct
  obtain ⟨⟨hd1, hd2, hd3⟩, ⟨hin, hini⟩, hlk⟩ := hct
  have hpre : PreS s H (aPreM S ad cA D tys H.size (.ref a :: as) σ) (.ref (ad a) :: as.map (aV ad)) := ⟨aPreM_blind, fun U hU hWm => ⟨rfl, by rw [hU]; exact hP, hCm U hU hWm, aNestM_warm hWm hNest, aAO_moved hWm.alike hAO⟩⟩
  match kd, hlk with
  | 0, hlk =>
    have hcw := cwI (R := R) (s := s) (args := args) (own := aOwn M.1) (index := i) (y := aY M'.1) (bytes := aBy M'.1) (maxL := aML M'.1) (ws := aWs M'.1) (rm := aRmM d' (S2.length - S.length) k2) (mc := S2.length - S.length) (ms := k2) n hts hGI (by rw [aWs, hret]) rfl rfl (hts _ (aWd_mem hini)) (hts _ (aWd_mem hlk)) (hts _ (aWd_mem hin)) hinit ⟨hd1, hd2, hd3⟩ hRR
    exact aK_run (M := M) (lv := lv) hX hle hC hlv hrv hS hl (va_runI (b := ad a) (As := as.map (aV ad)) (rest := r.map (aV ad)) hF0 (hM D ad cA tys H.size) hcw hpre rfl (by rw [List.length_map]; exact hlen) hl.1 (by rw [hstk]; simp [aV]) (lv_room (by rw [aCat_sum]; exact hcat)) hd ⟨hroom.2.2.1, hroom.2.2.2⟩) kk
  | kd + 1, hlk =>
    have hlk : Cond.methodLinkNest (aOwn M.1) i (aY M'.1) "HalfDone" ∈ aNestM := by simpa using hlk
    have hcn := va_cnB (R := R) (s := s) (args := args) (own := aOwn M.1) (host := "HalfDone") (index := i) (y := aY M'.1) (bytes := aBy M'.1) (maxL := aML M'.1) (ret := none) (ws := aWs M'.1) (rm := aRmM d' (S2.length - S.length) k2) (mc := S2.length - S.length) (ms := k2) n hts hGI (by rw [aWs, hret]) rfl rfl (hNest _ hlk) (hts _ (aWd_mem hini)) ⟨hd1, hd2, hd3⟩ hRR
    exact aK_run (M := M) (lv := lv) hX hle hC hlv hrv hS hl (va_runIN (b := ad a) (As := as.map (aV ad)) (rest := r.map (aV ad)) hF0 (hM D ad cA tys H.size) ⟨hcn, hinit, hts _ (aWd_mem hin)⟩ hpre rfl (by rw [List.length_map]; exact hlen) hl.1 (by rw [hstk]; simp [aV]) (lv_room (by rw [aCat_sum]; exact hcat)) hd ⟨hroom.2.2.1, hroom.2.2.2⟩) kk
end AS
end
section
/-! SOUNDNESS of the making machine: whole runs -/
set_option maxHeartbeats 4000000 in
theorem aMkE_mono {X : aXt} {C : List aMk} : ∀ (f d : Nat) (M : aMk) (pc : Nat) (lv st : List Value) (σ : aSt) (S : List aSh) (k : Nat) (σ' : aSt) (S' : List aSh) (k' : Nat), aMkE X C f d M pc lv st σ S k = some (σ', S', k') → S.length ≤ S'.length ∧ k ≤ k' := by
  intro f
  induction f with
  | zero => intro d M pc lv st σ S k σ' S' k' h; cases h
  | succ f ih =>
    intro d M pc lv st σ S k σ' S' k' h
    rw [aMkE.eq_def] at h
    dsimp only at h
    split at h
    · cases h
    · split at h
      · split at h
        · cases h
          exact ⟨Nat.le_refl _, Nat.le_refl _⟩
        · cases h
      · split at h
        · cases h
        · split at h
          · cases h
          · obtain ⟨h1, h2⟩ := ih _ _ _ _ _ _ _ _ _ _ _ h
            rw [List.length_append] at h1
            exact ⟨by omega, by omega⟩
      · split at h
        · cases h
        · split at h
          · split at h
            · cases h
            · split at h
              · obtain ⟨h1, h2⟩ := ih _ _ _ _ _ _ _ _ _ _ _ h
                rw [List.length_append] at h1
                exact ⟨by omega, by omega⟩
              · cases h
          · cases h
      · split at h
        · cases h
        · split at h
          · split at h
            · cases h
            · split at h
              · obtain ⟨h1, h2⟩ := ih _ _ _ _ _ _ _ _ _ _ _ h
                rw [List.length_append] at h1
                exact ⟨by omega, by omega⟩
              · cases h
          · cases h
      · split at h
        · cases h
        · split at h
          · split at h
            · split at h
              · exact ih _ _ _ _ _ _ _ _ _ _ _ h
              · cases h
            · cases h
          · split at h
            · cases h
            · split at h
              · split at h
                · cases h
                · split at h
                  · cases h
                  · split at h
                    · cases h
                    · split at h
                      · cases h
                      · split at h
                        · cases h
                        · rename_i σ2 S2 k2 hex
                          split at h
                          · cases h
                          · obtain ⟨h1, h2⟩ := ih _ _ _ _ _ _ _ _ _ _ _ h
                            obtain ⟨h3, h4⟩ := ih _ _ _ _ _ _ _ _ _ _ _ hex
                            exact ⟨by omega, by omega⟩
              · cases h
      · split at h
        · split at h
          · cases h
          · split at h
            · split at h
              · split at h
                · exact ih _ _ _ _ _ _ _ _ _ _ _ h
                · cases h
              · split at h
                · exact ih _ _ _ _ _ _ _ _ _ _ _ h
                · cases h
            · cases h
        · cases h
      · split at h
        · exact ih _ _ _ _ _ _ _ _ _ _ _ h
        · cases h
theorem aPFC_in {M : aMk} (h : M ∈ aCt) : aPFC M.1 = true := List.all_eq_true.mp aPFC_all M h
theorem aMet_name {p : Program} {l : Launch} {y : MethodName} {sp : Spec} {cc : ByteArray} {maxL : Nat} {ret : Option FieldType} {e : Env} {s : State} {m : MethodId} {args : Array Value} {below : List Frame} {meth : Method} {c : Code} {s₁ : State} (B : BodyLoose p l y sp cc maxL ret e s m args below meth c s₁) : meth.name = y.name := (name_of_methodNamed B.named B.method).1
set_option maxHeartbeats 8000000 in
theorem aMkSound (l : Launch) (hMna : aMna l) : ∀ (f d : Nat) (M : aMk) (pc : Nat) (lv st : List Value) (σ : aSt) (S : List aSh) (k : Nat) (σ' : aSt) (S' : List aSh) (k' : Nat), aMkE aX0 aCt f d M pc lv st σ S k = some (σ', S', k') → M ∈ aCt →
    ∀ {p : Program} {e : Env} {R : Room} {s : State} {m : MethodId} {args : Array Value} {below : List Frame} {meth : Method} {c : Code} {H : Heap} {locs : List Loc} {ad : Nat → Nat} {cA : Nat → ClassId} {D : va_G} {tys : List (ClassId × FieldType)} {ls : Array Slot} {L0 : Nat} {A0 : Nat → Prop} {Qc : Array Value → State → Outcome → State → Prop},
      aFx M.1 p s m c args → meth.sig.returnType = none → meth.locks = false → meth.name = "<init>" → (∀ w ∈ aNestM, va_Nw w s) → aAO s → aCx aX0 S ad cA D tys s.heap.size s → (d + 6 ≤ R.frames ∧ 41 * (d + 6) ≤ R.locals ∧ S'.length - L0 ≤ R.cells ∧ k' ≤ R.slots) → L0 ≤ S.length → (∀ q, aA ad S s.heap.size q ↔ A0 q) → aWo S ad cA D s σ H locs → aLs ad ls (aML M.1) lv →
      (∀ (ad' : Nat → Nat) (cA' : Nat → ClassId) (tys' : List (ClassId × FieldType)) (t : State), (∀ a, a < S.length ∨ 1000 ≤ a → ad' a = ad a) → aCx aX0 S' ad' cA' D tys' s.heap.size s → (∀ q, aA ad' S' s.heap.size q ↔ A0 q) → va_P D vwCl (aW ad' cA' S' σ') t.heap → va_F A0 s t → s.WarmedH t.vm → Qc args s (.returned none) t) →
      W p l e R s m args below meth c H locs (S.length - L0) k (MQ below Qc args s (S'.length - L0) k' A0) (F0 m pc ls (st.map (aV ad))) := by
  intro f
  induction f with
  | zero => intro d M pc lv st σ S k σ' S' k' h; cases h
  | succ f ih =>
    intro d M pc lv st σ S k σ' S' k' h hMin p e R s m args below meth c H locs ad cA D tys ls L0 A0 Qc hF hr hlocks hname hNest hAO hC hroom hL0 hA hW hl hq
    have hmono := aMkE_mono _ _ _ _ _ _ _ _ _ _ _ _ h
    obtain ⟨hMk, hCt, hcl⟩ := aCt_ok M hMin
    simp only [aMkC, Bool.and_eq_true] at hMk
    obtain ⟨⟨hnew, hspec, hmul⟩, hMo, hso⟩ := hMk
    have hX : ∀ a q, aX0 a = some q → 1000 ≤ a := fun a q h => absurd h (by simp [aX0])
    rw [aMkE.eq_def] at h
    dsimp only at h
    split at h
    · cases h
    · rename_i q hq0
      obtain ⟨hd, hn⟩ := aCo_dec hMo hq0
      split at h
      · rename_i hqi
        rw [hqi] at hd hn
        rw [hn] at hd
        split at h
        · cases h
          refine W.vret hF.1 hF.2.1 hr (fun t ht hWm => ?_) (fun q hq => (hA _).mp (hW.2.2.2 q hq)) hd hlocks
          refine hq ad cA tys t (fun _ _ => rfl) hC hA (by rw [ht]; exact hW.1) ?_ hWm
          exact (va_S_iff hA hW.2).F ht
        · cases h
      · rename_i i hqi
        rw [hqi] at hd hn
        rw [hn] at hd
        split at h
        · cases h
        · rename_i hfr
          split at h
          · cases h
          · rename_i ci w hf
            have hm2 := aMkE_mono _ _ _ _ _ _ _ _ _ _ _ _ h
            rw [List.length_append, List.length_singleton] at hm2
            refine aK_new hF hnew hX hC hfr hf (by omega) (by omega) hd hW hl ?_
            intro ad' cA' tys' H1 locs1 ls1 ha1 hC1 hA1 hW1 hl1
            have h9 := ih d M _ _ _ _ _ _ _ _ _ h hMin (e := e) (below := below) (L0 := L0) hF hr hlocks hname hNest hAO hC1 hroom (by rw [List.length_append]; omega) (fun q => (hA1 q).trans (hA q)) hW1 hl1 (fun ad2 cA2 tys2 t2 ha2 => hq ad2 cA2 tys2 t2 (fun a h => (ha2 a (h.imp (fun z => by rw [List.length_append]; omega) id)).trans (ha1 a h)))
            rw [List.length_append, List.length_singleton, show S.length + 1 - L0 = S.length - L0 + 1 by omega] at h9
            exact h9
      · rename_i t hqi
        rw [hqi] at hd hn
        rw [hn] at hd
        split at h
        · cases h
        · rename_i hfr
          split at h
          · rename_i n r
            split at h
            · cases h
            · rename_i tc htc
              split at h
              · rename_i hnn
                have hm2 := aMkE_mono _ _ _ _ _ _ _ _ _ _ _ _ h
                rw [List.length_append, List.length_singleton] at hm2
                refine aK_newa hF hX hC hfr htc hnn.1 hnn.2 (by omega) (by omega) hd hW hl ?_
                intro ad' cA' tys' H1 locs1 ls1 ha1 hC1 hA1 hW1 hl1
                have h9 := ih d M _ _ _ _ _ _ _ _ _ h hMin (e := e) (below := below) (L0 := L0) hF hr hlocks hname hNest hAO hC1 hroom (by rw [List.length_append]; omega) (fun q => (hA1 q).trans (hA q)) hW1 hl1 (fun ad2 cA2 tys2 t2 ha2 => hq ad2 cA2 tys2 t2 (fun a h => (ha2 a (h.imp (fun z => by rw [List.length_append]; omega) id)).trans (ha1 a h)))
                rw [List.length_append, List.length_singleton, show S.length + 1 - L0 = S.length - L0 + 1 by omega] at h9
                exact h9
              · cases h
          · cases h
      · rename_i i dm hqi
        rw [hqi] at hd hn
        rw [hn] at hd
        split at h
        · cases h
        · rename_i hfr
          split at h
          · rename_i n2 n1 r
            split at h
            · cases h
            · rename_i w hf
              split at h
              · rename_i hnn
                obtain ⟨⟨⟨hn1, hn2⟩, hdm⟩, ⟨hb1, hb2⟩, -⟩ := hnn
                subst hdm
                have hm2 := aMkE_mono _ _ _ _ _ _ _ _ _ _ _ _ h
                rw [List.length_append, List.length_cons, List.length_replicate] at hm2
                refine aK_multi hMna hAO hF hmul hX hC hfr hf hn1 hn2 hb1 hb2 (by omega) (by omega) hd hW hl ?_
                intro ad' cA' tys' H1 locs1 ls1 ha1 hC1 hA1 hW1 hl1
                have h9 := ih d M _ _ _ _ _ _ _ _ _ h hMin (e := e) (below := below) (L0 := L0) hF hr hlocks hname hNest hAO hC1 hroom (by rw [List.length_append]; omega) (fun q => (hA1 q).trans (hA q)) hW1 hl1 (fun ad2 cA2 tys2 t2 ha2 => hq ad2 cA2 tys2 t2 (fun a h => (ha2 a (h.imp (fun z => by rw [List.length_append]; omega) id)).trans (ha1 a h)))
                rw [List.length_append, List.length_cons, List.length_replicate, show S.length + (n1.toNatClampNeg + 1) - L0 = S.length - L0 + 1 + n1.toNatClampNeg by omega] at h9
                exact h9
              · cases h
          · cases h
      · rename_i i hqi
        rw [hqi] at hd hn
        rw [hn] at hd
        split at h
        · cases h
        · rename_i kd K n w hf
          have hsc := List.all_eq_true.mp hspec _ (aFd_mem hf)
          split at h
          · rename_i hkd
            have hkd := Nat.eq_of_beq_eq_true hkd
            subst hkd
            split at h
            · rename_i a r
              split at h
              · rename_i hcat
                exact aK_obj hF hsc ⟨by omega, by omega⟩ (Nat.le_of_ble_eq_true hcat) hd hl (ih d M _ _ _ _ _ _ _ _ _ h hMin hF hr hlocks hname hNest hAO hC hroom hL0 hA hW hl hq)
              · cases h
            · cases h
          · rename_i hkd
            obtain ⟨kd', rfl⟩ : ∃ kd', kd = kd' + 1 := by
              cases kd with
              | zero => exact absurd hkd (by decide)
              | succ j => exact ⟨j, rfl⟩
            split at h
            · cases h
            · rename_i hfr
              split at h
              · rename_i as a r htk
                split at h
                · cases h
                · rename_i hcat
                  split at h
                  · cases h
                  · rename_i d'
                    split at h
                    · cases h
                    · rename_i M' hK
                      split at h
                      · cases h
                      · rename_i hble
                        split at h
                        · cases h
                        · rename_i σ2 S2 k2 hex
                          split at h
                          · cases h
                          · have hm3 := aMkE_mono _ _ _ _ _ _ _ _ _ _ _ _ hex
                            have hm4 := aMkE_mono _ _ _ _ _ _ _ _ _ _ _ _ h
                            have hble := Nat.le_of_ble_eq_true hble
                            have hMin' := List.mem_of_getElem? hK
                            have hMet : aMetM l d' M' (.ref a :: as) σ S σ2 S2 k2 := by
                              intro D ad cA tys sz
                              obtain ⟨-, hCt', -⟩ := aCt_ok M' hMin'
                              simp only [aCtC, aMC, Bool.and_eq_true, decide_eq_true_eq] at hCt'
                              obtain ⟨⟨⟨hcode, hplain, hownM⟩, hml22⟩, hinit, hret⟩ := hCt'
                              refine Met.ofW (cc := aBy M'.1) (maxL := aML M'.1) (ret := aRt M'.1) hplain rfl ?_
                              intro p e s m args below meth c s₁ B hml hv
                              obtain ⟨rfl, hP, hC, hNest, hAO⟩ := hv
                              have hts := atoms_spec (ws := aWs M'.1) B.pre
                              have hown : s.vm.findClass (aOwn M'.1) = some m.cls := by
                                rw [← hownM]
                                exact findClass_of_methodNamed B.named
                              have hsz := hC.1
                              subst hsz
                              have hent := lv_entry ((Value.ref a :: as).map (aV ad)) (n := aML M'.1) (by rw [aArg_len]; exact hble)
                              rw [lg_entry_eq]
                              have h9 := ih d' M' 0 (aEnt M'.1 (.ref a :: as)) [] σ S 0 σ2 S2 k2 hex hMin' (e := e) (below := below) (R := (headSpec (aWs M'.1) (aRmM d' (S2.length - S.length) k2)).room) (L0 := S.length) (A0 := aA ad S s.heap.size) (Qc := aQm S ad D S2 σ2 (aA ad S s.heap.size)) ⟨B.exec, B.bytes, hml, hown, fun w hw => hts w (List.mem_cons_of_mem _ hw)⟩ (by rw [B.returns, hret]) B.notSynchronized (by rw [aMet_name B, hinit]) hNest hAO hC ⟨Nat.le_refl _, Nat.le_refl _, Nat.le_refl _, Nat.le_refl _⟩ (Nat.le_refl _) (fun _ => Iff.rfl) ⟨hP, va_S.rf⟩ (aLs_ent hble hent) (fun ad' cA' tys' t ha hC' hA' hP' hF' hWm => ⟨rfl, ad', cA', tys', ha, hP', va_K.moved hWm.alike hC'.2.1, hC'.2.2.1, hC'.2.2.2.1, fun i h1 h2 => by
                                  rcases (hA' (ad' i)).mp (Or.inl ⟨i, h2, rfl⟩) with ⟨j, hj, e⟩ | h
                                  · have := hC'.2.2.2.1 j i (by omega) h2 (by rw [ha j (Or.inl hj)]; exact e)
                                    omega
                                  · exact h, hF'⟩)
                              rw [Nat.sub_self] at h9
                              exact h9
                            refine aK_call (d' := d') hF hsc hK hNest hAO hX hC ⟨by omega, by omega, by omega, by omega⟩ hd hW hl hfr htk (Nat.le_of_ble_eq_true hcat) hMet hm3.1 ?_
                            intro ad' cA' tys' H1 locs1 ls1 ha1 hC1 hA1 hW1 hl1
                            have h9 := ih (d' + 1) M _ _ _ _ _ _ _ _ _ h hMin (e := e) (below := below) (L0 := L0) hF hr hlocks hname hNest hAO hC1 hroom (by omega) (fun q => (hA1 q).trans (hA q)) hW1 hl1 (fun ad2 cA2 tys2 t2 ha2 => hq ad2 cA2 tys2 t2 (fun a h => (ha2 a (h.imp (fun z => by omega) id)).trans (ha1 a h)))
                            rw [show S2.length - L0 = S.length - L0 + (S2.length - S.length) by omega] at h9
                            exact h9
              · cases h
      · rename_i i hqi
        rw [hqi] at hd hn
        rw [hn] at hd
        split at h
        · rename_i v a r
          split at h
          · cases h
          · rename_i ci j kd w hf
            split at h
            · rename_i cj hs
              split at h
              · rename_i hb9
                rw [Bool.and_eq_true] at hb9
                have e1 := Nat.eq_of_beq_eq_true hb9.1
                have e2 := Nat.eq_of_beq_eq_true hb9.2
                subst e1
                subst e2
                split at h
                · rename_i b
                  exact aK_putF hF hcl (aPFC_in hMin) hname hC hq0 hqi hf hs hd hW hl (fun H1 locs1 ls1 hW1 hl1 => ih d M _ _ _ _ _ _ _ _ _ h hMin hF hr hlocks hname hNest hAO hC hroom hL0 hA hW1 hl1 hq)
                · cases h
              · split at h
                · rename_i hok
                  rw [Bool.and_eq_true] at hok
                  have e1 := Nat.eq_of_beq_eq_true hok.1
                  refine aS_go (z := (pc + 3, lv, r, aUp σ a j v)) hF hcl hso hC ⟨by omega, by omega, by omega, by omega⟩ hd rfl hW hl ?_ (fun H1 locs1 ls1 hW1 hl1 => ih d M _ _ _ _ _ _ _ _ _ h hMin hF hr hlocks hname hNest hAO hC hroom hL0 hA hW1 hl1 hq)
                  simp only [aIns, hf, hs, hok.1, hok.2, Bool.and_self]
                  rfl
                · cases h
            · cases h
        · cases h
      · split at h
        · rename_i z hz
          exact aS_go hF hcl hso hC ⟨by omega, by omega, by omega, by omega⟩ hd hn hW hl hz (fun H1 locs1 ls1 hW1 hl1 => ih d M _ _ _ _ _ _ _ _ _ h hMin hF hr hlocks hname hNest hAO hC hroom hL0 hA hW1 hl1 hq)
        · cases h
end
section
/-! THE START'S STORE; constructors as contracts -/
set_option maxRecDepth 100000 in
theorem aStrs : aProg.all (fun M => aStrOK (aCs M)) = true := by decide +kernel
theorem aG2 : ∀ M ∈ aProg, aMC M = true ∧ aCoC M = true ∧ (aClC aProg (aCs M) = true ∧ aStrOK (aCs M) = true) := fun M h => ⟨(aG M h).1, (aG M h).2.1, (aG M h).2.2, List.all_eq_true.mp aStrs M h⟩
set_option maxRecDepth 100000 in
theorem aLawK : (aStrOK (aCs aM_law) && (aK_law.2.1.all (aNC (aOwn aM_law)) && aK_law.2.2.1.all (aSC aCt (aOwn aM_law)))) = true := by decide +kernel
theorem aMkMet {l : Launch} (hMna : aMna l) {f d' : Nat} {M' : aMk} {as : List Value} {σ : aSt} {S : List aSh} {σ2 : aSt} {S2 : List aSh} {k2 : Nat} (hMin' : M' ∈ aCt) (hble : (aArg as).length ≤ aML M'.1) (hex : aMkE aX0 aCt f d' M' 0 (aEnt M'.1 as) [] σ S 0 = some (σ2, S2, k2)) : aMetM l d' M' as σ S σ2 S2 k2 := by
  have hm3 := aMkE_mono _ _ _ _ _ _ _ _ _ _ _ _ hex
  intro D ad cA tys sz
  obtain ⟨-, hCt', -⟩ := aCt_ok M' hMin'
  simp only [aCtC, aMC, Bool.and_eq_true, decide_eq_true_eq] at hCt'
  obtain ⟨⟨⟨hcode, hplain, hownM⟩, hml22⟩, hinit, hret⟩ := hCt'
  refine Met.ofW (cc := aBy M'.1) (maxL := aML M'.1) (ret := aRt M'.1) hplain rfl ?_
  intro p e s m args below meth c s₁ B hml hv
  obtain ⟨rfl, hP, hC, hNest, hAO⟩ := hv
  have hts := atoms_spec (ws := aWs M'.1) B.pre
  have hown : s.vm.findClass (aOwn M'.1) = some m.cls := by
    rw [← hownM]
    exact findClass_of_methodNamed B.named
  have hsz := hC.1
  subst hsz
  have hent := lv_entry (as.map (aV ad)) (n := aML M'.1) (by rw [aArg_len]; exact hble)
  rw [lg_entry_eq]
  have h9 := aMkSound l hMna f d' M' 0 (aEnt M'.1 as) [] σ S 0 σ2 S2 k2 hex hMin' (e := e) (below := below) (R := (headSpec (aWs M'.1) (aRmM d' (S2.length - S.length) k2)).room) (L0 := S.length) (A0 := aA ad S s.heap.size) (Qc := aQm S ad D S2 σ2 (aA ad S s.heap.size)) ⟨B.exec, B.bytes, hml, hown, fun w hw => hts w (List.mem_cons_of_mem _ hw)⟩ (by rw [B.returns, hret]) B.notSynchronized (by rw [aMet_name B, hinit]) hNest hAO hC ⟨Nat.le_refl _, Nat.le_refl _, Nat.le_refl _, Nat.le_refl _⟩ (Nat.le_refl _) (fun _ => Iff.rfl) ⟨hP, va_S.rf⟩ (aLs_ent hble hent) (fun ad' cA' tys' t ha hC' hA' hP' hF' hWm => ⟨rfl, ad', cA', tys', ha, hP', va_K.moved hWm.alike hC'.2.1, hC'.2.2.1, hC'.2.2.2.1, fun i h1 h2 => by
      rcases (hA' (ad' i)).mp (Or.inl ⟨i, h2, rfl⟩) with ⟨j, hj, e⟩ | h
      · have := hC'.2.2.2.1 j i (by omega) h2 (by rw [ha j (Or.inl hj)]; exact e)
        omega
      · exact h, hF'⟩)
  rw [Nat.sub_self] at h9
  exact h9
/-- what the constructors leave -/
def aF0 : List (List Value) := [[.ref 1, .ref 3, .ref 4, .ref 6, .ref 24, .ref 32, .ref 36, .ref 79, .ref 85, .ref 94, .ref 100, .ref 110, .int (-1)], [.ref 2, .int 0, .int 0, .int 0], [], [.ref 1], [.ref 1, .ref 5, .int 0], [], [.ref 7, .ref 14, .ref 15, .ref 16, .ref 17, .int 0, .int 0], [.ref 8, .ref 9, .ref 10, .ref 11, .ref 12, .ref 13], [], [], [], [], [], [], [], [], [], [.ref 18, .ref 19, .ref 20, .ref 21, .ref 22, .ref 23], [], [], [], [], [], [], [.ref 25, .ref 31, .int 0], [.ref 26, .ref 27, .ref 28, .ref 29, .ref 30], [], [], [], [], [], [], [.ref 33, .ref 34, .ref 35, .int 0], [], [], [], [.ref 37, .ref 78, .int 0, .int 0, .int 0], [.ref 38, .ref 39, .ref 40, .ref 41, .ref 42, .ref 43, .ref 44, .ref 45, .ref 46, .ref 47, .ref 48, .ref 49, .ref 50, .ref 51, .ref 52, .ref 53, .ref 54, .ref 55, .ref 56, .ref 57, .ref 58, .ref 59, .ref 60, .ref 61, .ref 62, .ref 63, .ref 64, .ref 65, .ref 66, .ref 67, .ref 68, .ref 69, .ref 70, .ref 71, .ref 72, .ref 73, .ref 74, .ref 75, .ref 76, .ref 77], [], [], [], [], [], [], [], [], [], [], [], [], [], [], [], [], [], [], [], [], [], [], [], [], [], [], [], [], [], [], [], [], [], [], [], [], [], [], [], [], [], [.ref 80, .ref 81, .ref 82, .ref 83, .ref 84, .int 0], [], [], [], [], [], [.ref 79, .ref 86, .ref 87, .ref 88, .ref 89, .ref 90, .ref 91, .ref 92, .ref 93], [], [], [], [], [], [], [], [], [.ref 95, .ref 96, .ref 97, .ref 98, .ref 99, .int 0, .int 0], [], [], [], [], [], [.ref 101, .ref 102, .ref 103, .ref 104, .ref 105, .ref 106, .ref 107, .ref 108, .ref 109, .int 0, .int 0, .int 0], [], [], [], [], [], [], [], [], [], [.ref 111, .ref 112, .ref 113, .ref 114, .ref 115, .ref 116, .ref 117, .ref 118, .ref 119, .int 0, .int 0, .int 0], [], [], [], [], [], [], [], [], [], [.int 0, .ref 121, .ref 122, .ref 123, .ref 124, .ref 121, .int 0, .int 0, .int 0, .int 0, .int 0, .int 0, .int 0, .int 0, .int 0, .ref 2000, .ref 2001, .int 0, .ref 125, .ref 126, .ref 127, .ref 128, .ref 129, .ref 130, .ref 131, .ref 132, .int 0, .int 0, .int 0, .int 0, .int 0, .int 0, .ref 133, .ref 134, .int 0, .ref 135, .int (-1), .ref 136, .int 0, .ref 137, .long 0, .ref 138, .ref 139, .ref 140, .ref 141, .int 0, .ref 142, .ref 143, .ref 144, .int 0, .ref 145, .int 0, .int 0, .int 0, .ref 146, .ref 147, .ref 148, .int 0, .ref 149, .int 0], [], [], [], [], [], [], [], [], [], [], [], [], [], [], [], [], [], [], [], [], [], [], [], [], [], [], [], [], [], []]
def aI0 : aSt := fun a k => match aS[a]? with
  | some (.inl _) => (aF0.getD a []).getD k .null
  | some (.inr (t, _)) => match t with
    | 4 => (aF0.getD a []).getD k .null
    | 3 => .long 0
    | _ => .int 0
  | none => .null
def aEqC (f g : Nat → Value) (sh : aSh) : Bool := match sh with
  | .inl ci => (List.range (aNf ci)).all (fun k => decide (f k = g k))
  | .inr (_, n) => (List.range n).all (fun k => decide (f k = g k))
def aEqS (σ τ : aSt) : Nat → List aSh → Bool
  | _, [] => true
  | i, sh :: r => aEqC (σ i) (τ i) sh && aEqS σ τ (i + 1) r
theorem aEqS_at {σ τ : aSt} : ∀ (S : List aSh) (i : Nat), aEqS σ τ i S = true → ∀ j sh, S[j]? = some sh → aEqC (σ (i + j)) (τ (i + j)) sh = true := by
  intro S
  induction S with
  | nil => intro i _ j sh h; simp at h
  | cons s0 r ih =>
    intro i h j sh hj
    simp only [aEqS, Bool.and_eq_true] at h
    cases j with
    | zero => simp at hj; subst hj; exact h.1
    | succ j =>
      have := ih (i + 1) h.2 j sh (by simpa using hj)
      rw [show i + (j + 1) = i + 1 + j by omega]
      exact this
theorem aE_arr {ad : Nat → Nat} {c : ClassId} {f : Nat → Value} {t n : Nat} (h3 : t ≠ 3) (h4 : t ≠ 4) : aE ad c f (.inr (t, n)) = .inl (c, n, .inl (fun j => aI (f j))) := by
  match t, h3, h4 with
  | 0, _, _ => rfl
  | 1, _, _ => rfl
  | 2, _, _ => rfl
  | 3, h, _ => exact absurd rfl h
  | 4, _, h => exact absurd rfl h
  | t + 5, _, _ => rfl
theorem aAt_congr {D : va_G} {ad : Nat → Nat} {x : Nat} {c : ClassId} {f g : Nat → Value} {sh : aSh} {H : Heap} (h : aEqC f g sh = true) (hat : va_at D vwCl (x, aE ad c f sh) H) : va_at D vwCl (x, aE ad c g sh) H := by
  match sh, h, hat with
  | .inl ci, h, hat =>
    have e : (List.range (aNf ci)).map (fun k => aV ad (g k)) = (List.range (aNf ci)).map (fun k => aV ad (f k)) :=
      List.map_congr_left (fun k hm => by
        have := List.all_eq_true.mp h k hm
        rw [decide_eq_true_eq] at this
        rw [this])
    simp only [aE, e]
    exact hat
  | .inr (t, n), h, hat =>
    have hfg : ∀ j, j < n → f j = g j := fun j hj => by
      have h2 : (List.range n).all (fun k => decide (f k = g k)) = true := h
      have := List.all_eq_true.mp h2 j (List.mem_range.mpr hj)
      rw [decide_eq_true_eq] at this
      exact this
    by_cases h3 : t = 3
    · subst h3
      have hat : H[x]? = some (arrV c n (fun j => .long (aJ (f j)))) := hat
      show H[x]? = some (arrV c n (fun j => .long (aJ (g j))))
      rw [hat]
      exact congrArg some (arrV_congr (fun j hj => by rw [hfg j hj]))
    · by_cases h4 : t = 4
      · subst h4
        have e : vp_cell c (n, .inr (.inr (.inr (.inr (fun j => aRf ad (f j)))))) = vp_cell c (n, .inr (.inr (.inr (.inr (fun j => aRf ad (g j)))))) := by
          rw [vp_cell_q, vp_cell_q]
          exact arrV_congr (fun j hj => by rw [hfg j hj])
        have hat : H[x]? = some (vp_cell c (n, .inr (.inr (.inr (.inr (fun j => aRf ad (f j))))))) := hat
        show H[x]? = some (vp_cell c (n, .inr (.inr (.inr (.inr (fun j => aRf ad (g j)))))))
        rw [← e]
        exact hat
      · rw [aE_arr h3 h4] at hat ⊢
        have hat : H[x]? = some (arrV c n (fun j => .int (aI (f j)))) := hat
        show H[x]? = some (arrV c n (fun j => .int (aI (g j))))
        rw [hat]
        exact congrArg some (arrV_congr (fun j hj => by rw [hfg j hj]))
theorem aP_congr {D : va_G} {ad : Nat → Nat} {cA : Nat → ClassId} {S : List aSh} {σ τ : aSt} {H : Heap} (h : aEqS σ τ 0 S = true) (hP : va_P D vwCl (aW ad cA S σ) H) : va_P D vwCl (aW ad cA S τ) H := by
  intro i q hq
  have hi := (aW_of hq).1
  obtain ⟨sh, hsh⟩ : ∃ sh, S[i]? = some sh := ⟨_, List.getElem?_eq_getElem hi⟩
  rw [aW_at hsh] at hq
  cases hq
  have h1 := hP i _ (aW_at hsh)
  have h2 := aEqS_at S 0 h i sh hsh
  rw [Nat.zero_add] at h2
  exact aAt_congr h2 h1
def aH1 : Option (aSt × List aSh × Nat) := aMkE aX0 aCt 4000 3 aK_X11_init 0 (aEnt aM_X11_init [.ref 0]) [] (aNw (fun _ _ => .null) 0 (aDf 11)) [.inl 11] 0
def aH2 : Option (aSt × List aSh × Nat) := aMkE aX0 aCt 4000 3 aK_X12_init 0 (aEnt aM_X12_init [.ref 120]) [] (aNw aI0 120 (aDf 12)) (aS.take 120 ++ [.inl 12]) 0
def aHok (h : Option (aSt × List aSh × Nat)) (n k : Nat) : Bool := match h with
  | some (σ, S, j) => decide (S = aS.take n) && (Nat.beq j k && aEqS σ aI0 0 S)
  | none => false
theorem aHok_inv {h : Option (aSt × List aSh × Nat)} {n k : Nat} (e : aHok h n k = true) : ∃ σ, h = some (σ, aS.take n, k) ∧ aEqS σ aI0 0 (aS.take n) = true := by
  unfold aHok at e
  split at e
  · rename_i σ S j
    simp only [Bool.and_eq_true, decide_eq_true_eq] at e
    obtain ⟨e1, e2, e3⟩ := e
    have e2 := Nat.eq_of_beq_eq_true e2
    subst e1
    subst e2
    exact ⟨σ, rfl, e3⟩
  · cases e
set_option maxRecDepth 100000 in
theorem aH1_ok : aHok aH1 120 8511 = true := by decide +kernel
set_option maxRecDepth 100000 in
theorem aH2_ok : aHok aH2 150 5482 = true := by decide +kernel
end
section
/-! THE PURE MACHINE: runs with three methods told ahead (texts, floorDiv); a memory of whole numbers; what a stretch of code asks for, as a proposition -/
def oTx (r : Nat) : List Int := match r with
  | 2000 => [121]
  | 2001 => [118, 107, 115, 100, 110, 112, 99, 105]
  | 2002 => [118, 114, 100]
  | 2003 => [97, 98, 99, 100, 101]
  | 2004 => [97, 98, 99, 100, 101, 107]
  | _ => []
def bAm : List Int → Int → Int
  | [], _ => 0
  | b :: l, c => if c = b then 1 else bAm l c
def bPl : List Int → Int → Int → Int
  | [], _, _ => -1
  | b :: l, c, k => if c = b then k else bPl l c (k + 1)
def oOr (K : Nat) (as : List Value) : Option Value := match K with
  | 13 => match as with
    | [.int s] => some (.int (Int32.ofInt ((s + 999999).toInt / 1000000)))
    | _ => none
  | 175 => match as with
    | [.ref r, .int c] => match Nat.ble 2000 r && Nat.ble r 2004 with
      | true => some (.int (Int32.ofInt (bAm (oTx r) c.toInt)))
      | false => none
    | _ => none
  | 198 => match as with
    | [.ref r, .int c] => match Nat.ble 2000 r && Nat.ble r 2004 with
      | true => some (.int (Int32.ofInt (bPl (oTx r) c.toInt 0)))
      | false => none
    | _ => none
  | _ => none
def oExec (X : aXt) (S : List aSh) (P : List aM) : Nat → Nat → aM → Nat → List Value → List Value → aSt → Option (Option Value × aSt)
  | 0, _, _, _, _, _, _ => none
  | f + 1, d, M, pc, lv, st, σ => match aStep X S M pc lv st σ with
    | none => none
    | some (.inl (pc', lv', st', σ')) => oExec X S P f d M pc' lv' st' σ'
    | some (.inr (.inl r)) => some r
    | some (.inr (.inr (K, as, (pc', lv', st', σ')))) => match d with
      | 0 => none
      | d' + 1 => match oOr K as with
        | some v => oExec X S P f (d' + 1) M pc' lv' (v :: st') σ'
        | none => match P[K]? with
          | none => none
          | some M' => match Nat.ble (aArg as).length (aML M') with
            | false => none
            | true => match oExec X S P f d' M' 0 (aEnt M' as) [] σ' with
              | none => none
              | some (v, σ2) => oExec X S P f (d' + 1) M pc' lv' (v.toList ++ st') σ2
theorem oExec_mono {X : aXt} {S : List aSh} {P : List aM} : ∀ (f g d : Nat) (M : aM) (pc : Nat) (lv st : List Value) (σ : aSt) (r : Option Value × aSt), f ≤ g → oExec X S P f d M pc lv st σ = some r → oExec X S P g d M pc lv st σ = some r := by
  intro f
  induction f with
  | zero => intro g d M pc lv st σ r _ h; cases h
  | succ f ih =>
    intro g d M pc lv st σ r hg h
    cases g with
    | zero => omega
    | succ g =>
      have hg : f ≤ g := by omega
      rw [oExec] at h ⊢
      cases hs : aStep X S M pc lv st σ with
      | none => rw [hs] at h; cases h
      | some q =>
        rw [hs] at h
        match q, h with
        | .inl (pc', lv', st', σ'), h => exact ih g d M pc' lv' st' σ' r hg h
        | .inr (.inl r'), h => exact h
        | .inr (.inr (K, as, (pc', lv', st', σ'))), h =>
          simp only at h ⊢
          match d, h with
          | 0, h => cases h
          | d' + 1, h =>
            simp only at h ⊢
            cases ho : oOr K as with
            | some v =>
              rw [ho] at h
              simp only at h ⊢
              exact ih g (d' + 1) M pc' lv' (v :: st') σ' r hg h
            | none =>
              rw [ho] at h
              simp only at h ⊢
              cases hP : P[K]? with
              | none => rw [hP] at h; cases h
              | some M' =>
                rw [hP] at h
                simp only at h ⊢
                cases hb : Nat.ble (aArg as).length (aML M') with
                | false => rw [hb] at h; cases h
                | true =>
                  rw [hb] at h
                  simp only at h ⊢
                  cases he : oExec X S P f d' M' 0 (aEnt M' as) [] σ' with
                  | none => rw [he] at h; cases h
                  | some q2 =>
                    rw [he] at h
                    rw [ih g d' M' 0 (aEnt M' as) [] σ' q2 hg he]
                    match q2, h with
                    | (v, σ2), h => exact ih g (d' + 1) M pc' lv' (v.toList ++ st') σ2 r hg h
/-! values, memory -/
abbrev bV : Type := Int ⊕ (Nat ⊕ (Int ⊕ (Unit ⊕ ((Nat × Int) ⊕ (Int ⊕ Int)))))
abbrev vi (z : Int) : bV := .inl z
abbrev vr (a : Nat) : bV := .inr (.inl a)
abbrev vl (z : Int) : bV := .inr (.inr (.inl z))
abbrev vn : bV := .inr (.inr (.inr (.inl ())))
abbrev vw (a : Nat) (i : Int) : bV := .inr (.inr (.inr (.inr (.inl (a, i)))))
/-- written numbers (int, long): of them the code's own questions are answered by counting -/
abbrev vc (z : Int) : bV := .inr (.inr (.inr (.inr (.inr (.inl z)))))
abbrev vk (z : Int) : bV := .inr (.inr (.inr (.inr (.inr (.inr z)))))
abbrev bMm : Type := (Bool × Bool × Bool) × (Nat → Int → Int)
abbrev bPo : Type := Int → bMm → Prop
abbrev inR (z : Int) : Prop := -2147483648 ≤ z ∧ z ≤ 2147483647
abbrev inL (z : Int) : Prop := -9223372036854775808 ≤ z ∧ z ≤ 9223372036854775807
def bVal (v : bV) : Value := match v with
  | .inl z => .int (Int32.ofInt z)
  | .inr (.inl a) => .ref a
  | .inr (.inr (.inl z)) => .long (Int64.ofInt z)
  | .inr (.inr (.inr (.inl _))) => .null
  | .inr (.inr (.inr (.inr (.inl (a, i))))) => .ref (a + 1 + i.toNat)
  | .inr (.inr (.inr (.inr (.inr (.inl z))))) => .int (Int32.ofInt z)
  | .inr (.inr (.inr (.inr (.inr (.inr z))))) => .long (Int64.ofInt z)
def bNm (v : bV) : bV := match v with
  | .inr (.inr (.inr (.inr (.inr (.inl z))))) => .inl z
  | .inr (.inr (.inr (.inr (.inr (.inr z))))) => .inr (.inr (.inl z))
  | v => v
/-- an int; a long -/
def bZ (v : bV) : Option Int := match v with
  | .inl z => some z
  | .inr (.inr (.inr (.inr (.inr (.inl z))))) => some z
  | _ => none
def bL (v : bV) : Option Int := match v with
  | .inr (.inr (.inl z)) => some z
  | .inr (.inr (.inr (.inr (.inr (.inr z))))) => some z
  | _ => none
def bG (v : bV) : Bool := match v with
  | .inr (.inr (.inr (.inr (.inr _)))) => true
  | _ => false
/-- in bounds: asked of what isn't written -/
def wR (v : bV) (z : Int) (P : Prop) : Prop := match bG v with
  | true => match decide (inR z) with
    | true => P
    | false => False
  | false => inR z ∧ P
def wRL (v : bV) (z : Int) (P : Prop) : Prop := match bG v with
  | true => match decide (inL z) with
    | true => P
    | false => False
  | false => inL z ∧ P
def wIx (v : bV) (z n : Int) (P : Prop) : Prop := match bG v with
  | true => match decide (0 ≤ z ∧ z < n) with
    | true => P
    | false => False
  | false => (0 ≤ z ∧ z < n) ∧ P
/-- rows of rows: the outer row, how many, how long -/
def bOut (a : Nat) : Bool := Nat.beq a 7 || (Nat.beq a 17 || (Nat.beq a 25 || Nat.beq a 37))
def bRow (a : Nat) : Bool := (Nat.ble 8 a && Nat.ble a 13) || ((Nat.ble 18 a && Nat.ble a 23) || ((Nat.ble 26 a && Nat.ble a 30) || (Nat.ble 38 a && Nat.ble a 77)))
def bAd (a : Nat) : Nat × Int := match bRow a with
  | false => (a, 0)
  | true => match Nat.ble a 13 with
    | true => (7, ((a - 8 : Nat) : Int) * 1000)
    | false => match Nat.ble a 23 with
      | true => (17, ((a - 18 : Nat) : Int) * 1000)
      | false => match Nat.ble a 30 with
        | true => (25, ((a - 26 : Nat) : Int) * 1000)
        | false => (37, ((a - 38 : Nat) : Int) * 1000)
def bMe (μ : bMm) (a : Nat) (k : Int) : Int := μ.2 (bAd a).1 ((bAd a).2 + k)
def bRf (bt : Bool × Bool × Bool) (a k r : Nat) : Nat := match a with
  | 0 => match k with
    | 10 => match bt.1 with
      | false => 100
      | true => 110
    | 11 => match bt.2.1 with
      | false => 100
      | true => 110
    | _ => r
  | 120 => match k with
    | 5 => match bt.2.2 with
      | false => 121
      | true => 122
    | _ => r
  | _ => r
def bRs (bt : Bool × Bool × Bool) (a k b : Nat) : Option (Bool × Bool × Bool) := match a with
  | 0 => match k with
    | 10 => match b with
      | 100 => some (false, bt.2)
      | 110 => some (true, bt.2)
      | _ => none
    | 11 => match b with
      | 100 => some (bt.1, false, bt.2.2)
      | 110 => some (bt.1, true, bt.2.2)
      | _ => none
    | _ => none
  | 120 => match k with
    | 5 => match b with
      | 121 => some (bt.1, bt.2.1, false)
      | 122 => some (bt.1, bt.2.1, true)
      | _ => none
    | _ => none
  | _ => none
def bF (a k : Nat) : Value := (aF0.getD a []).getD k .null
def bVo (μ : bMm) (a k : Nat) (v : Value) : Value := match v with
  | .int _ => .int (Int32.ofInt (μ.2 a k))
  | .long _ => .long (Int64.ofInt (μ.2 a k))
  | .ref r => .ref (bRf μ.1 a k r)
  | v => v
def bVa (μ : bMm) (a k t : Nat) : Value := match t with
  | 4 => aI0 a k
  | 3 => .long (Int64.ofInt (μ.2 a k))
  | _ => .int (Int32.ofInt (bMe μ a k))
def bVs (μ : bMm) (a k : Nat) (sh : Option aSh) : Value := match sh with
  | none => .null
  | some (.inr (t, n)) => match Nat.blt k n with
    | true => bVa μ a k t
    | false => .null
  | some (.inl _) => bVo μ a k (bF a k)
def bσ (μ : bMm) : aSt := fun a k => bVs μ a k aS[a]?
def up (m : Nat → Int → Int) (a : Nat) (k z : Int) : Nat → Int → Int := fun b j => if b = a then (if j = k then z else m b j) else m b j
def bUp (μ : bMm) (a : Nat) (k z : Int) : bMm := (μ.1, up μ.2 a k z)
def cp (m : Nat → Int → Int) (a1 : Nat) (o1 : Int) (a0 : Nat) (o0 n : Int) : Nat → Int → Int := fun b j => if b = a1 then (if o1 ≤ j ∧ j < o1 + n then m a0 (o0 + (j - o1)) else m b j) else m b j
def bCp (μ : bMm) (a1 : Nat) (o1 : Int) (a0 : Nat) (o0 n : Int) : bMm := (μ.1, cp μ.2 a1 o1 a0 o0 n)
/-! operators that aren't plain on whole numbers -/
def bAnd (x y : Int) : Int := (Int32.ofInt x &&& Int32.ofInt y).toInt
def bOrr (x y : Int) : Int := (Int32.ofInt x ||| Int32.ofInt y).toInt
def bXor (x y : Int) : Int := (Int32.ofInt x ^^^ Int32.ofInt y).toInt
def bShl (x y : Int) : Int := (Int32.ofInt x <<< (Int32.ofInt y &&& 31)).toInt
def bShr (x y : Int) : Int := (Int32.ofInt x >>> (Int32.ofInt y &&& 31)).toInt
def bUsh (x y : Int) : Int := ((Int32.ofInt x).toUInt32 >>> ((Int32.ofInt y).toUInt32 &&& Int32.toUInt32 31)).toInt32.toInt
def bByt (x : Int) : Int := (Int32.ofInt x).toInt8.toInt32.toInt
def bNar (t : Nat) (x : Int) : Int := (vp_nar (if t = 1 then .byte else .boolean) (Int32.ofInt x)).toInt
def lAnd (x y : Int) : Int := (Int64.ofInt x &&& Int64.ofInt y).toInt
def lOrr (x y : Int) : Int := (Int64.ofInt x ||| Int64.ofInt y).toInt
def lShl (x y : Int) : Int := (Int64.ofInt x <<< ((Int32.ofInt y).toInt64 &&& 63)).toInt
def lUsh (x y : Int) : Int := ((Int64.ofInt x).toUInt64 >>> ((Int32.ofInt y).toInt64.toUInt64 &&& Int64.toUInt64 63)).toInt64.toInt
/-! what stands outside of the store: the script, static rows -/
def bStL (a : Nat) : List Int32 := match a with
  | 1001 => [1, 10, 100, 1000, 10000, 100000, 1000000]
  | 1002 => [0, 1, 0]
  | 1003 => [99, 99, 8]
  | _ => []
def bX (xs : List Int32) : aXt := fun a => match a with
  | 1000 => some ((xs.take 3072).length, fun j => (xs.take 3072).getD j 0)
  | 1001 => some (7, fun j => (bStL 1001).getD j 0)
  | 1002 => some (3, fun j => (bStL 1002).getD j 0)
  | 1003 => some (3, fun j => (bStL 1003).getD j 0)
  | _ => none
def bXn (xs : List Int32) (a : Nat) : Option Int := match a with
  | 1000 => some ((xs.take 3072).length : Int)
  | 1001 => some 7
  | 1002 => some 3
  | 1003 => some 3
  | _ => none
def bXv (xs : List Int32) (a : Nat) (i : Int) : Int := match a with
  | 1000 => ((xs.take 3072).getD i.toNat 0).toInt
  | _ => ((bStL a).getD i.toNat 0).toInt
/-! runs -/
def bArg : List bV → List bV
  | [] => []
  | v :: r => match bL v with
    | some _ => v :: vn :: bArg r
    | none => v :: bArg r
def bEnt (M : aM) (as : List bV) : List bV := bArg as ++ List.replicate (aML M - (bArg as).length) vn
def bRes (M : aM) (v : Option Value) (z : Int) : Prop := match aRt M with
  | none => v = none
  | some _ => v = some (.int (Int32.ofInt z))
def bGo (xs : List Int32) (d : Nat) (M : aM) (pc : Nat) (lv st : List bV) (μ : bMm) (Q : bPo) : Prop :=
  ∃ (f : Nat) (v : Option Value) (z : Int) (μ' : bMm), oExec (bX xs) aS aProg f d M pc (lv.map bVal) (st.map bVal) (bσ μ) = some (v, bσ μ') ∧ bRes M v z ∧ Q z μ'
def bC (xs : List Int32) (rk : Nat) (K : Nat) (as : List bV) (μ : bMm) (Q : bPo) : Prop :=
  ∀ (M : aM), aProg[K]? = some M → ∀ d, rk ≤ d → bGo xs d M 0 (bEnt M as) [] μ Q
/-! an instruction -/
def bCt (v : bV) : Bool := match bL v with
  | some _ => false
  | none => true
def bNoL (lv : List bV) : Nat → Bool
  | 0 => true
  | i + 1 => match lv[i]? with
    | some v => bCt v
    | none => true
def bCat : List bV → Nat
  | [] => 0
  | v :: r => match bCt v with
    | true => 1 + bCat r
    | false => 2 + bCat r
def bTk : Nat → List bV → List bV → Option (List bV × List bV)
  | 0, acc, st => some (acc, st)
  | _ + 1, _, [] => none
  | n + 1, acc, v :: st => bTk n (v :: acc) st
def wJ (nx : Nat → Prop) (pc : Nat) (off : Int) : Prop := match (pc : Int) + off with
  | .ofNat t => nx t
  | .negSucc _ => False
def wP1 (nx : List bV → Prop) (lv : List bV) (i : Nat) (v : bV) : Prop := match Nat.blt i lv.length && bNoL lv i with
  | true => nx (lv.set i v)
  | false => False
def wP2 (nx : List bV → Prop) (lv : List bV) (i : Nat) (v : bV) : Prop := match Nat.blt (i + 1) lv.length && bNoL lv i with
  | true => nx ((lv.set i v).set (i + 1) vn)
  | false => False
def wLi (nx : bV → Prop) (lv : List bV) (i : Nat) : Prop := match lv[i]? with
  | some v => match bZ v with
    | some _ => nx v
    | none => False
  | none => False
def wLl (nx : bV → Prop) (lv : List bV) (i : Nat) : Prop := match lv[i]? with
  | some v => match bL v with
    | some _ => nx v
    | none => False
  | none => False
/-- a reference -/
def bRe (v : bV) : Bool := match v with
  | .inr (.inl _) => true
  | .inr (.inr (.inr (.inr (.inl _)))) => true
  | _ => false
def wLr (nx : bV → Prop) (lv : List bV) (i : Nat) : Prop := match lv[i]? with
  | some v => match bRe v with
    | true => nx v
    | false => False
  | none => False
def wI1 (nx : bV → Int → List bV → Prop) (st : List bV) : Prop := match st with
  | v :: r => match bZ v with
    | some z => nx v z r
    | none => False
  | [] => False
def wII (nx : bV → bV → Int → Int → List bV → Prop) (st : List bV) : Prop := match st with
  | v :: u :: r => match bZ v with
    | some y => match bZ u with
      | some x => nx u v x y r
      | none => False
    | none => False
  | _ => False
def wLL (nx : bV → bV → Int → Int → List bV → Prop) (st : List bV) : Prop := match st with
  | v :: u :: r => match bL v with
    | some y => match bL u with
      | some x => nx u v x y r
      | none => False
    | none => False
  | _ => False
def wLI (nx : Int → Int → List bV → Prop) (st : List bV) : Prop := match st with
  | v :: u :: r => match bZ v with
    | some y => match bL u with
      | some x => nx x y r
      | none => False
    | none => False
  | _ => False
def wLd (xs : List Int32) (μ : bMm) (ty : Nat → Bool) (v iv : bV) (i : Int) (κ : Int → Prop) : Prop := match v with
  | .inr (.inl a) => match bRow a with
    | true => False
    | false => match aS[a]? with
      | some (.inr (t, n)) => match ty t with
        | true => wIx iv i (n : Int) (κ (μ.2 a i))
        | false => False
      | some (.inl _) => False
      | none => match ty 0 with
        | true => match bXn xs a with
          | some n => wIx iv i n (κ (bXv xs a i))
          | none => False
        | false => False
  | .inr (.inr (.inr (.inr (.inl (a, r))))) => match ty 0 && bOut a with
    | true => match aS[a]? with
      | some (.inr (_, n)) => match aS[a + 1]? with
        | some (.inr (_, w)) => (0 ≤ r ∧ r < (n : Int)) ∧ wIx iv i (w : Int) (κ (μ.2 a (r * 1000 + i)))
        | _ => False
      | _ => False
    | false => False
  | _ => False
def wSt (μ : bMm) (ty : Nat → Bool) (v iv : bV) (i : Int) (z : Nat → Int) (κ : bMm → Prop) : Prop := match v with
  | .inr (.inl a) => match bRow a with
    | true => False
    | false => match aS[a]? with
      | some (.inr (t, n)) => match ty t with
        | true => wIx iv i (n : Int) (κ (bUp μ a i (z t)))
        | false => False
      | _ => False
  | .inr (.inr (.inr (.inr (.inl (a, r))))) => match ty 0 && bOut a with
    | true => match aS[a]? with
      | some (.inr (_, n)) => match aS[a + 1]? with
        | some (.inr (_, w)) => (0 ≤ r ∧ r < (n : Int)) ∧ wIx iv i (w : Int) (κ (bUp μ a (r * 1000 + i) (z 0)))
        | _ => False
      | _ => False
    | false => False
  | _ => False
/-- an int row: where it lies, how long -/
def wAr (v : bV) (κ : Nat → Int → Int → Prop) : Prop := match v with
  | .inr (.inl a) => match bRow a with
    | true => False
    | false => match aS[a]? with
      | some (.inr (0, n)) => κ a 0 (n : Int)
      | _ => False
  | .inr (.inr (.inr (.inr (.inl (a, r))))) => match bOut a with
    | true => match aS[a]? with
      | some (.inr (_, n)) => match aS[a + 1]? with
        | some (.inr (_, w)) => (0 ≤ r ∧ r < (n : Int)) ∧ κ a (r * 1000) (w : Int)
        | _ => False
      | _ => False
    | false => False
  | _ => False
def wLn (xs : List Int32) (v : bV) (κ : Int → Prop) : Prop := match v with
  | .inr (.inl a) => match aS[a]? with
    | some (.inr (_, n)) => κ (n : Int)
    | some (.inl _) => False
    | none => match bXn xs a with
      | some n => κ n
      | none => False
  | .inr (.inr (.inr (.inr (.inl (a, r))))) => match bOut a with
    | true => match aS[a]? with
      | some (.inr (_, n)) => match aS[a + 1]? with
        | some (.inr (_, w)) => (0 ≤ r ∧ r < (n : Int)) ∧ κ (w : Int)
        | _ => False
      | _ => False
    | false => False
  | _ => False
def bFl (μ : bMm) (a k : Nat) (κ : bV → Prop) : Prop := match bF a k with
  | .int _ => κ (.inl (μ.2 a k))
  | .long _ => κ (.inr (.inr (.inl (μ.2 a k))))
  | .ref r => κ (.inr (.inl (bRf μ.1 a k r)))
  | _ => False
def bPf (μ : bMm) (a k kd : Nat) (v : bV) (κ : bMm → Prop) : Prop := match kd with
  | 0 => match bZ v with
    | some z => match bF a k with
      | .int _ => κ (bUp μ a k z)
      | _ => False
    | none => False
  | 1 => match bZ v with
    | some z => match bF a k with
      | .int _ => match bG v with
        | true => match decide (z = 0 ∨ z = 1) with
          | true => κ (bUp μ a k z)
          | false => False
        | false => (z = 0 ∨ z = 1) ∧ κ (bUp μ a k z)
      | _ => False
    | none => False
  | 2 => match bL v with
    | some z => match bF a k with
      | .long _ => κ (bUp μ a k z)
      | _ => False
    | none => False
  | 3 => match v with
    | .inr (.inl b) => match bRs μ.1 a k b with
      | some bt => κ (bt, μ.2)
      | none => False
    | _ => False
  | _ => False
def wSwT (nx : Nat → Prop) (pc : Nat) (x : Int) : Int → List Int → Prop
  | _, [] => True
  | k, off :: r => (x = k → wJ nx pc off) ∧ wSwT nx pc x (k + 1) r
def wSwL (nx : Nat → Prop) (pc : Nat) (x : Int) (dflt : Int) : List (Int × Int) → Prop
  | [] => wJ nx pc dflt
  | q :: r => (x = q.1 → wJ nx pc q.2) ∧ (¬ x = q.1 → wSwL nx pc x dflt r)
def bPush (K : Nat) (v : bV) (st : List bV) : List bV := match aProg[K]? with
  | some M => match aRt M with
    | none => st
    | some _ => v :: st
  | none => st
/-- the JDK's members that are one step -/
def wPr (nx : List bV → bMm → Prop) (K : Nat) (st : List bV) (μ : bMm) : Prop := match K with
  | 0 => wII (fun u v x y r => match Nat.ble (bCat r) 8 with
      | true => wR u x (wR v y (nx (.inl (max x y) :: r) μ))
      | false => False) st
  | 1 => wII (fun u v x y r => match Nat.ble (bCat r) 8 with
      | true => wR u x (wR v y (nx (.inl (min x y) :: r) μ))
      | false => False) st
  | 2 => wLL (fun u v x y r => match Nat.ble (bCat r) 8 with
      | true => wRL u x (wRL v y (nx (.inr (.inr (.inl (max x y))) :: r) μ))
      | false => False) st
  | 3 => wLL (fun u v x y r => match Nat.ble (bCat r) 8 with
      | true => wRL u x (wRL v y (nx (.inr (.inr (.inl (min x y))) :: r) μ))
      | false => False) st
  | 4 => match st with
    | nv :: dv :: v1 :: sv :: v0 :: r => match Nat.ble (bCat r) 8 with
      | true => match bZ nv with
        | some n => match bZ dv with
          | some dp => match bZ sv with
            | some sp => wAr v0 (fun A0 b0 n0 => wAr v1 (fun A1 b1 n1 => ((0 ≤ sp ∧ 0 ≤ dp ∧ 0 ≤ n) ∧ sp + n ≤ n0 ∧ dp + n ≤ n1) ∧ nx r (bCp μ A1 (b1 + dp) A0 (b0 + sp) n)))
            | none => False
          | none => False
        | none => False
      | false => False
    | _ => False
  | _ => False
/-- two ways, by a question -/
def wBr (g : Bool) (b : Bool) (p q : Prop) (A B : Prop) : Prop := match g with
  | true => match b with
    | true => A
    | false => B
  | false => (p → A) ∧ (q → B)
def wIf (v : bV) (x : Int) (c : Jvm.ClassFile.Cond) (A B : Prop) : Prop := match c with
  | .eq => wBr (bG v) (decide (x = 0)) (x = 0) (¬ x = 0) A B
  | .ne => wBr (bG v) (decide (¬ x = 0)) (¬ x = 0) (x = 0) A B
  | .lt => wBr (bG v) (decide (x < 0)) (x < 0) (0 ≤ x) A B
  | .ge => wBr (bG v) (decide (0 ≤ x)) (0 ≤ x) (x < 0) A B
  | .gt => wBr (bG v) (decide (0 < x)) (0 < x) (x ≤ 0) A B
  | .le => wBr (bG v) (decide (x ≤ 0)) (x ≤ 0) (0 < x) A B
def wCm (g : Bool) (x y : Int) (c : Jvm.ClassFile.Cond) (A B : Prop) : Prop := match c with
  | .eq => wBr g (decide (x = y)) (x = y) (¬ x = y) A B
  | .ne => wBr g (decide (¬ x = y)) (¬ x = y) (x = y) A B
  | .lt => wBr g (decide (x < y)) (x < y) (y ≤ x) A B
  | .ge => wBr g (decide (y ≤ x)) (y ≤ x) (x < y) A B
  | .gt => wBr g (decide (y < x)) (y < x) (x ≤ y) A B
  | .le => wBr g (decide (x ≤ y)) (x ≤ y) (y < x) A B
def wDv (v : bV) (y : Int) (P : Prop) : Prop := match bG v with
  | true => match decide (inR y ∧ ¬ y = 0) with
    | true => P
    | false => False
  | false => (inR y ∧ ¬ y = 0) ∧ P
def wDvL (v : bV) (y : Int) (P : Prop) : Prop := match bG v with
  | true => match decide (inL y ∧ ¬ y = 0) with
    | true => P
    | false => False
  | false => (inL y ∧ ¬ y = 0) ∧ P
def wI (xs : List Int32) (M : aM) (nx : Nat → List bV → List bV → bMm → Prop) (cl : Nat → List bV → bMm → (bV → bMm → Prop) → Prop) (rt : bV → bMm → Prop) (pc : Nat) (ins : Instr) (nin : Option (Instr × Nat)) (lv st : List bV) (μ : bMm) : Prop := match ins with
  | .iconst n => nx (pc + 1) lv (vc n :: st) μ
  | .bipush n => match decide (-128 ≤ n ∧ n ≤ 127) with
    | true => nx (pc + 2) lv (vc n :: st) μ
    | false => False
  | .sipush n => match decide (-32768 ≤ n ∧ n ≤ 32767) with
    | true => nx (pc + 3) lv (vc n :: st) μ
    | false => False
  | .lconst n => nx (pc + 1) lv (vk ((n : Nat) : Int) :: st) μ
  | .ldc i => match aFd (aCs M).2.2.2 i with
    | some (.int v, _) => nx (pc + 2) lv (vc v.toInt :: st) μ
    | some (.ref v, _) => match Nat.ble 2000 v with
      | true => nx (pc + 2) lv (.inr (.inl v) :: st) μ
      | false => False
    | _ => False
  | .ldc_w i => match aFd (aCs M).2.2.2 i with
    | some (.int v, _) => nx (pc + 3) lv (vc v.toInt :: st) μ
    | some (.ref v, _) => match Nat.ble 2000 v with
      | true => nx (pc + 3) lv (.inr (.inl v) :: st) μ
      | false => False
    | _ => False
  | .ldc2_w i => match aFd (aCs M).2.2.2 i with
    | some (.long v, _) => nx (pc + 3) lv (vk v.toInt :: st) μ
    | _ => False
  | .getstatic i => match aFd (aCs M).2.2.2 i with
    | some (.ref v, _) => match Nat.blt v 2000 with
      | true => nx (pc + 3) lv (.inr (.inl v) :: st) μ
      | false => False
    | _ => False
  | .iload_n k => wLi (fun v => nx (pc + 1) lv (v :: st) μ) lv k
  | .iload k => wLi (fun v => nx (pc + 2) lv (v :: st) μ) lv k
  | .lload_n k => wLl (fun v => nx (pc + 1) lv (v :: st) μ) lv k
  | .lload k => wLl (fun v => nx (pc + 2) lv (v :: st) μ) lv k
  | .aload_n k => wLr (fun v => nx (pc + 1) lv (v :: st) μ) lv k
  | .aload k => wLr (fun v => nx (pc + 2) lv (v :: st) μ) lv k
  | .istore_n k => wI1 (fun v _ r => wP1 (fun lv' => nx (pc + 1) lv' r μ) lv k v) st
  | .istore k => wI1 (fun v _ r => wP1 (fun lv' => nx (pc + 2) lv' r μ) lv k v) st
  | .lstore_n k => match st with
    | v :: r => match bL v with
      | some z => wP2 (fun lv' => nx (pc + 1) lv' r μ) lv k (.inr (.inr (.inl z)))
      | none => False
    | _ => False
  | .lstore k => match st with
    | v :: r => match bL v with
      | some z => wP2 (fun lv' => nx (pc + 2) lv' r μ) lv k (.inr (.inr (.inl z)))
      | none => False
    | _ => False
  | .astore_n k => match st with
    | v :: r => match bRe v with
      | true => wP1 (fun lv' => nx (pc + 1) lv' r μ) lv k v
      | false => False
    | _ => False
  | .astore k => match st with
    | v :: r => match bRe v with
      | true => wP1 (fun lv' => nx (pc + 2) lv' r μ) lv k v
      | false => False
    | _ => False
  | .iinc i n => match lv[i]? with
    | some v => match bZ v with
      | some x => wP1 (fun lv' => nx (pc + 3) lv' st μ) lv i (.inl (x + n))
      | none => False
    | none => False
  | .iadd => wII (fun _ _ x y r => nx (pc + 1) lv (.inl (x + y) :: r) μ) st
  | .isub => wII (fun _ _ x y r => nx (pc + 1) lv (.inl (x - y) :: r) μ) st
  | .imul => wII (fun _ _ x y r => nx (pc + 1) lv (.inl (x * y) :: r) μ) st
  | .iand => wII (fun _ _ x y r => nx (pc + 1) lv (.inl (bAnd x y) :: r) μ) st
  | .ior => wII (fun _ _ x y r => nx (pc + 1) lv (.inl (bOrr x y) :: r) μ) st
  | .ixor => wII (fun _ _ x y r => nx (pc + 1) lv (.inl (bXor x y) :: r) μ) st
  | .ishl => wII (fun _ _ x y r => nx (pc + 1) lv (.inl (bShl x y) :: r) μ) st
  | .ishr => wII (fun _ _ x y r => nx (pc + 1) lv (.inl (bShr x y) :: r) μ) st
  | .iushr => wII (fun _ _ x y r => nx (pc + 1) lv (.inl (bUsh x y) :: r) μ) st
  | .idiv => wII (fun u v x y r => wR u x (wDv v y (nx (pc + 1) lv (.inl (x.tdiv y) :: r) μ))) st
  | .irem => wII (fun u v x y r => wR u x (wDv v y (nx (pc + 1) lv (.inl (x.tmod y) :: r) μ))) st
  | .ladd => wLL (fun _ _ x y r => nx (pc + 1) lv (.inr (.inr (.inl (x + y))) :: r) μ) st
  | .lsub => wLL (fun _ _ x y r => nx (pc + 1) lv (.inr (.inr (.inl (x - y))) :: r) μ) st
  | .lmul => wLL (fun _ _ x y r => nx (pc + 1) lv (.inr (.inr (.inl (x * y))) :: r) μ) st
  | .land => wLL (fun _ _ x y r => nx (pc + 1) lv (.inr (.inr (.inl (lAnd x y))) :: r) μ) st
  | .lor => wLL (fun _ _ x y r => nx (pc + 1) lv (.inr (.inr (.inl (lOrr x y))) :: r) μ) st
  | .ldiv => wLL (fun u v x y r => wRL u x (wDvL v y (nx (pc + 1) lv (.inr (.inr (.inl (x.tdiv y))) :: r) μ))) st
  | .lrem => wLL (fun u v x y r => wRL u x (wDvL v y (nx (pc + 1) lv (.inr (.inr (.inl (x.tmod y))) :: r) μ))) st
  | .lshl => wLI (fun x y r => nx (pc + 1) lv (.inr (.inr (.inl (lShl x y))) :: r) μ) st
  | .lushr => wLI (fun x y r => nx (pc + 1) lv (.inr (.inr (.inl (lUsh x y))) :: r) μ) st
  | .lcmp => wLL (fun u v x y r => match nin with
    | some (.ifCond c off, _) => wJ (fun t => wRL u x (wRL v y (wCm (bG u && bG v) x y c (nx t lv r μ) (nx (pc + 4) lv r μ)))) (pc + 1) off
    | _ => False) st
  | .i2l => wI1 (fun v x r => match bG v with
    | true => match decide (inR x) with
      | true => nx (pc + 1) lv (vk x :: r) μ
      | false => False
    | false => inR x ∧ nx (pc + 1) lv (.inr (.inr (.inl x)) :: r) μ) st
  | .i2b => wI1 (fun _ x r => nx (pc + 1) lv (.inl (bByt x) :: r) μ) st
  | .l2i => match st with
    | v :: r => match bL v with
      | some x => nx (pc + 1) lv (.inl x :: r) μ
      | none => False
    | _ => False
  | .pop => match st with
    | v :: r => match bCt v with
      | true => nx (pc + 1) lv r μ
      | false => False
    | _ => False
  | .dup => match st with
    | v :: r => match bCt v with
      | true => nx (pc + 1) lv (v :: v :: r) μ
      | false => False
    | _ => False
  | .dup2 => match st with
    | v :: u :: r => match bCt v && bCt u with
      | true => nx (pc + 1) lv (v :: u :: v :: u :: r) μ
      | false => False
    | _ => False
  | .ifCond c off => wI1 (fun v x r => wJ (fun t => wR v x (wIf v x c (nx t lv r μ) (nx (pc + 3) lv r μ))) pc off) st
  | .if_icmp c off => wII (fun u v x y r => wJ (fun t => wR u x (wR v y (wCm (bG u && bG v) x y c (nx t lv r μ) (nx (pc + 3) lv r μ)))) pc off) st
  | .goto off => wJ (fun t => nx t lv st μ) pc off
  | .tableswitch dflt lo hi offs => wI1 (fun _ x r => match decide ((offs.size : Int) = hi - lo + 1) with
      | true => inR x ∧ ((x < lo ∨ hi < x) → wJ (fun t => nx t lv r μ) pc dflt) ∧ wSwT (fun t => nx t lv r μ) pc x lo offs.toList
      | false => False) st
  | .lookupswitch dflt ps => wI1 (fun _ x r => match (ps.toList.zip (ps.toList.drop 1)).all (fun (a, next) => a.1 < next.1) with
      | true => inR x ∧ wSwL (fun t => nx t lv r μ) pc x dflt ps.toList
      | false => False) st
  | .iaload => wI1 (fun iv i r0 => match r0 with
    | v :: r => wLd xs μ (fun t => Nat.beq t 0) v iv i (fun z => nx (pc + 1) lv (.inl z :: r) μ)
    | _ => False) st
  | .baload => wI1 (fun iv i r0 => match r0 with
    | .inr (.inl a) :: r => wLd xs μ (fun t => Nat.beq t 1 || Nat.beq t 2) (.inr (.inl a)) iv i (fun z => nx (pc + 1) lv (.inl z :: r) μ)
    | _ => False) st
  | .laload => wI1 (fun iv i r0 => match r0 with
    | .inr (.inl a) :: r => wLd xs μ (fun t => Nat.beq t 3) (.inr (.inl a)) iv i (fun z => nx (pc + 1) lv (.inr (.inr (.inl z)) :: r) μ)
    | _ => False) st
  | .aaload => wI1 (fun iv i r0 => match r0 with
    | .inr (.inl a) :: r => match bOut a with
      | true => match aS[a]? with
        | some (.inr (_, n)) => wIx iv i (n : Int) (nx (pc + 1) lv (vw a i :: r) μ)
        | _ => False
      | false => False
    | _ => False) st
  | .iastore => match st with
    | xv :: iv :: v :: r => match bZ xv with
      | some x => match bZ iv with
        | some i => wSt μ (fun t => Nat.beq t 0) v iv i (fun _ => x) (fun μ' => nx (pc + 1) lv r μ')
        | none => False
      | none => False
    | _ => False
  | .bastore => match st with
    | xv :: iv :: .inr (.inl a) :: r => match bZ xv with
      | some x => match bZ iv with
        | some i => wSt μ (fun t => Nat.beq t 1 || Nat.beq t 2) (.inr (.inl a)) iv i (fun t => bNar t x) (fun μ' => nx (pc + 1) lv r μ')
        | none => False
      | none => False
    | _ => False
  | .lastore => match st with
    | xv :: iv :: .inr (.inl a) :: r => match bL xv with
      | some x => match bZ iv with
        | some i => wSt μ (fun t => Nat.beq t 3) (.inr (.inl a)) iv i (fun _ => x) (fun μ' => nx (pc + 1) lv r μ')
        | none => False
      | none => False
    | _ => False
  | .arraylength => match st with
    | v :: r => wLn xs v (fun z => nx (pc + 1) lv (.inl z :: r) μ)
    | _ => False
  | .getfield i => match st with
    | .inr (.inl a) :: r => match aFd (aCs M).2.1 i with
      | some (ci, k, _, _) => match aS[a]? with
        | some (.inl cj) => match Nat.beq ci cj with
          | true => bFl μ a k (fun v => nx (pc + 3) lv (v :: r) μ)
          | false => False
        | _ => False
      | none => False
    | _ => False
  | .putfield i => match st with
    | v :: .inr (.inl a) :: r => match aFd (aCs M).2.1 i with
      | some (ci, k, kd, _) => match aS[a]? with
        | some (.inl cj) => match Nat.beq ci cj with
          | true => bPf μ a k kd v (fun μ' => nx (pc + 3) lv r μ')
          | false => False
        | _ => False
      | none => False
    | _ => False
  | .invokestatic i => match aFd (aCs M).2.2.1 i with
    | some (kd, K, n, _) => match Nat.beq kd 0 with
      | true => wPr (fun st' μ' => nx (pc + 3) lv st' μ') K st μ
      | false => match bTk n [] st with
        | some (as, r) => match Nat.beq kd 1 && Nat.ble (bCat r) 8 with
          | true => cl K as μ (fun v μ' => nx (pc + 3) lv (bPush K v r) μ')
          | false => False
        | none => False
    | none => False
  | .invokevirtual i => match aFd (aCs M).2.2.1 i with
    | some (kd, K, n, _) => match bTk n [] st with
      | some (as, .inr (.inl a) :: r) => match aS[a]? with
        | some (.inl ci) => match Nat.beq kd (ci + 2) && Nat.ble (bCat r) 8 with
          | true => cl K (.inr (.inl a) :: as) μ (fun v μ' => nx (pc + 3) lv (bPush K v r) μ')
          | false => False
        | _ => False
      | _ => False
    | none => False
  | .ireturn => match st with
    | [v] => match bZ v with
      | some x => match aRt M with
        | some .int => rt v μ
        | some .boolean => match bG v with
          | true => match decide (x = 0 ∨ x = 1) with
            | true => rt v μ
            | false => False
          | false => (x = 0 ∨ x = 1) ∧ rt v μ
        | _ => False
      | none => False
    | _ => False
  | .return_ => match st with
    | [] => match aRt M with
      | none => rt (vc 0) μ
      | _ => False
    | _ => False
  | _ => False
def bOr (K : Nat) (as : List bV) (κ : bV → Prop) : Option Prop := match K with
  | 13 => match as with
    | [.inl s] => some (inR (s + 999999) ∧ κ (.inl ((s + 999999) / 1000000)))
    | _ => some False
  | 175 => match as with
    | [.inr (.inl r), .inl c] => match Nat.ble 2000 r && Nat.ble r 2004 with
      | true => some (inR c ∧ κ (.inl (bAm (oTx r) c)))
      | false => some False
    | _ => some False
  | 198 => match as with
    | [.inr (.inl r), .inl c] => match Nat.ble 2000 r && Nat.ble r 2004 with
      | true => some (inR c ∧ κ (.inl (bPl (oTx r) c 0)))
      | false => some False
    | _ => some False
  | _ => none
def bTop (Q : bPo) (v : bV) (μ : bMm) : Prop := match bZ v with
  | some z => Q z μ
  | none => False
/-- what is still wanted of the locals -/
def bMk : List Bool → List bV → List bV
  | [], lv => lv
  | _ :: _, [] => []
  | k :: ks, v :: lv => match k || !(bCt v) with
    | true => v :: bMk ks lv
    | false => vn :: bMk ks lv
/-- what a callee leaves of the three references that change: all, the text's not, none -/
def wBk (mo : Nat) (bt : Bool × Bool × Bool) (κ : bV → bMm → Prop) (z : Int) (μ : bMm) : Prop := match mo with
  | 0 => μ.1 = bt ∧ κ (.inl z) (bt, μ.2)
  | 1 => (μ.1.1 = bt.1 ∧ μ.1.2.1 = bt.2.1) ∧ κ (.inl z) ((bt.1, bt.2.1, μ.1.2.2), μ.2)
  | _ => κ (.inl z) μ
/-- a stretch of code from pc on: to its cuts, with short callees inside -/
def wX (xs : List Int32) (rk mo : Nat → Nat) (stops : List (Nat × List Bool)) (inl : List Nat) (d r0 : Nat) (Q : bPo) : Nat → aM → Nat → Nat → List bV → List bV → bMm → (bV → bMm → Prop) → Prop
  | 0, _, _, _, _, _, _, _ => False
  | f + 1, M, j, pc, lv, st, μ, κ => match aFd (aCo M) pc with
    | none => False
    | some q => wI xs M
      (fun pc' lv' st' μ' => match j with
        | 0 => match aFd stops pc' with
          | some ks => bGo xs d M pc' ((bMk ks lv').map bNm) (st'.map bNm) μ' Q
          | none => wX xs rk mo stops inl d r0 Q f M 0 pc' lv' st' μ' κ
        | j' + 1 => wX xs rk mo stops inl d r0 Q f M (j' + 1) pc' lv' st' μ' κ)
      (fun K as μ' κ' => match bOr K (as.map bNm) (fun v => κ' v μ') with
        | some P => match Nat.ble (j + 1) r0 with
          | true => P
          | false => False
        | none => match aProg[K]? with
          | none => False
          | some M' => match Nat.ble (bArg as).length (aML M') && Nat.ble (j + 1) r0 with
            | false => False
            | true => match inl.elem K with
              | true => wX xs rk mo stops inl d r0 Q f M' (j + 1) 0 (bEnt M' as) [] μ' κ'
              | false => match Nat.ble (rk K + (j + 1)) r0 with
                | true => bC xs (rk K) K (as.map bNm) μ' (wBk (mo K) μ'.1 κ')
                | false => bGo xs (d - (j + 1)) M' 0 (bEnt M' (as.map bNm)) [] μ' (wBk (mo K) μ'.1 κ'))
      κ pc q.1 (aFd (aCo M) (pc + 1)) lv st μ
def bW (b : Bool) : Nat := match b with
  | false => 100
  | true => 110
def bT (b : Bool) : Nat := match b with
  | false => 121
  | true => 122
def bTn (b : Bool) : Int := match b with
  | false => 240
  | true => 1440
end
section
/-! THE RULES' SOUNDNESS, 1: values, locals that aren't wanted any more -/
theorem bZ_val {v : bV} {z : Int} (h : bZ v = some z) : bVal v = .int (Int32.ofInt z) := by
  match v, h with
  | .inl _, h => cases h; rfl
  | .inr (.inr (.inr (.inr (.inr (.inl _))))), h => cases h; rfl
theorem bL_val {v : bV} {z : Int} (h : bL v = some z) : bVal v = .long (Int64.ofInt z) := by
  match v, h with
  | .inr (.inr (.inl _)), h => cases h; rfl
  | .inr (.inr (.inr (.inr (.inr (.inr _))))), h => cases h; rfl
theorem bRe_val {v : bV} (h : bRe v = true) : ∃ a, bVal v = .ref a := by
  match v, h with
  | .inr (.inl a), _ => exact ⟨a, rfl⟩
  | .inr (.inr (.inr (.inr (.inl (a, i))))), _ => exact ⟨_, rfl⟩
theorem bNm_val (v : bV) : bVal (bNm v) = bVal v := by
  match v with
  | .inl _ => rfl
  | .inr (.inl _) => rfl
  | .inr (.inr (.inl _)) => rfl
  | .inr (.inr (.inr (.inl _))) => rfl
  | .inr (.inr (.inr (.inr (.inl _)))) => rfl
  | .inr (.inr (.inr (.inr (.inr (.inl _))))) => rfl
  | .inr (.inr (.inr (.inr (.inr (.inr _))))) => rfl
theorem bNm_map (l : List bV) : (l.map bNm).map bVal = l.map bVal := by
  rw [List.map_map]
  exact List.map_congr_left (fun v _ => bNm_val v)
theorem bCt_val (v : bV) : ((bVal v).category == 1) = bCt v := by
  match v with
  | .inl _ => rfl
  | .inr (.inl _) => rfl
  | .inr (.inr (.inl _)) => rfl
  | .inr (.inr (.inr (.inl _))) => rfl
  | .inr (.inr (.inr (.inr (.inl _)))) => rfl
  | .inr (.inr (.inr (.inr (.inr (.inl _))))) => rfl
  | .inr (.inr (.inr (.inr (.inr (.inr _))))) => rfl
theorem bCt_cat {v : bV} (h : bCt v = true) : (bVal v).category = 1 := by
  have := bCt_val v
  rw [h] at this
  simpa using this
theorem bCt_cat2 {v : bV} (h : bCt v = false) : (bVal v).category = 2 := by
  match v, h with
  | .inr (.inr (.inl _)), _ => rfl
  | .inr (.inr (.inr (.inr (.inr (.inr _))))), _ => rfl
theorem bAt (lv : List bV) (i : Nat) : (lv.map bVal)[i]? = (lv[i]?).map bVal := List.getElem?_map ..
theorem bNoL_val (lv : List bV) : ∀ i, aNoL (lv.map bVal) i = bNoL lv i
  | 0 => rfl
  | i + 1 => by
    show (match (lv.map bVal)[i]? with
      | some v => v.category == 1
      | none => true) = (match lv[i]? with
      | some v => bCt v
      | none => true)
    rw [bAt]
    cases lv[i]? with
    | none => rfl
    | some v => exact bCt_val v
theorem bCat_val : ∀ st : List bV, aCat (st.map bVal) = bCat st
  | [] => rfl
  | v :: r => by
    show (bVal v).category + aCat (r.map bVal) = (match bCt v with
      | true => 1 + bCat r
      | false => 2 + bCat r)
    rw [bCat_val r]
    cases h : bCt v with
    | true => rw [bCt_cat h]
    | false => rw [bCt_cat2 h]
theorem bTk_val : ∀ (n : Nat) (acc st as r : List bV), bTk n acc st = some (as, r) → aTk n (acc.map bVal) (st.map bVal) = some (as.map bVal, r.map bVal)
  | 0, acc, st, as, r, h => by cases h; rfl
  | n + 1, acc, [], as, r, h => by cases h
  | n + 1, acc, v :: st, as, r, h => bTk_val n (v :: acc) st as r h
theorem bArg_val : ∀ as : List bV, aArg (as.map bVal) = (bArg as).map bVal
  | [] => rfl
  | v :: r => by
    show (match (bVal v).category == 2 with
      | true => bVal v :: .null :: aArg (r.map bVal)
      | false => bVal v :: aArg (r.map bVal)) = (match bL v with
      | some _ => v :: vn :: bArg r
      | none => v :: bArg r).map bVal
    rw [bArg_val r]
    cases h : bL v with
    | some z =>
      show _ = bVal v :: .null :: (bArg r).map bVal
      rw [bL_val h]
      rfl
    | none =>
      have hc : bCt v = true := by unfold bCt; rw [h]
      rw [bCt_cat hc]
      rfl
theorem bEnt_val (M : aM) (as : List bV) : aEnt M (as.map bVal) = (bEnt M as).map bVal := by
  unfold aEnt bEnt
  rw [bArg_val, List.map_append, List.length_map, List.map_replicate]
  rfl
theorem bSet_val (lv : List bV) (i : Nat) (v : bV) : (lv.map bVal).set i (bVal v) = (lv.set i v).map bVal := by
  rw [List.map_set]
/-! locals with holes -/
def aLe (lv lv' : List Value) : Prop := lv.length = lv'.length ∧ ∀ (i : Nat) (v : Value), lv[i]? = some v → lv'[i]? = some v ∨ (v = .null ∧ ∃ v', lv'[i]? = some v' ∧ v'.category = 1)
theorem aLe.rf (lv : List Value) : aLe lv lv := ⟨rfl, fun _ _ h => Or.inl h⟩
theorem aLe.at {lv lv' : List Value} (h : aLe lv lv') {i : Nat} {v : Value} (hi : lv[i]? = some v) (hv : v ≠ .null) : lv'[i]? = some v := (h.2 i v hi).resolve_right (fun q => hv q.1)
theorem aLe.set {lv lv' : List Value} (h : aLe lv lv') (i : Nat) (v : Value) : aLe (lv.set i v) (lv'.set i v) := by
  refine ⟨by rw [List.length_set, List.length_set]; exact h.1, fun j u hj => ?_⟩
  rw [List.getElem?_set] at hj ⊢
  by_cases e : i = j
  · subst e
    rw [if_pos rfl] at hj ⊢
    rw [← h.1]
    exact Or.inl hj
  · rw [if_neg e] at hj ⊢
    exact h.2 j u hj
theorem aLe.noL {lv lv' : List Value} (h : aLe lv lv') : ∀ i, aNoL lv i = true → aNoL lv' i = true
  | 0, _ => rfl
  | i + 1, hn => by
    have hn : (match lv[i]? with
      | some v => v.category == 1
      | none => true) = true := hn
    show (match lv'[i]? with
      | some v => v.category == 1
      | none => true) = true
    cases h1 : lv[i]? with
    | none =>
      have : lv'[i]? = none := by
        rw [List.getElem?_eq_none_iff] at h1 ⊢
        rw [← h.1]
        exact h1
      rw [this]
    | some v =>
      rw [h1] at hn
      rcases h.2 i v h1 with h2 | ⟨rfl, v', h2, h3⟩
      · rw [h2]; exact hn
      · rw [h2]
        show (v'.category == 1) = true
        rw [h3]
        rfl
def aWl (lv : List Value) (r : aR) : aR := match r with
  | .inl (pc, _, st, σ) => .inl (pc, lv, st, σ)
  | .inr (.inl x) => .inr (.inl x)
  | .inr (.inr (K, as, (pc, _, st, σ))) => .inr (.inr (K, as, (pc, lv, st, σ)))
/-- the instructions that look at locals -/
def aLoc (ins : Instr) : Bool := match ins with
  | .iload_n _ => true
  | .iload _ => true
  | .lload_n _ => true
  | .lload _ => true
  | .aload_n _ => true
  | .aload _ => true
  | .istore_n _ => true
  | .istore _ => true
  | .lstore_n _ => true
  | .lstore _ => true
  | .astore_n _ => true
  | .astore _ => true
  | .iinc _ _ => true
  | _ => false
theorem aGo_wl (pc : Nat) (lv lv' st : List Value) (σ : aSt) : aGo pc lv' st σ = (aGo pc lv st σ).map (aWl lv') := rfl
theorem aJp_wl (pc : Nat) (off : Int) (lv lv' st : List Value) (σ : aSt) : aJp pc off lv' st σ = (aJp pc off lv st σ).map (aWl lv') := by
  unfold aJp
  split <;> rfl
theorem aGd_wl (b : Bool) (o o' : Option aR) (lv' : List Value) (h : o' = o.map (aWl lv')) : aGd b o' = (aGd b o).map (aWl lv') := by
  cases b with
  | true => exact h
  | false => rfl
theorem aII_wl (f : Int32 → Int32 → Value) (pc : Nat) (lv lv' st : List Value) (σ : aSt) : aII f pc lv' st σ = (aII f pc lv st σ).map (aWl lv') := by
  unfold aII
  split <;> rfl
theorem aLL_wl (f : Int64 → Int64 → Value) (pc : Nat) (lv lv' st : List Value) (σ : aSt) : aLL f pc lv' st σ = (aLL f pc lv st σ).map (aWl lv') := by
  unfold aLL
  split <;> rfl
theorem aLI_wl (f : Int64 → Int32 → Value) (pc : Nat) (lv lv' st : List Value) (σ : aSt) : aLI f pc lv' st σ = (aLI f pc lv st σ).map (aWl lv') := by
  unfold aLI
  split <;> rfl
theorem aI1_wl (f : Int32 → Value) (pc : Nat) (lv lv' st : List Value) (σ : aSt) : aI1 f pc lv' st σ = (aI1 f pc lv st σ).map (aWl lv') := by
  unfold aI1
  split <;> rfl
theorem aL1_wl (f : Int64 → Value) (pc : Nat) (lv lv' st : List Value) (σ : aSt) : aL1 f pc lv' st σ = (aL1 f pc lv st σ).map (aWl lv') := by
  unfold aL1
  split <;> rfl
theorem aIID_wl (f : Int32 → Int32 → Value) (pc : Nat) (lv lv' st : List Value) (σ : aSt) : aIID f pc lv' st σ = (aIID f pc lv st σ).map (aWl lv') := by
  unfold aIID
  split
  · split <;> rfl
  · rfl
theorem aLLD_wl (f : Int64 → Int64 → Value) (pc : Nat) (lv lv' st : List Value) (σ : aSt) : aLLD f pc lv' st σ = (aLLD f pc lv st σ).map (aWl lv') := by
  unfold aLLD
  split
  · split <;> rfl
  · rfl
theorem aIf_wl (P : Int32 → Prop) (dec : ∀ x, Decidable (P x)) (pc : Nat) (off : Int) (lv lv' st : List Value) (σ : aSt) : aIf P dec pc off lv' st σ = (aIf P dec pc off lv st σ).map (aWl lv') := by
  unfold aIf
  split
  · split
    · split <;> rfl
    · rfl
  · rfl
theorem aIc_wl (P : Int32 → Int32 → Prop) (dec : ∀ x y, Decidable (P x y)) (pc : Nat) (off : Int) (lv lv' st : List Value) (σ : aSt) : aIc P dec pc off lv' st σ = (aIc P dec pc off lv st σ).map (aWl lv') := by
  unfold aIc
  split
  · split
    · split <;> rfl
    · rfl
  · rfl
theorem aPrim_wl (S : List aSh) (K pc : Nat) (lv lv' st : List Value) (σ : aSt) : aPrim S K pc lv' st σ = (aPrim S K pc lv st σ).map (aWl lv') := by
  unfold aPrim
  split
  · split
    · exact aGd_wl _ _ _ _ rfl
    · rfl
  · split
    · exact aGd_wl _ _ _ _ rfl
    · rfl
  · split
    · exact aGd_wl _ _ _ _ rfl
    · rfl
  · split
    · exact aGd_wl _ _ _ _ rfl
    · rfl
  · split
    · split
      · split
        · exact aGd_wl _ _ _ _ rfl
        · rfl
      · rfl
    · rfl
  · rfl
theorem aIns_wl {ins : Instr} (hl : aLoc ins = false) (X : aXt) (S : List aSh) (M : aM) (pc : Nat) (lv lv' st : List Value) (σ : aSt) : aIns X S M pc ins lv' st σ = (aIns X S M pc ins lv st σ).map (aWl lv') := by
  cases ins
  case iload_n => cases hl
  case iload => cases hl
  case lload_n => cases hl
  case lload => cases hl
  case aload_n => cases hl
  case aload => cases hl
  case istore_n => cases hl
  case istore => cases hl
  case lstore_n => cases hl
  case lstore => cases hl
  case astore_n => cases hl
  case astore => cases hl
  case iinc => cases hl
  case iadd => exact aII_wl ..
  case isub => exact aII_wl ..
  case imul => exact aII_wl ..
  case iand => exact aII_wl ..
  case ior => exact aII_wl ..
  case ixor => exact aII_wl ..
  case ishl => exact aII_wl ..
  case ishr => exact aII_wl ..
  case iushr => exact aII_wl ..
  case idiv => exact aIID_wl ..
  case irem => exact aIID_wl ..
  case ladd => exact aLL_wl ..
  case lsub => exact aLL_wl ..
  case lmul => exact aLL_wl ..
  case land => exact aLL_wl ..
  case lor => exact aLL_wl ..
  case ldiv => exact aLLD_wl ..
  case lrem => exact aLLD_wl ..
  case lshl => exact aLI_wl ..
  case lushr => exact aLI_wl ..
  case lcmp => exact aLL_wl ..
  case i2l => exact aI1_wl ..
  case i2b => exact aI1_wl ..
  case l2i => exact aL1_wl ..
  case ifCond c off => cases c <;> exact aIf_wl ..
  case if_icmp c off => cases c <;> exact aIc_wl ..
  case goto off => exact aJp_wl ..
  case tableswitch =>
    simp only [aIns]
    split
    · split
      · exact aJp_wl ..
      · split
        · exact aJp_wl ..
        · rfl
    · rfl
  case lookupswitch =>
    simp only [aIns]
    split
    · split
      · exact aJp_wl ..
      · rfl
    · rfl
  case ldc =>
    simp only [aIns]
    split
    · rfl
    · exact aGd_wl _ _ _ _ rfl
    · rfl
  case ldc_w =>
    simp only [aIns]
    split
    · rfl
    · exact aGd_wl _ _ _ _ rfl
    · rfl
  case getstatic =>
    simp only [aIns]
    split
    · exact aGd_wl _ _ _ _ rfl
    · rfl
  case invokestatic =>
    simp only [aIns]
    split
    · split
      · exact aPrim_wl ..
      · split
        · split <;> rfl
        · rfl
    · rfl
  all_goals
    simp only [aIns]
    repeat' split
    all_goals rfl
end
section
/-! THE RULES' SOUNDNESS, 2: a run doesn't see holes; the store -/
theorem aLe_put1 {lv lv' : List Value} (h : aLe lv lv') {pc i : Nat} {v : Value} {st : List Value} {σ : aSt} {z : aC} (e : aPut1 pc lv i v st σ = some (.inl z)) : aPut1 pc lv' i v st σ = some (.inl (z.1, lv'.set i v, z.2.2)) ∧ aLe z.2.1 (lv'.set i v) := by
  obtain ⟨h1, h2, rfl⟩ := aPut1_inv e
  refine ⟨?_, h.set i v⟩
  unfold aPut1
  have hb : (Nat.blt i lv'.length && aNoL lv' i) = true := by
    rw [Bool.and_eq_true]
    exact ⟨Nat.ble_eq_true_of_le (by rw [← h.1]; exact h1), h.noL i h2⟩
  rw [hb]
  rfl
theorem aLe_put2 {lv lv' : List Value} (h : aLe lv lv') {pc i : Nat} {v : Value} {st : List Value} {σ : aSt} {z : aC} (e : aPut2 pc lv i v st σ = some (.inl z)) : aPut2 pc lv' i v st σ = some (.inl (z.1, (lv'.set i v).set (i + 1) .null, z.2.2)) ∧ aLe z.2.1 ((lv'.set i v).set (i + 1) .null) := by
  obtain ⟨h1, h2, rfl⟩ := aPut2_inv e
  refine ⟨?_, (h.set i v).set (i + 1) .null⟩
  unfold aPut2
  have hb : (Nat.blt (i + 1) lv'.length && aNoL lv' i) = true := by
    rw [Bool.and_eq_true]
    exact ⟨Nat.ble_eq_true_of_le (by rw [← h.1]; exact h1), h.noL i h2⟩
  rw [hb]
  rfl
def aRl (r r' : aR) : Prop := ∃ lv', r' = aWl lv' r ∧ match r with
  | .inl (_, lv, _, _) => aLe lv lv'
  | .inr (.inl _) => True
  | .inr (.inr (_, _, (_, lv, _, _))) => aLe lv lv'
theorem aIns_loc {ins : Instr} (hl : aLoc ins = true) {X : aXt} {S : List aSh} {M : aM} {pc : Nat} {lv st : List Value} {σ : aSt} {r : aR} (h : aIns X S M pc ins lv st σ = some r) : ∃ z, r = .inl z := by
  cases ins <;> first | (cases hl; done) | skip
  all_goals
    simp only [aIns, aLdI, aLdL, aLdR, aStI, aStL, aStR, aPut1, aPut2, aGo] at h
    repeat' (split at h)
    all_goals first | (cases h; done) | (cases h; exact ⟨_, rfl⟩)
theorem aIns_le {ins : Instr} {X : aXt} {S : List aSh} {M : aM} {pc : Nat} {lv lv' st : List Value} {σ : aSt} {r : aR} (hle : aLe lv lv') (h : aIns X S M pc ins lv st σ = some r) : ∃ r', aIns X S M pc ins lv' st σ = some r' ∧ aRl r r' := by
  cases hl : aLoc ins with
  | false =>
    have e := aIns_wl hl X S M pc lv lv' st σ
    have e0 := aIns_wl hl X S M pc lv lv st σ
    rw [h] at e e0
    refine ⟨aWl lv' r, e, lv', rfl, ?_⟩
    have e0 : r = aWl lv r := Option.some.inj e0
    match r, e0 with
    | .inl (pc1, l1, s1, σ1), e0 =>
      have : l1 = lv := by cases e0; rfl
      subst this
      exact hle
    | .inr (.inl x), _ => trivial
    | .inr (.inr (K, as, (pc1, l1, s1, σ1))), e0 =>
      have : l1 = lv := by cases e0; rfl
      subst this
      exact hle
  | true =>
    obtain ⟨z, rfl⟩ := aIns_loc hl h
    cases ins <;> first | (cases hl; done) | skip
    case iload_n k =>
      obtain ⟨x, e1, rfl⟩ := aLdI_inv h
      exact ⟨.inl (pc + 1, lv', .int x :: st, σ), by simp only [aIns, aLdI, hle.at e1 (by intro h; cases h)]; rfl, lv', rfl, hle⟩
    case iload k =>
      obtain ⟨x, e1, rfl⟩ := aLdI_inv h
      exact ⟨.inl (pc + 2, lv', .int x :: st, σ), by simp only [aIns, aLdI, hle.at e1 (by intro h; cases h)]; rfl, lv', rfl, hle⟩
    case lload_n k =>
      obtain ⟨x, e1, rfl⟩ := aLdL_inv h
      exact ⟨.inl (pc + 1, lv', .long x :: st, σ), by simp only [aIns, aLdL, hle.at e1 (by intro h; cases h)]; rfl, lv', rfl, hle⟩
    case lload k =>
      obtain ⟨x, e1, rfl⟩ := aLdL_inv h
      exact ⟨.inl (pc + 2, lv', .long x :: st, σ), by simp only [aIns, aLdL, hle.at e1 (by intro h; cases h)]; rfl, lv', rfl, hle⟩
    case aload_n k =>
      obtain ⟨x, e1, rfl⟩ := aLdR_inv h
      exact ⟨.inl (pc + 1, lv', .ref x :: st, σ), by simp only [aIns, aLdR, hle.at e1 (by intro h; cases h)]; rfl, lv', rfl, hle⟩
    case aload k =>
      obtain ⟨x, e1, rfl⟩ := aLdR_inv h
      exact ⟨.inl (pc + 2, lv', .ref x :: st, σ), by simp only [aIns, aLdR, hle.at e1 (by intro h; cases h)]; rfl, lv', rfl, hle⟩
    case istore_n k =>
      simp only [aIns, aStI] at h ⊢
      split at h
      · obtain ⟨q1, q2⟩ := aLe_put1 hle h
        exact ⟨_, q1, _, rfl, q2⟩
      · cases h
    case istore k =>
      simp only [aIns, aStI] at h ⊢
      split at h
      · obtain ⟨q1, q2⟩ := aLe_put1 hle h
        exact ⟨_, q1, _, rfl, q2⟩
      · cases h
    case astore_n k =>
      simp only [aIns, aStR] at h ⊢
      split at h
      · obtain ⟨q1, q2⟩ := aLe_put1 hle h
        exact ⟨_, q1, _, rfl, q2⟩
      · cases h
    case astore k =>
      simp only [aIns, aStR] at h ⊢
      split at h
      · obtain ⟨q1, q2⟩ := aLe_put1 hle h
        exact ⟨_, q1, _, rfl, q2⟩
      · cases h
    case lstore_n k =>
      simp only [aIns, aStL] at h ⊢
      split at h
      · obtain ⟨q1, q2⟩ := aLe_put2 hle h
        exact ⟨_, q1, _, rfl, q2⟩
      · cases h
    case lstore k =>
      simp only [aIns, aStL] at h ⊢
      split at h
      · obtain ⟨q1, q2⟩ := aLe_put2 hle h
        exact ⟨_, q1, _, rfl, q2⟩
      · cases h
    case iinc i n =>
      simp only [aIns] at h ⊢
      split at h
      · rename_i x e1
        obtain ⟨q1, q2⟩ := aLe_put1 hle h
        rw [hle.at e1 (by intro h; cases h)]
        exact ⟨_, q1, _, rfl, q2⟩
      · cases h
theorem oExec_le {X : aXt} {S : List aSh} {P : List aM} : ∀ (f d : Nat) (M : aM) (pc : Nat) (lv lv' st : List Value) (σ : aSt) (r : Option Value × aSt), aLe lv lv' → oExec X S P f d M pc lv st σ = some r → oExec X S P f d M pc lv' st σ = some r := by
  intro f
  induction f with
  | zero => intro d M pc lv lv' st σ r _ h; cases h
  | succ f ih =>
    intro d M pc lv lv' st σ r hle h
    rw [oExec] at h ⊢
    cases hs : aStep X S M pc lv st σ with
    | none => rw [hs] at h; cases h
    | some q =>
      rw [hs] at h
      have hs' : ∃ r', aStep X S M pc lv' st σ = some r' ∧ aRl q r' := by
        unfold aStep at hs ⊢
        split at hs
        · exact aIns_le hle hs
        · cases hs
      obtain ⟨r', e1, lv2, rfl, hle2⟩ := hs'
      rw [e1]
      match q, h, hle2 with
      | .inl (pc1, l1, s1, σ1), h, hle2 => exact ih d M pc1 l1 lv2 s1 σ1 r hle2 h
      | .inr (.inl x), h, _ => exact h
      | .inr (.inr (K, as, (pc1, l1, s1, σ1))), h, hle2 =>
        simp only [aWl] at h ⊢
        match d, h with
        | 0, h => cases h
        | d' + 1, h =>
          simp only at h ⊢
          cases ho : oOr K as with
          | some v =>
            rw [ho] at h
            simp only at h ⊢
            exact ih (d' + 1) M pc1 l1 lv2 (v :: s1) σ1 r hle2 h
          | none =>
            rw [ho] at h
            simp only at h ⊢
            cases hP : P[K]? with
            | none => rw [hP] at h; cases h
            | some M' =>
              rw [hP] at h
              simp only at h ⊢
              cases hb : Nat.ble (aArg as).length (aML M') with
              | false => rw [hb] at h; cases h
              | true =>
                rw [hb] at h
                simp only at h ⊢
                cases he : oExec X S P f d' M' 0 (aEnt M' as) [] σ1 with
                | none => rw [he] at h; cases h
                | some q2 =>
                  rw [he] at h
                  match q2, h with
                  | (v, σ2), h => exact ih (d' + 1) M pc1 l1 lv2 (v.toList ++ s1) σ2 r hle2 h
theorem bMk_le : ∀ (ks : List Bool) (lv : List bV), aLe ((bMk ks lv).map bVal) (lv.map bVal)
  | [], lv => aLe.rf _
  | _ :: _, [] => aLe.rf _
  | k :: ks, v :: lv => by
    have ih := bMk_le ks lv
    have hc : ∀ (u : bV), (bVal u = bVal v ∨ (bVal u = .null ∧ (bVal v).category = 1)) → aLe ((u :: bMk ks lv).map bVal) ((v :: lv).map bVal) := fun u hu => by
      refine ⟨by simp only [List.map_cons, List.length_cons]; rw [ih.1], fun i w hw => ?_⟩
      cases i with
      | zero =>
        simp only [List.map_cons, List.getElem?_cons_zero, Option.some.injEq] at hw ⊢
        subst hw
        rcases hu with h | ⟨h1, h2⟩
        · exact Or.inl h.symm
        · exact Or.inr ⟨h1, _, rfl, h2⟩
      | succ i =>
        simp only [List.map_cons, List.getElem?_cons_succ] at hw ⊢
        exact ih.2 i w hw
    show aLe ((match k || !(bCt v) with
      | true => v :: bMk ks lv
      | false => vn :: bMk ks lv).map bVal) _
    cases hk : (k || !(bCt v)) with
    | true => exact hc v (Or.inl rfl)
    | false =>
      refine hc vn (Or.inr ⟨rfl, bCt_cat ?_⟩)
      cases hb : bCt v with
      | true => rfl
      | false => rw [hb] at hk; simp at hk
/-! the store -/
theorem bσ_obj {μ : bMm} {a k cj : Nat} (h : aS[a]? = some (.inl cj)) : bσ μ a k = bVo μ a k (bF a k) := by
  show bVs μ a k aS[a]? = _
  rw [h]
  rfl
theorem bσ_arr {μ : bMm} {a k t n : Nat} (h : aS[a]? = some (.inr (t, n))) (hk : k < n) : bσ μ a k = bVa μ a k t := by
  show bVs μ a k aS[a]? = _
  rw [h]
  have : Nat.blt k n = true := Nat.ble_eq_true_of_le hk
  show (match Nat.blt k n with
    | true => bVa μ a k t
    | false => .null) = _
  rw [this]
theorem bσ_arr' {μ : bMm} {a k t n : Nat} (h : aS[a]? = some (.inr (t, n))) (hk : ¬ k < n) : bσ μ a k = .null := by
  show bVs μ a k aS[a]? = _
  rw [h]
  have : Nat.blt k n = false := by
    cases hb : Nat.blt k n with
    | false => rfl
    | true => exact absurd (Nat.le_of_ble_eq_true hb) hk
  show (match Nat.blt k n with
    | true => bVa μ a k t
    | false => .null) = _
  rw [this]
theorem bσ_none {μ : bMm} {a k : Nat} (h : aS[a]? = none) : bσ μ a k = .null := by
  show bVs μ a k aS[a]? = _
  rw [h]
  rfl
theorem bAd_plain {a : Nat} (h : bRow a = false) : bAd a = (a, 0) := by
  unfold bAd
  rw [h]
theorem bMe_plain {μ : bMm} {a : Nat} (h : bRow a = false) (k : Int) : bMe μ a k = μ.2 a k := by
  unfold bMe
  rw [bAd_plain h]
  simp
/-- where rows lie -/
theorem bAd_row {a : Nat} (h : bRow a = true) : (bAd a).1 < a ∧ bOut (bAd a).1 = true ∧ (bAd a).2 = ((a - (bAd a).1 - 1 : Nat) : Int) * 1000 := by
  unfold bAd
  rw [h]
  simp only
  simp only [bRow, Bool.or_eq_true, Bool.and_eq_true, Nat.ble_eq] at h
  cases h1 : Nat.ble a 13 with
  | true =>
    have h1 := Nat.le_of_ble_eq_true h1
    refine ⟨by show 7 < a; omega, rfl, ?_⟩
    show ((a - 8 : Nat) : Int) * 1000 = ((a - 7 - 1 : Nat) : Int) * 1000
    rfl
  | false =>
    have h1 : ¬ a ≤ 13 := fun q => by rw [Nat.ble_eq_true_of_le q] at h1; cases h1
    cases h2 : Nat.ble a 23 with
    | true =>
      have h2 := Nat.le_of_ble_eq_true h2
      exact ⟨by show 17 < a; omega, rfl, rfl⟩
    | false =>
      have h2 : ¬ a ≤ 23 := fun q => by rw [Nat.ble_eq_true_of_le q] at h2; cases h2
      cases h3 : Nat.ble a 30 with
      | true =>
        have h3 := Nat.le_of_ble_eq_true h3
        exact ⟨by show 25 < a; omega, rfl, rfl⟩
      | false =>
        have h3 : ¬ a ≤ 30 := fun q => by rw [Nat.ble_eq_true_of_le q] at h3; cases h3
        exact ⟨by show 37 < a; omega, rfl, rfl⟩
theorem bVo_cg {μ ν : bMm} {a k : Nat} (h1 : ν.1 = μ.1) (h2 : ν.2 a k = μ.2 a k) (v : Value) : bVo ν a k v = bVo μ a k v := by
  cases v with
  | int x => show Value.int _ = Value.int _; rw [h2]
  | long x => show Value.long _ = Value.long _; rw [h2]
  | ref r => show Value.ref _ = Value.ref _; rw [h1]
  | _ => rfl
theorem bVa_cg {μ ν : bMm} {a k t : Nat} (h2 : ν.2 a k = μ.2 a k) (h3 : bMe ν a k = bMe μ a k) : bVa ν a k t = bVa μ a k t := by
  unfold bVa
  split
  · rfl
  · rw [h2]
  · rw [h3]
theorem bVs_cg {μ ν : bMm} {a k : Nat} {sh : Option aSh} (h1 : ν.1 = μ.1) (h2 : ν.2 a k = μ.2 a k) (h3 : bMe ν a k = bMe μ a k) : bVs ν a k sh = bVs μ a k sh := by
  unfold bVs
  split
  · rfl
  · split
    · exact bVa_cg h2 h3
    · rfl
  · exact bVo_cg h1 h2 _
/-- another cell isn't touched: no row's place is another's -/
theorem bMe_up {μ : bMm} {a b : Nat} {k z : Int} (ho : bOut a = false) (e : b ≠ a) (j : Int) : bMe (bUp μ a k z) b j = bMe μ b j := by
  show up μ.2 a k z (bAd b).1 _ = μ.2 (bAd b).1 _
  unfold up
  have : (bAd b).1 ≠ a := by
    cases hb : bRow b with
    | false => rw [bAd_plain hb]; exact e
    | true =>
      intro q
      have := (bAd_row hb).2.1
      rw [q, ho] at this
      cases this
  rw [if_neg this]
theorem up_ne {m : Nat → Int → Int} {a b : Nat} {k z j : Int} (e : b ≠ a) : up m a k z b j = m b j := by
  unfold up
  rw [if_neg e]
theorem up_nk {m : Nat → Int → Int} {a b : Nat} {k z j : Int} (e : j ≠ k) : up m a k z b j = m b j := by
  unfold up
  by_cases h : b = a
  · rw [if_pos h, if_neg e]
  · rw [if_neg h]
theorem up_eq {m : Nat → Int → Int} {a : Nat} {k z : Int} : up m a k z a k = z := by
  unfold up
  rw [if_pos rfl, if_pos rfl]
theorem aUp_at (σ : aSt) (a k : Nat) (v : Value) (b j : Nat) : aUp σ a k v b j = if b = a then (if j = k then v else σ b j) else σ b j := rfl
/-- an object's int or long -/
theorem bUp_obj {μ : bMm} {a k cj : Nat} {z : Int} (h : aS[a]? = some (.inl cj)) (hr : bRow a = false) (ho : bOut a = false) : aUp (bσ μ) a k (bVo (bUp μ a k z) a k (bF a k)) = bσ (bUp μ a k z) := by
  funext b j
  rw [aUp_at]
  by_cases e : b = a
  · subst e
    rw [if_pos rfl, bσ_obj h, bσ_obj h]
    by_cases e2 : j = k
    · subst e2
      rw [if_pos rfl]
    · rw [if_neg e2]
      have hne : (j : Int) ≠ (k : Int) := by omega
      exact (bVo_cg (μ := μ) (ν := bUp μ b k z) rfl (up_nk hne) _).symm
  · rw [if_neg e]
    exact (bVs_cg (μ := μ) (ν := bUp μ a k z) rfl (up_ne e) (bMe_up ho e _)).symm
/-- a plain row's place -/
theorem bUp_arr {μ : bMm} {a k t n : Nat} {z : Int} (h : aS[a]? = some (.inr (t, n))) (hk : k < n) (ht : t ≠ 4) (hr : bRow a = false) (ho : bOut a = false) : aUp (bσ μ) a k (bVa (bUp μ a k z) a k t) = bσ (bUp μ a k z) := by
  funext b j
  rw [aUp_at]
  by_cases e : b = a
  · subst e
    rw [if_pos rfl]
    by_cases hj : j < n
    · rw [bσ_arr h hj, bσ_arr h hj]
      by_cases e2 : j = k
      · subst e2
        rw [if_pos rfl]
      · rw [if_neg e2]
        have hne : (j : Int) ≠ (k : Int) := by omega
        refine (bVa_cg (μ := μ) (ν := bUp μ b k z) (up_nk hne) ?_).symm
        rw [bMe_plain hr, bMe_plain hr]
        exact up_nk hne
    · rw [if_neg (by omega), bσ_arr' h hj, bσ_arr' h hj]
  · rw [if_neg e]
    exact (bVs_cg (μ := μ) (ν := bUp μ a k z) rfl (up_ne e) (bMe_up ho e _)).symm
/-- the outer rows -/
theorem bOut_cases {a : Nat} (h : bOut a = true) : a = 7 ∨ a = 17 ∨ a = 25 ∨ a = 37 := by
  simp only [bOut, Bool.or_eq_true] at h
  rcases h with h | h | h | h
  · exact Or.inl (Nat.eq_of_beq_eq_true h)
  · exact Or.inr (Or.inl (Nat.eq_of_beq_eq_true h))
  · exact Or.inr (Or.inr (Or.inl (Nat.eq_of_beq_eq_true h)))
  · exact Or.inr (Or.inr (Or.inr (Nat.eq_of_beq_eq_true h)))
/-- what is known of an outer row: it is one of references, its rows follow it, all of one length below 1000 -/
def bRowsC (a : Nat) : Bool := match aS[a]? with
  | some (.inr (t, n)) => match aS[a + 1]? with
    | some (.inr (u, w)) => Nat.beq t 4 && (Nat.beq u 0 && (Nat.blt w 1000 && (List.range n).all (fun r => decide (aS[a + 1 + r]? = some (.inr (0, w))) && (bRow (a + 1 + r) && (Nat.beq (bAd (a + 1 + r)).1 a && decide (aI0 a r = .ref (a + 1 + r)))))))
    | _ => false
  | _ => false
theorem bRows_ok : (bRowsC 7 && (bRowsC 17 && (bRowsC 25 && bRowsC 37))) = true := by decide +kernel
theorem bRows {a t n u w : Nat} (h : bOut a = true) (h1 : aS[a]? = some (.inr (t, n))) (h2 : aS[a + 1]? = some (.inr (u, w))) : t = 4 ∧ u = 0 ∧ w < 1000 ∧ ∀ r, r < n → aS[a + 1 + r]? = some (.inr (0, w)) ∧ bRow (a + 1 + r) = true ∧ (bAd (a + 1 + r)).1 = a ∧ aI0 a r = .ref (a + 1 + r) := by
  have hc : bRowsC a = true := by
    have := bRows_ok
    simp only [Bool.and_eq_true] at this
    obtain ⟨q1, q2, q3, q4⟩ := this
    rcases bOut_cases h with rfl | rfl | rfl | rfl
    · exact q1
    · exact q2
    · exact q3
    · exact q4
  unfold bRowsC at hc
  rw [h1] at hc
  simp only [h2, Bool.and_eq_true] at hc
  obtain ⟨c1, c2, c3, c4⟩ := hc
  refine ⟨Nat.eq_of_beq_eq_true c1, Nat.eq_of_beq_eq_true c2, Nat.le_of_ble_eq_true c3, fun r hr => ?_⟩
  have := List.all_eq_true.mp c4 r (List.mem_range.mpr hr)
  simp only [Bool.and_eq_true, decide_eq_true_eq] at this
  exact ⟨this.1, this.2.1, Nat.eq_of_beq_eq_true this.2.2.1, this.2.2.2⟩
theorem bMe_row {μ : bMm} {a r : Nat} (h : bRow (a + 1 + r) = true) (h1 : (bAd (a + 1 + r)).1 = a) (k : Int) : bMe μ (a + 1 + r) k = μ.2 a ((r : Int) * 1000 + k) := by
  unfold bMe
  rw [(bAd_row h).2.2, h1, show a + 1 + r - a - 1 = r by omega]
def bLen9 (sh : Option aSh) : Bool := match sh with
  | some (.inr (_, n)) => Nat.blt n 1000
  | _ => false
theorem bRowLenC : (List.range 80).all (fun b => !(bRow b) || bLen9 aS[b]?) = true := by decide +kernel
theorem bRowLen (b : Nat) (h : bRow b = true) : bLen9 aS[b]? = true := by
  have hb : b < 80 := by
    simp only [bRow, Bool.or_eq_true, Bool.and_eq_true, Nat.ble_eq] at h
    omega
  have := List.all_eq_true.mp bRowLenC b (List.mem_range.mpr hb)
  rw [h] at this
  simpa using this
/-- a place in a row of rows -/
theorem bUp_row {μ : bMm} {a k r n u w t : Nat} {z : Int} (h : bOut a = true) (h1 : aS[a]? = some (.inr (t, n))) (h2 : aS[a + 1]? = some (.inr (u, w))) (hr : r < n) (hk : k < w) : aUp (bσ μ) (a + 1 + r) k (.int (Int32.ofInt z)) = bσ (bUp μ a ((r : Int) * 1000 + k) z) := by
  obtain ⟨rfl, rfl, hw, hR⟩ := bRows h h1 h2
  obtain ⟨e1, e2, e3, -⟩ := hR r hr
  have hob : ∀ b, bOut b = true → ∃ t n, aS[b]? = some (.inr (t, n)) ∧ t = 4 := fun b hb => by
    rcases bOut_cases hb with rfl | rfl | rfl | rfl
    · exact ⟨4, 6, rfl, rfl⟩
    · exact ⟨4, 6, rfl, rfl⟩
    · exact ⟨4, 5, rfl, rfl⟩
    · exact ⟨4, 40, rfl, rfl⟩
  funext b j
  rw [aUp_at]
  by_cases e : b = a + 1 + r
  · subst e
    rw [if_pos rfl]
    by_cases hj : j < w
    · rw [bσ_arr e1 hj, bσ_arr e1 hj]
      show _ = Value.int (Int32.ofInt (bMe _ _ _))
      rw [bMe_row e2 e3]
      by_cases q : j = k
      · subst q
        rw [if_pos rfl]
        show _ = Value.int (Int32.ofInt (up μ.2 _ _ _ _ _))
        rw [up_eq]
      · rw [if_neg q]
        show Value.int (Int32.ofInt (bMe μ _ _)) = Value.int (Int32.ofInt (up μ.2 _ _ _ _ _))
        rw [bMe_row e2 e3, up_nk (by omega)]
    · rw [if_neg (by omega), bσ_arr' e1 hj, bσ_arr' e1 hj]
  · rw [if_neg e]
    show bVs μ b j aS[b]? = bVs _ b j aS[b]?
    cases hs : aS[b]? with
    | none => rfl
    | some sh =>
      match sh, hs with
      | .inl c, hs =>
        refine (bVo_cg (μ := μ) (ν := bUp μ a ((r : Int) * 1000 + k) z) rfl (up_ne ?_) _).symm
        intro q
        subst q
        rw [h1] at hs
        cases hs
      | .inr (t, n2), hs =>
        show (match Nat.blt j n2 with
          | true => bVa μ b j t
          | false => .null) = (match Nat.blt j n2 with
          | true => bVa (bUp μ a _ z) b j t
          | false => .null)
        cases hb : Nat.blt j n2 with
        | false => rfl
        | true =>
          have hb := Nat.le_of_ble_eq_true hb
          have hb : j < n2 := hb
          show bVa μ b j t = bVa _ b j t
          by_cases hba : b = a
          · subst hba
            rw [h1] at hs
            cases hs
            rfl
          · refine (bVa_cg (μ := μ) (ν := bUp μ a ((r : Int) * 1000 + k) z) (up_ne hba) ?_).symm
            cases hbr : bRow b with
            | false =>
              rw [bMe_plain hbr, bMe_plain hbr]
              exact up_ne hba
            | true =>
              show up μ.2 a _ z (bAd b).1 _ = μ.2 (bAd b).1 _
              by_cases q : (bAd b).1 = a
              · have g1 := (bAd_row hbr).1
                have g2 := (bAd_row hbr).2.2
                rw [q] at g1 g2
                rw [q, g2]
                refine up_nk ?_
                have hlen : ∃ r2, b - a - 1 = r2 ∧ r2 ≠ r := ⟨b - a - 1, rfl, by omega⟩
                obtain ⟨r2, hb2, hne⟩ := hlen
                rw [hb2]
                have hn2 : n2 < 1000 := by
                  have := bRowLen b hbr
                  rw [hs] at this
                  exact Nat.le_of_ble_eq_true this
                omega
              · exact up_ne q
end
section
/-! THE RULES' SOUNDNESS, 3: inversions; a step -/
theorem i32_of {z : Int} (h : inR z) : (Int32.ofInt z).toInt = z := Int32.toInt_ofInt_of_le (by omega) (by omega)
theorem i64_of {z : Int} (h : inL z) : (Int64.ofInt z).toInt = z := Int64.toInt_ofInt_of_le (by omega) (by omega)
theorem i32_lt {x y : Int} (hx : inR x) (hy : inR y) : Int32.ofInt x < Int32.ofInt y ↔ x < y := by rw [Int32.lt_iff_toInt_lt, i32_of hx, i32_of hy]
theorem i32_le {x y : Int} (hx : inR x) (hy : inR y) : Int32.ofInt x ≤ Int32.ofInt y ↔ x ≤ y := by rw [Int32.le_iff_toInt_le, i32_of hx, i32_of hy]
theorem i32_eq {x y : Int} (hx : inR x) (hy : inR y) : Int32.ofInt x = Int32.ofInt y ↔ x = y := by rw [← Int32.toInt_inj, i32_of hx, i32_of hy]
theorem i64_lt {x y : Int} (hx : inL x) (hy : inL y) : Int64.ofInt x < Int64.ofInt y ↔ x < y := by rw [Int64.lt_iff_toInt_lt, i64_of hx, i64_of hy]
theorem i64_eq {x y : Int} (hx : inL x) (hy : inL y) : Int64.ofInt x = Int64.ofInt y ↔ x = y := by rw [← Int64.toInt_inj, i64_of hx, i64_of hy]
theorem i32_zero : Int32.ofInt 0 = 0 := rfl
theorem i32_nat {z : Int} {n : Nat} (h0 : 0 ≤ z) (h1 : z < n) (hn : n < 2147483648) : (Int32.ofInt z).toNatClampNeg = z.toNat ∧ ¬ Int32.ofInt z < 0 := by
  have hr : inR z := by omega
  refine ⟨?_, ?_⟩
  · show (Int32.ofInt z).toInt.toNat = _
    rw [i32_of hr]
  · rw [← i32_zero, i32_lt hr (by decide)]
    omega
theorem i32_ix {z : Int} {n : Nat} (h0 : 0 ≤ z) (h1 : z < n) (hn : n < 2147483648) : ¬ (Int32.ofInt z < 0 ∨ n ≤ (Int32.ofInt z).toNatClampNeg) := by
  obtain ⟨e1, e2⟩ := i32_nat h0 h1 hn
  rw [e1]
  rintro (h | h)
  · exact e2 h
  · omega
theorem wII_inv {f : bV → bV → Int → Int → List bV → Prop} {st : List bV} (h : wII f st) : ∃ u v x y r, st = v :: u :: r ∧ bZ v = some y ∧ bZ u = some x ∧ f u v x y r := by
  unfold wII at h
  split at h
  · rename_i v u r
    split at h
    · rename_i y hy
      split at h
      · rename_i x hx
        exact ⟨u, v, x, y, r, rfl, hy, hx, h⟩
      · cases h
    · cases h
  · cases h
theorem wLL_inv {f : bV → bV → Int → Int → List bV → Prop} {st : List bV} (h : wLL f st) : ∃ u v x y r, st = v :: u :: r ∧ bL v = some y ∧ bL u = some x ∧ f u v x y r := by
  unfold wLL at h
  split at h
  · rename_i v u r
    split at h
    · rename_i y hy
      split at h
      · rename_i x hx
        exact ⟨u, v, x, y, r, rfl, hy, hx, h⟩
      · cases h
    · cases h
  · cases h
theorem wLI_inv {f : Int → Int → List bV → Prop} {st : List bV} (h : wLI f st) : ∃ u v x y r, st = v :: u :: r ∧ bZ v = some y ∧ bL u = some x ∧ f x y r := by
  unfold wLI at h
  split at h
  · rename_i v u r
    split at h
    · rename_i y hy
      split at h
      · rename_i x hx
        exact ⟨u, v, x, y, r, rfl, hy, hx, h⟩
      · cases h
    · cases h
  · cases h
theorem wI1_inv {f : bV → Int → List bV → Prop} {st : List bV} (h : wI1 f st) : ∃ v z r, st = v :: r ∧ bZ v = some z ∧ f v z r := by
  unfold wI1 at h
  split at h
  · rename_i v r
    split at h
    · rename_i z hz
      exact ⟨v, z, r, rfl, hz, h⟩
    · cases h
  · cases h
theorem wP1_inv {nx : List bV → Prop} {lv : List bV} {i : Nat} {v : bV} (h : wP1 nx lv i v) : (Nat.blt i lv.length && bNoL lv i) = true ∧ nx (lv.set i v) := by
  unfold wP1 at h
  split at h
  · rename_i e; exact ⟨e, h⟩
  · cases h
theorem wP2_inv {nx : List bV → Prop} {lv : List bV} {i : Nat} {v : bV} (h : wP2 nx lv i v) : (Nat.blt (i + 1) lv.length && bNoL lv i) = true ∧ nx ((lv.set i v).set (i + 1) vn) := by
  unfold wP2 at h
  split at h
  · rename_i e; exact ⟨e, h⟩
  · cases h
theorem wLi_inv {nx : bV → Prop} {lv : List bV} {i : Nat} (h : wLi nx lv i) : ∃ v z, lv[i]? = some v ∧ bZ v = some z ∧ nx v := by
  unfold wLi at h
  split at h
  · rename_i v hv
    split at h
    · rename_i z hz
      exact ⟨v, z, hv, hz, h⟩
    · cases h
  · cases h
theorem wLl_inv {nx : bV → Prop} {lv : List bV} {i : Nat} (h : wLl nx lv i) : ∃ v z, lv[i]? = some v ∧ bL v = some z ∧ nx v := by
  unfold wLl at h
  split at h
  · rename_i v hv
    split at h
    · rename_i z hz
      exact ⟨v, z, hv, hz, h⟩
    · cases h
  · cases h
theorem wLr_inv {nx : bV → Prop} {lv : List bV} {i : Nat} (h : wLr nx lv i) : ∃ v a, lv[i]? = some v ∧ bVal v = .ref a ∧ nx v := by
  unfold wLr at h
  split at h
  · rename_i v hv
    split at h
    · rename_i hz
      obtain ⟨a, ha⟩ := bRe_val hz
      exact ⟨v, a, hv, ha, h⟩
    · cases h
  · cases h
theorem wR_inv {v : bV} {z : Int} {P : Prop} (h : wR v z P) : inR z ∧ P := by
  unfold wR at h
  split at h
  · split at h
    · rename_i e
      exact ⟨of_decide_eq_true e, h⟩
    · cases h
  · exact h
theorem wRL_inv {v : bV} {z : Int} {P : Prop} (h : wRL v z P) : inL z ∧ P := by
  unfold wRL at h
  split at h
  · split at h
    · rename_i e
      exact ⟨of_decide_eq_true e, h⟩
    · cases h
  · exact h
theorem wIx_inv {v : bV} {z n : Int} {P : Prop} (h : wIx v z n P) : (0 ≤ z ∧ z < n) ∧ P := by
  unfold wIx at h
  split at h
  · split at h
    · rename_i e
      exact ⟨of_decide_eq_true e, h⟩
    · cases h
  · exact h
theorem wDv_inv {v : bV} {y : Int} {P : Prop} (h : wDv v y P) : (inR y ∧ ¬ y = 0) ∧ P := by
  unfold wDv at h
  split at h
  · split at h
    · rename_i e
      exact ⟨of_decide_eq_true e, h⟩
    · cases h
  · exact h
theorem wDvL_inv {v : bV} {y : Int} {P : Prop} (h : wDvL v y P) : (inL y ∧ ¬ y = 0) ∧ P := by
  unfold wDvL at h
  split at h
  · split at h
    · rename_i e
      exact ⟨of_decide_eq_true e, h⟩
    · cases h
  · exact h
theorem wBr_inv {g : Bool} {p q A B : Prop} [hp : Decidable p] (hq : ¬ p → q) (h : wBr g (decide p) p q A B) : (p → A) ∧ (¬ p → B) := by
  unfold wBr at h
  split at h
  · by_cases e : p
    · rw [decide_eq_true e] at h
      exact ⟨fun _ => h, fun n => absurd e n⟩
    · rw [decide_eq_false e] at h
      exact ⟨fun n => absurd n e, fun _ => h⟩
  · exact ⟨h.1, fun n => h.2 (hq n)⟩
/-- a question between two ints, as the machine asks it and as it is meant -/
def cP (c : Jvm.ClassFile.Cond) (x y : Int) : Prop := match c with
  | .eq => x = y
  | .ne => ¬ x = y
  | .lt => x < y
  | .ge => y ≤ x
  | .gt => y < x
  | .le => x ≤ y
theorem wCm_inv {g : Bool} {x y : Int} {c : Jvm.ClassFile.Cond} {A B : Prop} (h : wCm g x y c A B) : (cP c x y → A) ∧ (¬ cP c x y → B) := by
  cases c
  · exact wBr_inv (p := x = y) (fun n => n) h
  · exact wBr_inv (p := ¬ x = y) (fun n => by omega) h
  · exact wBr_inv (p := x < y) (fun n => by omega) h
  · exact wBr_inv (p := y ≤ x) (fun n => by omega) h
  · exact wBr_inv (p := y < x) (fun n => by omega) h
  · exact wBr_inv (p := x ≤ y) (fun n => by omega) h
theorem wIf_inv {v : bV} {x : Int} {c : Jvm.ClassFile.Cond} {A B : Prop} (h : wIf v x c A B) : (cP c x 0 → A) ∧ (¬ cP c x 0 → B) := by
  cases c
  · exact wBr_inv (p := x = 0) (fun n => n) h
  · exact wBr_inv (p := ¬ x = 0) (fun n => by omega) h
  · exact wBr_inv (p := x < 0) (fun n => by omega) h
  · exact wBr_inv (p := 0 ≤ x) (fun n => by omega) h
  · exact wBr_inv (p := 0 < x) (fun n => by omega) h
  · exact wBr_inv (p := x ≤ 0) (fun n => by omega) h
theorem wJ_inv {nx : Nat → Prop} {pc : Nat} {off : Int} (h : wJ nx pc off) : ∃ t : Nat, (pc : Int) + off = .ofNat t ∧ nx t := by
  unfold wJ at h
  split at h
  · rename_i t e
    exact ⟨t, e, h⟩
  · cases h
theorem aJp_of {pc : Nat} {off : Int} {t : Nat} (e : (pc : Int) + off = .ofNat t) (lv st : List Value) (σ : aSt) : aJp pc off lv st σ = aGo t lv st σ := by
  unfold aJp
  rw [e]
theorem aIf_of {P : Int32 → Prop} {dec : ∀ x, Decidable (P x)} {pc : Nat} {off : Int} {t : Nat} (e : (pc : Int) + off = .ofNat t) (lv : List Value) (x : Int32) (r : List Value) (σ : aSt) : aIf P dec pc off lv (.int x :: r) σ = @ite _ (P x) (dec x) (aGo t lv r σ) (aGo (pc + 3) lv r σ) := by
  unfold aIf
  simp only
  rw [e]
theorem aIc_of {P : Int32 → Int32 → Prop} {dec : ∀ x y, Decidable (P x y)} {pc : Nat} {off : Int} {t : Nat} (e : (pc : Int) + off = .ofNat t) (lv : List Value) (x y : Int32) (r : List Value) (σ : aSt) : aIc P dec pc off lv (.int y :: .int x :: r) σ = @ite _ (P x y) (dec x y) (aGo t lv r σ) (aGo (pc + 3) lv r σ) := by
  unfold aIc
  simp only
  rw [e]
/-! a step of a run -/
theorem aStep_of {X : aXt} {S : List aSh} {M : aM} {pc ln : Nat} {ins : Instr} (h : aFd (aCo M) pc = some (ins, ln)) (lv st : List Value) (σ : aSt) : aStep X S M pc lv st σ = aIns X S M pc ins lv st σ := by
  unfold aStep
  rw [h]
section RS
variable {xs : List Int32} {d : Nat} {M : aM} {pc : Nat} {lv st : List bV} {μ : bMm} {Q : bPo}
theorem bGo_step {pc' : Nat} {lv' st' : List bV} {μ' : bMm} (h : aStep (bX xs) aS M pc (lv.map bVal) (st.map bVal) (bσ μ) = some (.inl (pc', lv'.map bVal, st'.map bVal, bσ μ'))) (k : bGo xs d M pc' lv' st' μ' Q) : bGo xs d M pc lv st μ Q := by
  obtain ⟨f, v, z, μ2, e, hr, hq⟩ := k
  refine ⟨f + 1, v, z, μ2, ?_, hr, hq⟩
  rw [oExec, h]
  exact e
theorem bGo_same {lv' st' : List bV} (h1 : lv'.map bVal = lv.map bVal) (h2 : st'.map bVal = st.map bVal) (k : bGo xs d M pc lv' st' μ Q) : bGo xs d M pc lv st μ Q := by
  obtain ⟨f, v, z, μ2, e, hr, hq⟩ := k
  exact ⟨f, v, z, μ2, by rw [← h1, ← h2]; exact e, hr, hq⟩
theorem bGo_hole {ks : List Bool} (k : bGo xs d M pc ((bMk ks lv).map bNm) (st.map bNm) μ Q) : bGo xs d M pc lv st μ Q := by
  obtain ⟨f, v, z, μ2, e, hr, hq⟩ := k
  rw [bNm_map, bNm_map] at e
  exact ⟨f, v, z, μ2, oExec_le f d M pc _ _ _ _ _ (bMk_le ks lv) e, hr, hq⟩
theorem bGo_ret {v : Option Value} {z : Int} (h : aStep (bX xs) aS M pc (lv.map bVal) (st.map bVal) (bσ μ) = some (.inr (.inl (v, bσ μ)))) (hr : bRes M v z) (hq : Q z μ) : bGo xs d M pc lv st μ Q := by
  refine ⟨1, v, z, μ, ?_, hr, hq⟩
  rw [oExec, h]
theorem bGo_orc {K : Nat} {as r : List bV} {v : bV} (h : aStep (bX xs) aS M pc (lv.map bVal) (st.map bVal) (bσ μ) = some (.inr (.inr (K, as.map bVal, (pc + 3, lv.map bVal, r.map bVal, bσ μ))))) (ho : oOr K (as.map bVal) = some (bVal v)) (k : bGo xs (d + 1) M (pc + 3) lv (v :: r) μ Q) : bGo xs (d + 1) M pc lv st μ Q := by
  obtain ⟨f, w, z, μ2, e, hr, hq⟩ := k
  refine ⟨f + 1, w, z, μ2, ?_, hr, hq⟩
  rw [oExec, h]
  simp only
  rw [ho]
  exact e
theorem bGo_call {K : Nat} {as r : List bV} {M' : aM} (h : aStep (bX xs) aS M pc (lv.map bVal) (st.map bVal) (bσ μ) = some (.inr (.inr (K, as.map bVal, (pc + 3, lv.map bVal, r.map bVal, bσ μ))))) (ho : oOr K (as.map bVal) = none) (hK : aProg[K]? = some M') (hb : (bArg as).length ≤ aML M')
    (k : bGo xs d M' 0 (bEnt M' as) [] μ (fun z μ' => bGo xs (d + 1) M (pc + 3) lv (bPush K (.inl z) r) μ' Q)) : bGo xs (d + 1) M pc lv st μ Q := by
  obtain ⟨f, w, z, μ2, e, hr, f2, w2, z2, μ3, e2, hr2, hq⟩ := k
  refine ⟨max f f2 + 1, w2, z2, μ3, ?_, hr2, hq⟩
  rw [oExec, h]
  simp only
  rw [ho]
  simp only
  rw [hK]
  simp only
  have hble : Nat.ble (aArg (as.map bVal)).length (aML M') = true := by
    rw [bArg_val, List.length_map]
    exact Nat.ble_eq_true_of_le hb
  rw [hble]
  simp only
  have e' := oExec_mono f (max f f2) d M' 0 _ _ _ _ (Nat.le_max_left ..) e
  rw [← bEnt_val] at e'
  rw [show (List.map bVal ([] : List bV)) = [] from rfl] at e'
  rw [e']
  simp only
  have e2' := oExec_mono f2 (max f f2) (d + 1) M _ _ _ _ _ (Nat.le_max_right ..) e2
  have hp : (bPush K (.inl z) r).map bVal = w.toList ++ r.map bVal := by
    unfold bPush
    rw [hK]
    unfold bRes at hr
    cases hrt : aRt M' with
    | none =>
      rw [hrt] at hr
      have hr : w = none := hr
      subst hr
      simp only [hrt]
      rfl
    | some t =>
      rw [hrt] at hr
      have hr : w = some (.int (Int32.ofInt z)) := hr
      subst hr
      simp only [hrt]
      rfl
  rw [hp] at e2'
  exact e2'
end RS
end
section
/-! THE RULES' SOUNDNESS, 4: an instruction -/
theorem bPut1 {pc : Nat} {lv : List bV} {i : Nat} {v : bV} (h : (Nat.blt i lv.length && bNoL lv i) = true) (st : List Value) (σ : aSt) : aPut1 pc (lv.map bVal) i (bVal v) st σ = some (.inl (pc, (lv.set i v).map bVal, st, σ)) := by
  unfold aPut1
  rw [List.length_map, bNoL_val, h, bSet_val]
  rfl
theorem bPut2 {pc : Nat} {lv : List bV} {i : Nat} {v : bV} (h : (Nat.blt (i + 1) lv.length && bNoL lv i) = true) (st : List Value) (σ : aSt) : aPut2 pc (lv.map bVal) i (bVal v) st σ = some (.inl (pc, ((lv.set i v).set (i + 1) vn).map bVal, st, σ)) := by
  unfold aPut2
  rw [List.length_map, bNoL_val, h, bSet_val, show (Value.null) = bVal vn from rfl, bSet_val]
  rfl
theorem cP_32 {c : Jvm.ClassFile.Cond} {x y : Int} (hx : inR x) (hy : inR y) : cP c x y ↔ (match c with
    | .eq => Int32.ofInt x = Int32.ofInt y
    | .ne => ¬ Int32.ofInt x = Int32.ofInt y
    | .lt => Int32.ofInt x < Int32.ofInt y
    | .ge => Int32.ofInt y ≤ Int32.ofInt x
    | .gt => Int32.ofInt y < Int32.ofInt x
    | .le => Int32.ofInt x ≤ Int32.ofInt y) := by
  cases c
  · exact (i32_eq hx hy).symm
  · exact not_congr (i32_eq hx hy).symm
  · exact (i32_lt hx hy).symm
  · exact (i32_le hy hx).symm
  · exact (i32_lt hy hx).symm
  · exact (i32_le hx hy).symm
theorem aIfc {c : Jvm.ClassFile.Cond} {X : aXt} {S : List aSh} {M : aM} {pc t : Nat} {off : Int} {lv r : List Value} {σ : aSt} {x : Int} (hx : inR x) (e : (pc : Int) + off = .ofNat t) : (cP c x 0 → aIns X S M pc (.ifCond c off) lv (.int (Int32.ofInt x) :: r) σ = aGo t lv r σ) ∧ (¬ cP c x 0 → aIns X S M pc (.ifCond c off) lv (.int (Int32.ofInt x) :: r) σ = aGo (pc + 3) lv r σ) := by
  have h0 : inR 0 := by decide
  have hq := cP_32 (c := c) hx h0
  rw [i32_zero] at hq
  cases c <;> (simp only [aIns, aIf_of e]; exact ⟨fun h => if_pos (hq.mp h), fun h => if_neg (fun n => h (hq.mpr n))⟩)
theorem aIcc {c : Jvm.ClassFile.Cond} {X : aXt} {S : List aSh} {M : aM} {pc t : Nat} {off : Int} {lv r : List Value} {σ : aSt} {x y : Int} (hx : inR x) (hy : inR y) (e : (pc : Int) + off = .ofNat t) : (cP c x y → aIns X S M pc (.if_icmp c off) lv (.int (Int32.ofInt y) :: .int (Int32.ofInt x) :: r) σ = aGo t lv r σ) ∧ (¬ cP c x y → aIns X S M pc (.if_icmp c off) lv (.int (Int32.ofInt y) :: .int (Int32.ofInt x) :: r) σ = aGo (pc + 3) lv r σ) := by
  have hq := cP_32 (c := c) hx hy
  cases c <;> (simp only [aIns, aIc_of e]; exact ⟨fun h => if_pos (hq.mp h), fun h => if_neg (fun n => h (hq.mpr n))⟩)
/-- a branch that isn't taken still has a place to go to -/
theorem wJ_of_not {P : Prop} {nx : Nat → Prop} {pc : Nat} {off : Int} (h : P → wJ nx pc off) (hp : P) : ∃ t : Nat, (pc : Int) + off = .ofNat t ∧ nx t := wJ_inv (h hp)
theorem lg_cmp_of {x y : Int} (hx : inL x) (hy : inL y) : lg_cmp (Int64.ofInt x) (Int64.ofInt y) = Int32.ofInt (if x > y then 1 else if x = y then 0 else -1) := by
  unfold lg_cmp
  have h1 : (Int64.ofInt x > Int64.ofInt y) ↔ x > y := i64_lt hy hx
  have h2 := i64_eq hx hy
  by_cases e1 : x > y
  · rw [if_pos e1, if_pos (h1.mpr e1)]
    rfl
  · rw [if_neg e1, if_neg (fun n => e1 (h1.mp n))]
    by_cases e2 : x = y
    · rw [if_pos e2, if_pos (h2.mpr e2)]
      rfl
    · rw [if_neg e2, if_neg (fun n => e2 (h2.mp n))]
      rfl
theorem cP_cmp (c : Jvm.ClassFile.Cond) (x y : Int) : cP c (if x > y then 1 else if x = y then 0 else -1) 0 ↔ cP c x y := by
  by_cases e1 : x > y
  · rw [if_pos e1]
    cases c <;> simp only [cP] <;> omega
  · rw [if_neg e1]
    by_cases e2 : x = y
    · rw [if_pos e2]
      subst e2
      cases c <;> simp [cP]
    · rw [if_neg e2]
      cases c <;> simp only [cP] <;> omega
theorem tmod_32 {x y : Int} (hx : inR x) (hy : inR y) : Int32.ofInt (x.tmod y) = Int32.ofInt x - Int32.ofInt x / Int32.ofInt y * Int32.ofInt y := by
  rw [Int.tmod_def, Int32.ofInt_sub, Int32.ofInt_mul, Int32.ofInt_tdiv hx.1 hx.2 hy.1 hy.2, Int32.mul_comm]
theorem tmod_64 {x y : Int} (hx : inL x) (hy : inL y) : Int64.ofInt (x.tmod y) = Int64.ofInt x - Int64.ofInt x / Int64.ofInt y * Int64.ofInt y := by
  rw [Int.tmod_def, Int64.ofInt_sub, Int64.ofInt_mul, Int64.ofInt_tdiv hx.1 hx.2 hy.1 hy.2, Int64.mul_comm]
theorem i32_ne0 {y : Int} (hy : inR y) (h : ¬ y = 0) : ¬ Int32.ofInt y = 0 := by
  rw [← i32_zero, i32_eq hy (by decide)]
  exact h
theorem i64_ne0 {y : Int} (hy : inL y) (h : ¬ y = 0) : ¬ Int64.ofInt y = 0 := by
  rw [show (0 : Int64) = Int64.ofInt 0 from rfl, i64_eq hy (by decide)]
  exact h
/-- lengths of rows are small -/
def bShOK (sh : aSh) : Bool := match sh with
  | .inl _ => true
  | .inr (_, n) => Nat.blt n 10000
theorem aS_small : aS.all bShOK = true := by decide +kernel
theorem aS_len {a t n : Nat} (h : aS[a]? = some (.inr (t, n))) : n < 2147483648 := by
  have := List.all_eq_true.mp aS_small _ (List.mem_of_getElem? h)
  have := Nat.le_of_ble_eq_true this
  omega
theorem aS_out : (List.range 151).all (fun a => match aS[a]? with
  | some (.inl _) => !(bRow a) && !(bOut a)
  | some (.inr (t, _)) => (Nat.beq t 4 == bOut a) && (!(bRow a) || Nat.beq t 0)
  | none => true) = true := by decide +kernel
theorem aS_lt {a : Nat} {sh : aSh} (h : aS[a]? = some sh) : a < 151 := by
  have := (List.getElem?_eq_some_iff.mp h).1
  exact this
theorem aS_obj {a c : Nat} (h : aS[a]? = some (.inl c)) : bRow a = false ∧ bOut a = false := by
  have := List.all_eq_true.mp aS_out a (List.mem_range.mpr (aS_lt h))
  rw [h] at this
  simpa using this
theorem aS_arr {a t n : Nat} (h : aS[a]? = some (.inr (t, n))) : (t = 4 ↔ bOut a = true) ∧ (bRow a = true → t = 0) := by
  have := List.all_eq_true.mp aS_out a (List.mem_range.mpr (aS_lt h))
  rw [h] at this
  simp only [Bool.and_eq_true] at this
  obtain ⟨h1, h2⟩ := this
  refine ⟨?_, fun hr => ?_⟩
  · cases hb : bOut a with
    | true =>
      rw [hb] at h1
      exact ⟨fun _ => rfl, fun _ => Nat.eq_of_beq_eq_true (by simpa using h1)⟩
    | false =>
      rw [hb] at h1
      refine ⟨fun e => ?_, fun n => by cases n⟩
      subst e
      exact absurd h1 (by decide)
  · rw [hr] at h2
    exact Nat.eq_of_beq_eq_true (by simpa using h2)
theorem bXn_some {xs : List Int32} {a : Nat} {n : Int} (h : bXn xs a = some n) : ∃ f : Nat → Int32, ∃ k : Nat, bX xs a = some (k, f) ∧ n = k ∧ ∀ i : Int, f i.toNat = Int32.ofInt (bXv xs a i) := by
  unfold bXn at h
  split at h
  · cases h
    exact ⟨fun j => (xs.take 3072).getD j 0, (xs.take 3072).length, rfl, rfl, fun i => (Int32.ofInt_toInt _).symm⟩
  · cases h
    exact ⟨fun j => (bStL 1001).getD j 0, 7, rfl, rfl, fun i => (Int32.ofInt_toInt _).symm⟩
  · cases h
    exact ⟨fun j => (bStL 1002).getD j 0, 3, rfl, rfl, fun i => (Int32.ofInt_toInt _).symm⟩
  · cases h
    exact ⟨fun j => (bStL 1003).getD j 0, 3, rfl, rfl, fun i => (Int32.ofInt_toInt _).symm⟩
  · cases h
theorem nat_cast {i : Int} (h : 0 ≤ i) : ((i.toNat : Nat) : Int) = i := Int.toNat_of_nonneg h
/-- an int's place -/
def bIp (t : Nat) : Bool := Nat.beq t 0 || (Nat.beq t 1 || Nat.beq t 2)
theorem bVa_int {μ : bMm} {a k t : Nat} (h : bIp t = true) : bVa μ a k t = .int (Int32.ofInt (bMe μ a k)) := by
  match t, h with
  | 0, _ => rfl
  | 1, _ => rfl
  | 2, _ => rfl
/-- what a row holds at a place -/
theorem bσ_ldi {μ : bMm} {a t n : Nat} {i : Int} (h : aS[a]? = some (.inr (t, n))) (ht : bIp t = true) (hr : bRow a = false) (h0 : 0 ≤ i) (h1 : i < n) : bσ μ a i.toNat = .int (Int32.ofInt (μ.2 a i)) := by
  rw [bσ_arr h (by omega), bVa_int ht, bMe_plain hr, nat_cast h0]
theorem bσ_ldl {μ : bMm} {a n : Nat} {i : Int} (h : aS[a]? = some (.inr (3, n))) (h0 : 0 ≤ i) (h1 : i < n) : bσ μ a i.toNat = .long (Int64.ofInt (μ.2 a i)) := by
  rw [bσ_arr h (by omega)]
  show Value.long _ = _
  rw [nat_cast h0]
theorem bσ_ldr {μ : bMm} {a t n u w : Nat} {r i : Int} (h : bOut a = true) (h1 : aS[a]? = some (.inr (t, n))) (h2 : aS[a + 1]? = some (.inr (u, w))) (hr0 : 0 ≤ r) (hr : r < n) (h0 : 0 ≤ i) (hi : i < w) : aS[a + 1 + r.toNat]? = some (.inr (0, w)) ∧ bσ μ (a + 1 + r.toNat) i.toNat = .int (Int32.ofInt (μ.2 a (r * 1000 + i))) := by
  obtain ⟨rfl, rfl, hw, hR⟩ := bRows h h1 h2
  obtain ⟨e1, e2, e3, -⟩ := hR r.toNat (by omega)
  refine ⟨e1, ?_⟩
  rw [bσ_arr e1 (by omega)]
  show Value.int (Int32.ofInt (bMe _ _ _)) = _
  rw [bMe_row e2 e3, nat_cast hr0, nat_cast h0]
end
section
/-! THE RULES' SOUNDNESS, 5: an instruction -/
section WS
variable {xs : List Int32} {d : Nat} {M : aM} {pc : Nat} {lv st : List bV} {μ : bMm} {Q : bPo} {nx : Nat → List bV → List bV → bMm → Prop} {ins : Instr} {ln : Nat}
/-- on to the next place -/
theorem wN {pc' : Nat} {lv' st' : List bV} {μ' : bMm} (hco : aFd (aCo M) pc = some (ins, ln)) (hnx : ∀ pc' lv' st' μ', nx pc' lv' st' μ' → bGo xs d M pc' lv' st' μ' Q)
    (h : aIns (bX xs) aS M pc ins (lv.map bVal) (st.map bVal) (bσ μ) = some (.inl (pc', lv'.map bVal, st'.map bVal, bσ μ'))) (k : nx pc' lv' st' μ') : bGo xs d M pc lv st μ Q :=
  bGo_step ((aStep_of hco ..).trans h) (hnx _ _ _ _ k)
theorem wSwT_inv {nx' : Nat → Prop} {x : Int} : ∀ (offs : List Int) (k : Int), wSwT nx' pc x k offs → ∀ (i : Nat) (off : Int), offs[i]? = some off → x = k + i → ∃ t : Nat, (pc : Int) + off = .ofNat t ∧ nx' t
  | [], k, _, i, off, hi, _ => by simp at hi
  | o :: r, k, h, 0, off, hi, hx => by
    simp only [List.getElem?_cons_zero, Option.some.injEq] at hi
    subst hi
    exact wJ_inv (h.1 (by simpa using hx))
  | o :: r, k, h, i + 1, off, hi, hx => by
    simp only [List.getElem?_cons_succ] at hi
    exact wSwT_inv r (k + 1) h.2 i off hi (by rw [hx]; simp; omega)
theorem wSwL_inv {nx' : Nat → Prop} {x dflt : Int} : ∀ (ps : List (Int × Int)), wSwL nx' pc x dflt ps → ∃ t : Nat, (pc : Int) + Op.lookupswitch.offset ps dflt x = .ofNat t ∧ nx' t := by
  intro ps
  induction ps with
  | nil => intro h; exact wJ_inv h
  | cons q r ih =>
    intro h
    by_cases e : x = q.1
    · have := wJ_inv (h.1 e)
      have e2 : Op.lookupswitch.offset (q :: r) dflt x = q.2 := by
        simp [Op.lookupswitch.offset, e]
      rw [e2]
      exact this
    · have := ih (h.2 e)
      have e2 : Op.lookupswitch.offset (q :: r) dflt x = Op.lookupswitch.offset r dflt x := by
        have e' : ¬ q.1 = x := fun n => e n.symm
        simp [Op.lookupswitch.offset, e, e']
      rw [e2]
      exact this
theorem wLd_inv {ty : Nat → Bool} {v iv : bV} {i : Int} {κ : Int → Prop} (h : wLd xs μ ty v iv i κ) : ∃ (a : Nat) (z : Int), bVal v = .ref a ∧ κ z ∧
    ((∃ t n, aS[a]? = some (.inr (t, n)) ∧ ty t = true ∧ (0 ≤ i ∧ i < (n : Int)) ∧ (bIp t = true → bσ μ a i.toNat = .int (Int32.ofInt z)) ∧ (t = 3 → bσ μ a i.toNat = .long (Int64.ofInt z))) ∨
     (aS[a]? = none ∧ ty 0 = true ∧ ∃ k f, bX xs a = some (k, f) ∧ (0 ≤ i ∧ i < (k : Int)) ∧ f i.toNat = Int32.ofInt z)) := by
  unfold wLd at h
  split at h
  · rename_i a
    split at h
    · cases h
    · rename_i hr
      split at h
      · rename_i t n hs
        split at h
        · rename_i ht
          obtain ⟨hi, hk⟩ := wIx_inv h
          exact ⟨a, μ.2 a i, rfl, hk, Or.inl ⟨t, n, hs, ht, hi, fun hp => bσ_ldi hs hp hr hi.1 hi.2, fun e => by subst e; exact bσ_ldl hs hi.1 hi.2⟩⟩
        · cases h
      · cases h
      · rename_i hs
        split at h
        · rename_i ht
          split at h
          · rename_i n hn
            obtain ⟨hi, hk⟩ := wIx_inv h
            obtain ⟨f, k, e1, rfl, e3⟩ := bXn_some hn
            exact ⟨a, _, rfl, hk, Or.inr ⟨hs, ht, k, f, e1, hi, e3 i⟩⟩
          · cases h
        · cases h
  · rename_i a r
    split at h
    · rename_i hb
      rw [Bool.and_eq_true] at hb
      split at h
      · rename_i t n hs
        split at h
        · rename_i u w hs2
          obtain ⟨hr, h⟩ := h
          obtain ⟨hi, hk⟩ := wIx_inv h
          obtain ⟨e1, e2⟩ := bσ_ldr (μ := μ) hb.2 hs hs2 hr.1 hr.2 hi.1 hi.2
          exact ⟨_, _, rfl, hk, Or.inl ⟨0, w, e1, hb.1, hi, fun _ => e2, fun e => by cases e⟩⟩
        · cases h
      · cases h
    · cases h
  · cases h
theorem wSt_inv {ty : Nat → Bool} {v iv : bV} {i : Int} {z : Nat → Int} {κ : bMm → Prop} (h0 : ∀ t, ty t = true → t ≠ 4) (h : wSt μ ty v iv i z κ) : ∃ (a t n : Nat) (μ' : bMm), bVal v = .ref a ∧ κ μ' ∧ aS[a]? = some (.inr (t, n)) ∧ ty t = true ∧ (0 ≤ i ∧ i < (n : Int)) ∧ (bIp t = true → aUp (bσ μ) a i.toNat (.int (Int32.ofInt (z t))) = bσ μ') ∧ (t = 3 → aUp (bσ μ) a i.toNat (.long (Int64.ofInt (z t))) = bσ μ') := by
  unfold wSt at h
  split at h
  · rename_i a
    split at h
    · cases h
    · rename_i hr
      split at h
      · rename_i t n hs
        split at h
        · rename_i ht
          obtain ⟨hi, hk⟩ := wIx_inv h
          have ho : bOut a = false := by
            cases hb : bOut a with
            | false => rfl
            | true => exact absurd ((aS_arr hs).1.mpr hb) (h0 t ht)
          have hu := bUp_arr (μ := μ) (k := i.toNat) (z := z t) hs (by omega) (h0 t ht) hr ho
          rw [nat_cast hi.1] at hu
          refine ⟨a, t, n, _, rfl, hk, hs, ht, hi, fun hp => ?_, fun e => ?_⟩
          · rw [← hu, bVa_int hp, bMe_plain hr, nat_cast hi.1]
            show _ = aUp (bσ μ) a i.toNat (.int (Int32.ofInt (up μ.2 a i (z t) a i)))
            rw [up_eq]
          · subst e
            rw [← hu]
            show _ = aUp (bσ μ) a i.toNat (.long (Int64.ofInt (up μ.2 a i (z 3) a ((i.toNat : Nat) : Int))))
            rw [nat_cast hi.1, up_eq]
        · cases h
      · cases h
  · rename_i a r
    split at h
    · rename_i hb
      rw [Bool.and_eq_true] at hb
      split at h
      · rename_i t n hs
        split at h
        · rename_i u w hs2
          obtain ⟨hr, h⟩ := h
          obtain ⟨hi, hk⟩ := wIx_inv h
          obtain ⟨e1, -⟩ := bσ_ldr (μ := μ) hb.2 hs hs2 hr.1 hr.2 hi.1 hi.2
          have hu := bUp_row (μ := μ) (z := z 0) hb.2 hs hs2 (r := r.toNat) (k := i.toNat) (by omega) (by omega)
          rw [nat_cast hr.1, nat_cast hi.1] at hu
          exact ⟨_, 0, w, _, rfl, hk, e1, hb.1, hi, fun _ => hu, fun e => by cases e⟩
        · cases h
      · cases h
    · cases h
  · cases h
end WS
end
section
/-! THE RULES' SOUNDNESS, 6: an instruction -/
section WT
variable {xs : List Int32} {d : Nat} {M : aM} {pc : Nat} {lv st : List bV} {μ : bMm} {Q : bPo} {nx : Nat → List bV → List bV → bMm → Prop} {ins : Instr} {ln : Nat}
theorem wN_II {f : Int32 → Int32 → Value} {g : Int → Int → Int} (hco : aFd (aCo M) pc = some (ins, ln)) (hnx : ∀ pc' lv' st' μ', nx pc' lv' st' μ' → bGo xs d M pc' lv' st' μ' Q)
    (hins : ∀ lv st σ, aIns (bX xs) aS M pc ins lv st σ = aII f pc lv st σ) (hfg : ∀ x y, f (Int32.ofInt x) (Int32.ofInt y) = .int (Int32.ofInt (g x y))) (h : wII (fun _ _ x y r => nx (pc + 1) lv (.inl (g x y) :: r) μ) st) : bGo xs d M pc lv st μ Q := by
  obtain ⟨u, v, x, y, r, rfl, hy, hx, hk⟩ := wII_inv h
  refine wN hco hnx (lv' := lv) (st' := .inl (g x y) :: r) (μ' := μ) ?_ hk
  rw [hins]
  simp only [List.map_cons, bZ_val hy, bZ_val hx]
  show some (Sum.inl (pc + 1, _, f (Int32.ofInt x) (Int32.ofInt y) :: _, _)) = _
  rw [hfg]
  rfl
theorem wN_LL {f : Int64 → Int64 → Value} {g : Int → Int → Int} (hco : aFd (aCo M) pc = some (ins, ln)) (hnx : ∀ pc' lv' st' μ', nx pc' lv' st' μ' → bGo xs d M pc' lv' st' μ' Q)
    (hins : ∀ lv st σ, aIns (bX xs) aS M pc ins lv st σ = aLL f pc lv st σ) (hfg : ∀ x y, f (Int64.ofInt x) (Int64.ofInt y) = .long (Int64.ofInt (g x y))) (h : wLL (fun _ _ x y r => nx (pc + 1) lv (.inr (.inr (.inl (g x y))) :: r) μ) st) : bGo xs d M pc lv st μ Q := by
  obtain ⟨u, v, x, y, r, rfl, hy, hx, hk⟩ := wLL_inv h
  refine wN hco hnx (lv' := lv) (st' := .inr (.inr (.inl (g x y))) :: r) (μ' := μ) ?_ hk
  rw [hins]
  simp only [List.map_cons, bL_val hy, bL_val hx]
  show some (Sum.inl (pc + 1, _, f (Int64.ofInt x) (Int64.ofInt y) :: _, _)) = _
  rw [hfg]
  rfl
theorem wN_LI {f : Int64 → Int32 → Value} {g : Int → Int → Int} (hco : aFd (aCo M) pc = some (ins, ln)) (hnx : ∀ pc' lv' st' μ', nx pc' lv' st' μ' → bGo xs d M pc' lv' st' μ' Q)
    (hins : ∀ lv st σ, aIns (bX xs) aS M pc ins lv st σ = aLI f pc lv st σ) (hfg : ∀ x y, f (Int64.ofInt x) (Int32.ofInt y) = .long (Int64.ofInt (g x y))) (h : wLI (fun x y r => nx (pc + 1) lv (.inr (.inr (.inl (g x y))) :: r) μ) st) : bGo xs d M pc lv st μ Q := by
  obtain ⟨u, v, x, y, r, rfl, hy, hx, hk⟩ := wLI_inv h
  refine wN hco hnx (lv' := lv) (st' := .inr (.inr (.inl (g x y))) :: r) (μ' := μ) ?_ hk
  rw [hins]
  simp only [List.map_cons, bZ_val hy, bL_val hx]
  show some (Sum.inl (pc + 1, _, f (Int64.ofInt x) (Int32.ofInt y) :: _, _)) = _
  rw [hfg]
  rfl
theorem wN_ldi {q k : Nat} (hco : aFd (aCo M) pc = some (ins, ln)) (hnx : ∀ pc' lv' st' μ', nx pc' lv' st' μ' → bGo xs d M pc' lv' st' μ' Q)
    (hins : ∀ lv st σ, aIns (bX xs) aS M pc ins lv st σ = aLdI q lv k st σ) (h : wLi (fun v => nx q lv (v :: st) μ) lv k) : bGo xs d M pc lv st μ Q := by
  obtain ⟨v, z, hv, hz, hk⟩ := wLi_inv h
  refine wN hco hnx (lv' := lv) (st' := v :: st) (μ' := μ) ?_ hk
  rw [hins]
  unfold aLdI
  rw [bAt, hv]
  simp only [Option.map_some, List.map_cons, bZ_val hz]
  rfl
theorem wN_ldl {q k : Nat} (hco : aFd (aCo M) pc = some (ins, ln)) (hnx : ∀ pc' lv' st' μ', nx pc' lv' st' μ' → bGo xs d M pc' lv' st' μ' Q)
    (hins : ∀ lv st σ, aIns (bX xs) aS M pc ins lv st σ = aLdL q lv k st σ) (h : wLl (fun v => nx q lv (v :: st) μ) lv k) : bGo xs d M pc lv st μ Q := by
  obtain ⟨v, z, hv, hz, hk⟩ := wLl_inv h
  refine wN hco hnx (lv' := lv) (st' := v :: st) (μ' := μ) ?_ hk
  rw [hins]
  unfold aLdL
  rw [bAt, hv]
  simp only [Option.map_some, List.map_cons, bL_val hz]
  rfl
theorem wN_ldr {q k : Nat} (hco : aFd (aCo M) pc = some (ins, ln)) (hnx : ∀ pc' lv' st' μ', nx pc' lv' st' μ' → bGo xs d M pc' lv' st' μ' Q)
    (hins : ∀ lv st σ, aIns (bX xs) aS M pc ins lv st σ = aLdR q lv k st σ) (h : wLr (fun v => nx q lv (v :: st) μ) lv k) : bGo xs d M pc lv st μ Q := by
  obtain ⟨v, z, hv, hz, hk⟩ := wLr_inv h
  refine wN hco hnx (lv' := lv) (st' := v :: st) (μ' := μ) ?_ hk
  rw [hins]
  unfold aLdR
  rw [bAt, hv]
  simp only [Option.map_some, List.map_cons, hz]
  rfl
theorem wN_sti {q k : Nat} (hco : aFd (aCo M) pc = some (ins, ln)) (hnx : ∀ pc' lv' st' μ', nx pc' lv' st' μ' → bGo xs d M pc' lv' st' μ' Q)
    (hins : ∀ lv st σ, aIns (bX xs) aS M pc ins lv st σ = aStI q lv k st σ) (h : wI1 (fun v _ r => wP1 (fun lv' => nx q lv' r μ) lv k v) st) : bGo xs d M pc lv st μ Q := by
  obtain ⟨v, z, r, rfl, hz, hk⟩ := wI1_inv h
  obtain ⟨hb, hk⟩ := wP1_inv hk
  refine wN hco hnx (lv' := lv.set k v) (st' := r) (μ' := μ) ?_ hk
  rw [hins, ← bPut1 hb]
  unfold aStI
  rw [List.map_cons, bZ_val hz]
theorem wN_str {q k : Nat} {v : bV} {r : List bV} (hco : aFd (aCo M) pc = some (ins, ln)) (hnx : ∀ pc' lv' st' μ', nx pc' lv' st' μ' → bGo xs d M pc' lv' st' μ' Q)
    (hins : ∀ lv st σ, aIns (bX xs) aS M pc ins lv st σ = aStR q lv k st σ) (hr : bRe v = true) (h : wP1 (fun lv' => nx q lv' r μ) lv k v) : bGo xs d M pc lv (v :: r) μ Q := by
  obtain ⟨hb, hk⟩ := wP1_inv h
  obtain ⟨a, ha⟩ := bRe_val hr
  refine wN hco hnx (lv' := lv.set k v) (st' := r) (μ' := μ) ?_ hk
  rw [hins, ← bPut1 hb]
  unfold aStR
  rw [List.map_cons, ha]
theorem wN_stl {q k : Nat} {v : bV} {z : Int} {r : List bV} (hco : aFd (aCo M) pc = some (ins, ln)) (hnx : ∀ pc' lv' st' μ', nx pc' lv' st' μ' → bGo xs d M pc' lv' st' μ' Q)
    (hins : ∀ lv st σ, aIns (bX xs) aS M pc ins lv st σ = aStL q lv k st σ) (hr : bL v = some z) (h : wP2 (fun lv' => nx q lv' r μ) lv k (.inr (.inr (.inl z)))) : bGo xs d M pc lv (v :: r) μ Q := by
  obtain ⟨hb, hk⟩ := wP2_inv h
  refine wN hco hnx (lv' := (lv.set k (.inr (.inr (.inl z)))).set (k + 1) vn) (st' := r) (μ' := μ) ?_ hk
  rw [hins, ← bPut2 hb]
  unfold aStL
  rw [List.map_cons, bL_val hr]
  rfl
theorem aIld_of {a : Nat} {i z : Int} (h : (∃ t n, aS[a]? = some (.inr (t, n)) ∧ Nat.beq t 0 = true ∧ (0 ≤ i ∧ i < (n : Int)) ∧ (bIp t = true → bσ μ a i.toNat = .int (Int32.ofInt z)) ∧ (t = 3 → bσ μ a i.toNat = .long (Int64.ofInt z))) ∨
     (aS[a]? = none ∧ Nat.beq 0 0 = true ∧ ∃ k f, bX xs a = some (k, f) ∧ (0 ≤ i ∧ i < (k : Int)) ∧ f i.toNat = Int32.ofInt z)) : aIld (bX xs) aS (bσ μ) a (Int32.ofInt i) = some (.int (Int32.ofInt z)) := by
  unfold aIld
  rcases h with ⟨t, n, hs, ht, hi, hv, -⟩ | ⟨hs, -, k, f, hX, hi, hv⟩
  · have ht := Nat.eq_of_beq_eq_true ht
    subst ht
    rw [hs]
    simp only
    rw [if_pos (i32_ix hi.1 hi.2 (aS_len hs)), (i32_nat hi.1 hi.2 (aS_len hs)).1, hv rfl]
    rfl
  · rw [hs]
    simp only
    rw [hX]
    simp only
    have hk : k < 2147483648 := by
      unfold bX at hX
      split at hX <;> first | (cases hX; first | (rw [List.length_take]; omega) | decide) | cases hX
    rw [if_pos (i32_ix hi.1 hi.2 hk), (i32_nat hi.1 hi.2 hk).1, hv]
theorem wAr_inv {v : bV} {κ : Nat → Int → Int → Prop} (h : wAr v κ) : ∃ (a A : Nat) (b : Int) (n : Nat), bVal v = .ref a ∧ aS[a]? = some (.inr (0, n)) ∧ κ A b n ∧ (bAd a = (A, b)) := by
  unfold wAr at h
  split at h
  · rename_i a
    split at h
    · cases h
    · rename_i hr
      split at h
      · rename_i n hs
        exact ⟨a, a, 0, n, rfl, hs, h, bAd_plain hr⟩
      · cases h
  · rename_i a r
    split at h
    · rename_i hb
      split at h
      · rename_i t n hs
        split at h
        · rename_i u w hs2
          obtain ⟨hr, hk⟩ := h
          obtain ⟨rfl, rfl, hw, hR⟩ := bRows hb hs hs2
          obtain ⟨e1, e2, e3, -⟩ := hR r.toNat (by omega)
          refine ⟨a + 1 + r.toNat, a, r * 1000, w, rfl, e1, hk, ?_⟩
          have := (bAd_row e2).2.2
          rw [e3, show a + 1 + r.toNat - a - 1 = r.toNat by omega, nat_cast hr.1] at this
          exact Prod.ext e3 this
        · cases h
      · cases h
    · cases h
  · cases h
end WT
end
section
/-! THE RULES' SOUNDNESS, 7: a copy between rows -/
theorem bAd_inj {a b j k ta na tb nb : Nat} (ha : aS[a]? = some (.inr (ta, na))) (hb : aS[b]? = some (.inr (tb, nb))) (h4 : ta ≠ 4) (h5 : tb ≠ 4) (hj : j < nb) (hk : k < na) (hab : b ≠ a) (h1 : (bAd b).1 = (bAd a).1) (h2 : (bAd b).2 + (j : Int) = (bAd a).2 + (k : Int)) : False := by
  cases hra : bRow a with
  | false =>
    rw [bAd_plain hra] at h1
    cases hrb : bRow b with
    | false =>
      rw [bAd_plain hrb] at h1
      exact hab h1
    | true =>
      have := (bAd_row hrb).2.1
      rw [h1] at this
      exact h4 ((aS_arr ha).1.mpr this)
  | true =>
    cases hrb : bRow b with
    | false =>
      rw [bAd_plain hrb] at h1
      have := (bAd_row hra).2.1
      rw [← h1] at this
      exact h5 ((aS_arr hb).1.mpr this)
    | true =>
      have g1 := bAd_row hra
      have g2 := bAd_row hrb
      have l1 := bRowLen a hra
      have l2 := bRowLen b hrb
      rw [ha] at l1
      rw [hb] at l2
      have l1 : na < 1000 := Nat.le_of_ble_eq_true l1
      have l2 : nb < 1000 := Nat.le_of_ble_eq_true l2
      rw [h1] at g2
      rw [g1.2.2, g2.2.2] at h2
      omega
theorem bCp_ok {μ : bMm} {a0 a1 A0 A1 n0 n1 sp dp n : Nat} {b0 b1 : Int} (h0 : aS[a0]? = some (.inr (0, n0))) (h1 : aS[a1]? = some (.inr (0, n1))) (e0 : bAd a0 = (A0, b0)) (e1 : bAd a1 = (A1, b1)) (hs : sp + n ≤ n0) (hd : dp + n ≤ n1) :
    (fun b j => if b = a1 then (if dp ≤ j ∧ j < dp + n then bσ μ a0 (sp + (j - dp)) else bσ μ b j) else bσ μ b j) = bσ (bCp μ A1 (b1 + (dp : Int)) A0 (b0 + (sp : Int)) (n : Int)) := by
  have m0 : ∀ k : Int, bMe μ a0 k = μ.2 A0 (b0 + k) := fun k => by unfold bMe; rw [e0]
  have m1 : ∀ (ν : bMm) (k : Int), bMe ν a1 k = ν.2 A1 (b1 + k) := fun ν k => by unfold bMe; rw [e1]
  funext b j
  by_cases e : b = a1
  · subst e
    rw [if_pos rfl]
    by_cases hj : j < n1
    · rw [bσ_arr (μ := bCp μ A1 (b1 + (dp : Int)) A0 (b0 + (sp : Int)) (n : Int)) h1 hj]
      show _ = Value.int (Int32.ofInt (bMe _ b j))
      rw [m1]
      show _ = Value.int (Int32.ofInt (cp μ.2 A1 (b1 + dp) A0 (b0 + sp) n A1 (b1 + j)))
      unfold cp
      rw [if_pos rfl]
      by_cases hr : dp ≤ j ∧ j < dp + n
      · rw [if_pos hr, if_pos (by omega), bσ_arr h0 (by omega)]
        show Value.int (Int32.ofInt (bMe μ a0 _)) = _
        rw [m0, show b0 + ((sp + (j - dp) : Nat) : Int) = b0 + (sp : Int) + (b1 + (j : Int) - (b1 + (dp : Int))) by omega]
      · rw [if_neg hr, if_neg (by omega), bσ_arr h1 hj]
        show Value.int (Int32.ofInt (bMe μ b _)) = _
        rw [m1]
    · rw [if_neg (by omega), bσ_arr' h1 hj, bσ_arr' h1 hj]
  · rw [if_neg e]
    have hA1 : A1 = (bAd a1).1 := by rw [e1]
    have hb1 : b1 = (bAd a1).2 := by rw [e1]
    have hout : ∀ c : Nat, aS[b]? = some (.inl c) → b ≠ A1 := fun c hc q => by
      cases hra : bRow a1 with
      | false => rw [bAd_plain hra] at hA1; exact e (q.trans hA1)
      | true =>
        have := (bAd_row hra).2.1
        rw [← hA1, ← q, (aS_obj hc).2] at this
        cases this
    have hmem : ∀ t n2 : Nat, aS[b]? = some (.inr (t, n2)) → t ≠ 4 → j < n2 → bMe (bCp μ A1 (b1 + dp) A0 (b0 + sp) n) b j = bMe μ b j := fun t n2 hb ht hj => by
      show cp μ.2 A1 (b1 + dp) A0 (b0 + sp) n (bAd b).1 ((bAd b).2 + j) = μ.2 (bAd b).1 ((bAd b).2 + j)
      unfold cp
      by_cases q : (bAd b).1 = A1
      · rw [if_pos q, if_neg]
        rintro ⟨q1, q2⟩
        have hk : ∃ k : Nat, (bAd b).2 + (j : Int) = b1 + (k : Int) ∧ k < n1 := ⟨((bAd b).2 + j - b1).toNat, by omega, by omega⟩
        obtain ⟨k, hk1, hk2⟩ := hk
        exact bAd_inj h1 hb (by decide) ht hj hk2 e (by rw [← hA1]; exact q) (by rw [← hb1]; exact hk1)
      · rw [if_neg q]
    show bVs μ b j aS[b]? = bVs _ b j aS[b]?
    cases hs2 : aS[b]? with
    | none => rfl
    | some sh =>
      match sh, hs2 with
      | .inl c, hs2 =>
        refine (bVo_cg (μ := μ) (ν := bCp μ A1 (b1 + dp) A0 (b0 + sp) n) rfl ?_ _).symm
        show cp μ.2 A1 (b1 + dp) A0 (b0 + sp) n b j = μ.2 b j
        unfold cp
        rw [if_neg (hout c hs2)]
      | .inr (t, n2), hs2 =>
        show (match Nat.blt j n2 with
          | true => bVa μ b j t
          | false => .null) = (match Nat.blt j n2 with
          | true => bVa (bCp μ A1 (b1 + dp) A0 (b0 + sp) n) b j t
          | false => .null)
        cases hb : Nat.blt j n2 with
        | false => rfl
        | true =>
          have hj : j < n2 := Nat.le_of_ble_eq_true hb
          show bVa μ b j t = bVa _ b j t
          by_cases ht : t = 4
          · subst ht
            rfl
          · have hm := hmem t n2 hs2 ht hj
            by_cases h3 : t = 3
            · subst h3
              have hrb : bRow b = false := by
                cases hrb : bRow b with
                | false => rfl
                | true => exact absurd ((aS_arr hs2).2 hrb) (by decide)
              rw [bMe_plain hrb, bMe_plain hrb] at hm
              show Value.long _ = Value.long _
              rw [hm]
            · unfold bVa
              split
              · exact absurd rfl ht
              · exact absurd rfl h3
              · rw [hm]
theorem i32_clamp {z : Int} (h0 : 0 ≤ z) (h1 : z ≤ 2147483647) : (Int32.ofInt z).toNatClampNeg = z.toNat ∧ ¬ Int32.ofInt z < 0 := by
  have hr : inR z := by omega
  refine ⟨?_, ?_⟩
  · show (Int32.ofInt z).toInt.toNat = _
    rw [i32_of hr]
  · rw [← i32_zero, i32_lt hr (by decide)]
    omega
section WU
variable {xs : List Int32} {d : Nat} {M : aM} {pc : Nat} {lv st : List bV} {μ : bMm} {Q : bPo} {nx : List bV → bMm → Prop} {ins : Instr} {ln : Nat}
theorem wPr_sound {K : Nat} (hnx : ∀ st' μ', nx st' μ' → bGo xs d M (pc + 3) lv st' μ' Q) (hins : aStep (bX xs) aS M pc (lv.map bVal) (st.map bVal) (bσ μ) = aPrim aS K pc (lv.map bVal) (st.map bVal) (bσ μ)) (h : wPr nx K st μ) : bGo xs d M pc lv st μ Q := by
  have go : ∀ (st' : List bV) (μ' : bMm), aPrim aS K pc (lv.map bVal) (st.map bVal) (bσ μ) = some (.inl (pc + 3, lv.map bVal, st'.map bVal, bσ μ')) → nx st' μ' → bGo xs d M pc lv st μ Q := fun st' μ' e k => bGo_step (hins.trans e) (hnx _ _ k)
  match K, h, go with
  | 0, h, go =>
    obtain ⟨u, v, x, y, r, rfl, hy, hx, h⟩ := wII_inv h
    split at h
    · rename_i hc
      obtain ⟨rx, h⟩ := wR_inv h
      obtain ⟨ry, h⟩ := wR_inv h
      refine go _ _ ?_ h
      simp only [aPrim, List.map_cons, bZ_val hy, bZ_val hx, aGd, bCat_val, hc]
      show some (Sum.inl (pc + 3, _, Value.int _ :: _, _)) = some (Sum.inl (pc + 3, _, Value.int (Int32.ofInt (max x y)) :: _, _))
      have : (if Int32.ofInt x < Int32.ofInt y then Int32.ofInt y else Int32.ofInt x) = Int32.ofInt (max x y) := by
        by_cases q : x < y
        · rw [if_pos ((i32_lt rx ry).mpr q), show max x y = y by omega]
        · rw [if_neg (fun n => q ((i32_lt rx ry).mp n)), show max x y = x by omega]
      rw [this]
    · cases h
  | 1, h, go =>
    obtain ⟨u, v, x, y, r, rfl, hy, hx, h⟩ := wII_inv h
    split at h
    · rename_i hc
      obtain ⟨rx, h⟩ := wR_inv h
      obtain ⟨ry, h⟩ := wR_inv h
      refine go _ _ ?_ h
      simp only [aPrim, List.map_cons, bZ_val hy, bZ_val hx, aGd, bCat_val, hc]
      show some (Sum.inl (pc + 3, _, Value.int _ :: _, _)) = some (Sum.inl (pc + 3, _, Value.int (Int32.ofInt (min x y)) :: _, _))
      have : (if Int32.ofInt y < Int32.ofInt x then Int32.ofInt y else Int32.ofInt x) = Int32.ofInt (min x y) := by
        by_cases q : y < x
        · rw [if_pos ((i32_lt ry rx).mpr q), show min x y = y by omega]
        · rw [if_neg (fun n => q ((i32_lt ry rx).mp n)), show min x y = x by omega]
      rw [this]
    · cases h
  | 2, h, go =>
    obtain ⟨u, v, x, y, r, rfl, hy, hx, h⟩ := wLL_inv h
    split at h
    · rename_i hc
      obtain ⟨rx, h⟩ := wRL_inv h
      obtain ⟨ry, h⟩ := wRL_inv h
      refine go _ _ ?_ h
      simp only [aPrim, List.map_cons, bL_val hy, bL_val hx, aGd, bCat_val, hc]
      show some (Sum.inl (pc + 3, _, Value.long _ :: _, _)) = some (Sum.inl (pc + 3, _, Value.long (Int64.ofInt (max x y)) :: _, _))
      have : (if Int64.ofInt y < Int64.ofInt x then Int64.ofInt x else Int64.ofInt y) = Int64.ofInt (max x y) := by
        by_cases q : y < x
        · rw [if_pos ((i64_lt ry rx).mpr q), show max x y = x by omega]
        · rw [if_neg (fun n => q ((i64_lt ry rx).mp n)), show max x y = y by omega]
      rw [this]
    · cases h
  | 3, h, go =>
    obtain ⟨u, v, x, y, r, rfl, hy, hx, h⟩ := wLL_inv h
    split at h
    · rename_i hc
      obtain ⟨rx, h⟩ := wRL_inv h
      obtain ⟨ry, h⟩ := wRL_inv h
      refine go _ _ ?_ h
      simp only [aPrim, List.map_cons, bL_val hy, bL_val hx, aGd, bCat_val, hc]
      show some (Sum.inl (pc + 3, _, Value.long _ :: _, _)) = some (Sum.inl (pc + 3, _, Value.long (Int64.ofInt (min x y)) :: _, _))
      have : (if Int64.ofInt y < Int64.ofInt x then Int64.ofInt y else Int64.ofInt x) = Int64.ofInt (min x y) := by
        by_cases q : y < x
        · rw [if_pos ((i64_lt ry rx).mpr q), show min x y = y by omega]
        · rw [if_neg (fun n => q ((i64_lt ry rx).mp n)), show min x y = x by omega]
      rw [this]
    · cases h
  | 4, h, go =>
    unfold wPr at h
    simp only at h
    split at h
    · rename_i nv dv v1 sv v0 r
      split at h
      · rename_i hc
        split at h
        · rename_i n hn
          split at h
          · rename_i dp hdp
            split at h
            · rename_i sp hsp
              obtain ⟨a0, A0, b0, n0, ea0, hs0, h, e0⟩ := wAr_inv h
              obtain ⟨a1, A1, b1, n1, ea1, hs1, h, e1⟩ := wAr_inv h
              obtain ⟨⟨⟨q1, q2, q3⟩, q4, q5⟩, h⟩ := h
              have l0 := aS_len hs0
              have l1 := aS_len hs1
              refine go _ _ ?_ h
              simp only [aPrim, List.map_cons, bZ_val hn, bZ_val hdp, bZ_val hsp, ea0, ea1, hs0, hs1]
              obtain ⟨c1, c2⟩ := i32_clamp q1 (by omega)
              obtain ⟨c3, c4⟩ := i32_clamp q2 (by omega)
              obtain ⟨c5, c6⟩ := i32_clamp q3 (by omega)
              have hcp := bCp_ok (μ := μ) (sp := sp.toNat) (dp := dp.toNat) (n := n.toNat) hs0 hs1 e0 e1 (by omega) (by omega)
              rw [nat_cast q1, nat_cast q2, nat_cast q3] at hcp
              rw [c1, c3, c5, if_pos ⟨⟨c2, c4, c6⟩, by omega, by omega⟩]
              simp only [aGd, bCat_val, hc]
              rw [hcp]
              rfl
            · cases h
          · cases h
        · cases h
      · cases h
    · cases h
  | K + 5, h, _ => cases h
end WU
end
section
/-! THE RULES' SOUNDNESS, 8: every instruction, and a whole stretch -/
theorem i8_of {n : Int} (h : -128 ≤ n ∧ n ≤ 127) : (Int8.ofInt n).toInt32 = Int32.ofInt n := Int8.toInt32_ofInt h.1 h.2
theorem i16_of {n : Int} (h : -32768 ≤ n ∧ n ≤ 32767) : (Int16.ofInt n).toInt32 = Int32.ofInt n := Int16.toInt32_ofInt h.1 h.2
theorem wLn_inv {xs : List Int32} {v : bV} {κ : Int → Prop} (h : wLn xs v κ) : ∃ (a : Nat) (z : Int), bVal v = .ref a ∧ κ z ∧ aLen (bX xs) aS a = some (.int (Int32.ofInt z)) := by
  unfold wLn at h
  split at h
  · rename_i a
    split at h
    · rename_i t n hs
      refine ⟨a, n, rfl, h, ?_⟩
      unfold aLen
      rw [hs, Int32.ofInt_eq_ofNat]
    · cases h
    · rename_i hs
      split at h
      · rename_i n hn
        obtain ⟨f, k, e1, rfl, -⟩ := bXn_some hn
        refine ⟨a, _, rfl, h, ?_⟩
        unfold aLen
        rw [hs]
        simp only
        rw [e1, Int32.ofInt_eq_ofNat]
      · cases h
  · rename_i a r
    split at h
    · rename_i hb
      split at h
      · rename_i t n hs
        split at h
        · rename_i u w hs2
          obtain ⟨hr, hk⟩ := h
          obtain ⟨rfl, rfl, hw, hR⟩ := bRows hb hs hs2
          obtain ⟨e1, e2, e3, -⟩ := hR r.toNat (by omega)
          refine ⟨_, w, rfl, hk, ?_⟩
          unfold aLen
          rw [e1, Int32.ofInt_eq_ofNat]
        · cases h
      · cases h
    · cases h
  · cases h
theorem bFl_inv {μ : bMm} {a k : Nat} {κ : bV → Prop} (h : bFl μ a k κ) : ∃ v, bVo μ a k (bF a k) = bVal v ∧ κ v := by
  unfold bFl at h
  split at h
  · rename_i x e
    exact ⟨_, by rw [e]; rfl, h⟩
  · rename_i x e
    exact ⟨_, by rw [e]; rfl, h⟩
  · rename_i x e
    exact ⟨_, by rw [e]; rfl, h⟩
  · cases h
theorem bRf_cg {bt bs : Bool × Bool × Bool} (b j r : Nat) (h0 : b = 0 → j = 10 → bt.1 = bs.1) (h1 : b = 0 → j = 11 → bt.2.1 = bs.2.1) (h2 : b = 120 → j = 5 → bt.2.2 = bs.2.2) : bRf bt b j r = bRf bs b j r := by
  unfold bRf
  split
  · split
    · rw [h0 rfl rfl]
    · rw [h1 rfl rfl]
    · rfl
  · split
    · rw [h2 rfl rfl]
    · rfl
  · rfl
theorem bRs_ok {μ : bMm} {a k b cj : Nat} {bt : Bool × Bool × Bool} (h : aS[a]? = some (.inl cj)) (e : bRs μ.1 a k b = some bt) : aUp (bσ μ) a k (.ref b) = bσ (bt, μ.2) := by
  have key : ∀ b' j : Nat, (b' = a ∧ j = k → bVs (bt, μ.2) b' j aS[b']? = .ref b) ∧ (¬ (b' = a ∧ j = k) → bVs (bt, μ.2) b' j aS[b']? = bVs μ b' j aS[b']?) := by
    intro b' j
    refine ⟨fun q => ?_, fun q => ?_⟩
    · obtain ⟨rfl, rfl⟩ := q
      rw [h]
      show bVo (bt, μ.2) b' j (bF b' j) = _
      unfold bRs at e
      repeat' (split at e)
      all_goals first | (cases e; done) | (cases e; rfl)
    · have hm : ∀ (t : Nat), bVa (bt, μ.2) b' j t = bVa μ b' j t := fun t => rfl
      unfold bVs
      split
      · rfl
      · split
        · exact hm _
        · rfl
      · have : ∀ r, bRf bt b' j r = bRf μ.1 b' j r := fun r => by
          unfold bRs at e
          repeat' (split at e)
          all_goals first | (cases e; done) | skip
          all_goals
            cases e
            refine bRf_cg _ _ _ (fun e1 e2 => ?_) (fun e1 e2 => ?_) (fun e1 e2 => ?_) <;> first | rfl | exact absurd ⟨e1, e2⟩ q
        cases hF : bF b' j with
        | int x => rfl
        | long x => rfl
        | ref r => show Value.ref _ = Value.ref _; rw [this]
        | _ => rfl
  funext b' j
  rw [aUp_at]
  show _ = bVs (bt, μ.2) b' j aS[b']?
  by_cases q1 : b' = a
  · rw [if_pos q1]
    by_cases q2 : j = k
    · rw [if_pos q2, (key b' j).1 ⟨q1, q2⟩]
    · rw [if_neg q2, (key b' j).2 (fun n => q2 n.2)]
      rfl
  · rw [if_neg q1, (key b' j).2 (fun n => q1 n.1)]
    rfl
theorem bPf_inv {μ : bMm} {a k kd cj : Nat} {v : bV} {κ : bMm → Prop} (hs : aS[a]? = some (.inl cj)) (h : bPf μ a k kd v κ) : ∃ μ', aOk kd (bVal v) = true ∧ aUp (bσ μ) a k (bVal v) = bσ μ' ∧ κ μ' := by
  have hi : ∀ z x, bZ v = some z → bF a k = .int x → aUp (bσ μ) a k (bVal v) = bσ (bUp μ a k z) := fun z x hz hf => by
    have hu := bUp_obj (μ := μ) (k := k) (z := z) hs (aS_obj hs).1 (aS_obj hs).2
    rw [hf] at hu
    have e : bVo (bUp μ a k z) a k (.int x) = bVal v := by
      rw [bZ_val hz]
      show Value.int (Int32.ofInt (up μ.2 a k z a k)) = _
      rw [up_eq]
    rw [e] at hu
    exact hu
  unfold bPf at h
  split at h
  · split at h
    · rename_i z hz
      split at h
      · rename_i x hf
        exact ⟨_, by rw [bZ_val hz]; rfl, hi z x hz hf, h⟩
      · cases h
    · cases h
  · split at h
    · rename_i z hz
      split at h
      · rename_i x hf
        have hz2 : (z = 0 ∨ z = 1) ∧ κ (bUp μ a k z) := by
          split at h
          · split at h
            · rename_i e
              exact ⟨of_decide_eq_true e, h⟩
            · cases h
          · exact h
        refine ⟨_, ?_, hi z x hz hf, hz2.2⟩
        rw [bZ_val hz]
        rcases hz2.1 with rfl | rfl <;> rfl
      · cases h
    · cases h
  · split at h
    · rename_i z hz
      split at h
      · rename_i x hf
        have hu := bUp_obj (μ := μ) (k := k) (z := z) hs (aS_obj hs).1 (aS_obj hs).2
        rw [hf] at hu
        have e : bVo (bUp μ a k z) a k (.long x) = bVal v := by
          rw [bL_val hz]
          show Value.long (Int64.ofInt (up μ.2 a k z a k)) = _
          rw [up_eq]
        rw [e] at hu
        exact ⟨_, by rw [bL_val hz]; rfl, hu, h⟩
      · cases h
    · cases h
  · split at h
    · rename_i b
      split at h
      · rename_i bt e
        exact ⟨_, rfl, bRs_ok hs e, h⟩
      · cases h
    · cases h
  · cases h
section WV
variable {xs : List Int32} {d : Nat} {M : aM} {pc : Nat} {lv st : List bV} {μ : bMm} {Q : bPo} {nx : Nat → List bV → List bV → bMm → Prop} {ins : Instr} {ln : Nat} {cl : Nat → List bV → bMm → (bV → bMm → Prop) → Prop} {rt : bV → bMm → Prop} {nin : Option (Instr × Nat)}
set_option maxHeartbeats 4000000 in
theorem wI_sound (hco : aFd (aCo M) pc = some (ins, ln)) (hnin : nin = aFd (aCo M) (pc + 1)) (hnx : ∀ pc' lv' st' μ', nx pc' lv' st' μ' → bGo xs d M pc' lv' st' μ' Q)
    (hcl : ∀ K as r, aStep (bX xs) aS M pc (lv.map bVal) (st.map bVal) (bσ μ) = some (.inr (.inr (K, as.map bVal, (pc + 3, lv.map bVal, r.map bVal, bσ μ)))) → cl K as μ (fun v μ'' => nx (pc + 3) lv (bPush K v r) μ'') → bGo xs d M pc lv st μ Q)
    (hrt : ∀ v z, bZ v = some z → rt v μ → Q z μ) (h : wI xs M nx cl rt pc ins nin lv st μ) : bGo xs d M pc lv st μ Q := by
  have stp : ∀ (z : aC), aIns (bX xs) aS M pc ins (lv.map bVal) (st.map bVal) (bσ μ) = some (.inl z) → aStep (bX xs) aS M pc (lv.map bVal) (st.map bVal) (bσ μ) = some (.inl z) := fun z e => (aStep_of hco ..).trans e
  cases ins
  case iconst n => exact wN hco hnx (lv' := lv) (st' := vc n :: st) (μ' := μ) rfl h
  case bipush n =>
    simp only [wI] at h
    split at h
    · rename_i e
      refine wN hco hnx (lv' := lv) (st' := vc n :: st) (μ' := μ) ?_ h
      show some (Sum.inl (pc + 2, _, Value.int (Int8.ofInt n).toInt32 :: _, _)) = _
      rw [i8_of (of_decide_eq_true e)]
      rfl
    · cases h
  case sipush n =>
    simp only [wI] at h
    split at h
    · rename_i e
      refine wN hco hnx (lv' := lv) (st' := vc n :: st) (μ' := μ) ?_ h
      show some (Sum.inl (pc + 3, _, Value.int (Int16.ofInt n).toInt32 :: _, _)) = _
      rw [i16_of (of_decide_eq_true e)]
      rfl
    · cases h
  case lconst n =>
    refine wN hco hnx (lv' := lv) (st' := vk ((n : Nat) : Int) :: st) (μ' := μ) ?_ h
    show some (Sum.inl (pc + 1, _, Value.long (Int64.ofNat (n : Nat)) :: _, _)) = some (Sum.inl (pc + 1, _, Value.long (Int64.ofInt ((n : Nat) : Int)) :: _, _))
    rw [Int64.ofInt_eq_ofNat]
  case ldc i =>
    simp only [wI] at h
    split at h
    · rename_i v w e
      refine wN hco hnx (lv' := lv) (st' := vc v.toInt :: st) (μ' := μ) ?_ h
      simp only [aIns, e]
      show some (Sum.inl (pc + 2, _, Value.int v :: _, _)) = some (Sum.inl (pc + 2, _, Value.int (Int32.ofInt v.toInt) :: _, _))
      rw [Int32.ofInt_toInt]
    · rename_i v w e
      split at h
      · rename_i e2
        refine wN hco hnx (lv' := lv) (st' := .inr (.inl v) :: st) (μ' := μ) ?_ h
        simp only [aIns, e, aGd, e2]
        rfl
      · cases h
    · cases h
  case ldc_w i =>
    simp only [wI] at h
    split at h
    · rename_i v w e
      refine wN hco hnx (lv' := lv) (st' := vc v.toInt :: st) (μ' := μ) ?_ h
      simp only [aIns, e]
      show some (Sum.inl (pc + 3, _, Value.int v :: _, _)) = some (Sum.inl (pc + 3, _, Value.int (Int32.ofInt v.toInt) :: _, _))
      rw [Int32.ofInt_toInt]
    · rename_i v w e
      split at h
      · rename_i e2
        refine wN hco hnx (lv' := lv) (st' := .inr (.inl v) :: st) (μ' := μ) ?_ h
        simp only [aIns, e, aGd, e2]
        rfl
      · cases h
    · cases h
  case ldc2_w i =>
    simp only [wI] at h
    split at h
    · rename_i v w e
      refine wN hco hnx (lv' := lv) (st' := vk v.toInt :: st) (μ' := μ) ?_ h
      simp only [aIns, e]
      show some (Sum.inl (pc + 3, _, Value.long v :: _, _)) = some (Sum.inl (pc + 3, _, Value.long (Int64.ofInt v.toInt) :: _, _))
      rw [Int64.ofInt_toInt]
    · cases h
  case getstatic i =>
    simp only [wI] at h
    split at h
    · rename_i v w e
      split at h
      · rename_i e2
        refine wN hco hnx (lv' := lv) (st' := .inr (.inl v) :: st) (μ' := μ) ?_ h
        simp only [aIns, e, aGd, e2]
        rfl
      · cases h
    · cases h
  case iload_n k => exact wN_ldi hco hnx (fun _ _ _ => rfl) h
  case iload k => exact wN_ldi hco hnx (fun _ _ _ => rfl) h
  case lload_n k => exact wN_ldl hco hnx (fun _ _ _ => rfl) h
  case lload k => exact wN_ldl hco hnx (fun _ _ _ => rfl) h
  case aload_n k => exact wN_ldr hco hnx (fun _ _ _ => rfl) h
  case aload k => exact wN_ldr hco hnx (fun _ _ _ => rfl) h
  case istore_n k => exact wN_sti hco hnx (fun _ _ _ => rfl) h
  case istore k => exact wN_sti hco hnx (fun _ _ _ => rfl) h
  case lstore_n k =>
    simp only [wI] at h
    split at h
    · split at h
      · rename_i z hz
        exact wN_stl hco hnx (fun _ _ _ => rfl) hz h
      · cases h
    · cases h
  case lstore k =>
    simp only [wI] at h
    split at h
    · split at h
      · rename_i z hz
        exact wN_stl hco hnx (fun _ _ _ => rfl) hz h
      · cases h
    · cases h
  case astore_n k =>
    simp only [wI] at h
    split at h
    · split at h
      · rename_i hz
        exact wN_str hco hnx (fun _ _ _ => rfl) hz h
      · cases h
    · cases h
  case astore k =>
    simp only [wI] at h
    split at h
    · split at h
      · rename_i hz
        exact wN_str hco hnx (fun _ _ _ => rfl) hz h
      · cases h
    · cases h
  case iinc i n =>
    simp only [wI] at h
    split at h
    · rename_i v hv
      split at h
      · rename_i x hz
        obtain ⟨hb, hk⟩ := wP1_inv h
        refine wN hco hnx (lv' := lv.set i (.inl (x + n))) (st' := st) (μ' := μ) ?_ hk
        rw [← bPut1 hb]
        simp only [aIns, bAt, hv, Option.map_some, bZ_val hz]
        show aPut1 _ _ _ (.int (Int32.ofInt x + Int32.ofInt n)) _ _ = aPut1 _ _ _ (.int (Int32.ofInt (x + n))) _ _
        rw [Int32.ofInt_add]
      · cases h
    · cases h
  case iadd => exact wN_II hco hnx (fun _ _ _ => rfl) (fun x y => by rw [Int32.ofInt_add]) h
  case isub => exact wN_II hco hnx (fun _ _ _ => rfl) (fun x y => by rw [Int32.ofInt_sub]) h
  case imul => exact wN_II hco hnx (fun _ _ _ => rfl) (fun x y => by rw [Int32.ofInt_mul]) h
  case iand => exact wN_II hco hnx (fun _ _ _ => rfl) (fun x y => by rw [bAnd, Int32.ofInt_toInt]) h
  case ior => exact wN_II hco hnx (fun _ _ _ => rfl) (fun x y => by rw [bOrr, Int32.ofInt_toInt]) h
  case ixor => exact wN_II hco hnx (fun _ _ _ => rfl) (fun x y => by rw [bXor, Int32.ofInt_toInt]) h
  case ishl => exact wN_II hco hnx (fun _ _ _ => rfl) (fun x y => by rw [bShl, Int32.ofInt_toInt]) h
  case ishr => exact wN_II hco hnx (fun _ _ _ => rfl) (fun x y => by rw [bShr, Int32.ofInt_toInt]) h
  case iushr => exact wN_II hco hnx (fun _ _ _ => rfl) (fun x y => by rw [bUsh, Int32.ofInt_toInt]) h
  case idiv =>
    obtain ⟨u, v, x, y, r, rfl, hy, hx, h⟩ := wII_inv h
    obtain ⟨rx, h⟩ := wR_inv h
    obtain ⟨⟨ry, y0⟩, h⟩ := wDv_inv h
    refine wN hco hnx (lv' := lv) (st' := .inl (x.tdiv y) :: r) (μ' := μ) ?_ h
    simp only [aIns, aIID, List.map_cons, bZ_val hy, bZ_val hx]
    rw [if_neg (i32_ne0 ry y0), ← Int32.ofInt_tdiv rx.1 rx.2 ry.1 ry.2]
    rfl
  case irem =>
    obtain ⟨u, v, x, y, r, rfl, hy, hx, h⟩ := wII_inv h
    obtain ⟨rx, h⟩ := wR_inv h
    obtain ⟨⟨ry, y0⟩, h⟩ := wDv_inv h
    refine wN hco hnx (lv' := lv) (st' := .inl (x.tmod y) :: r) (μ' := μ) ?_ h
    simp only [aIns, aIID, List.map_cons, bZ_val hy, bZ_val hx]
    rw [if_neg (i32_ne0 ry y0), ← tmod_32 rx ry]
    rfl
  case ladd => exact wN_LL hco hnx (fun _ _ _ => rfl) (fun x y => by rw [Int64.ofInt_add]) h
  case lsub => exact wN_LL hco hnx (fun _ _ _ => rfl) (fun x y => by rw [Int64.ofInt_sub]) h
  case lmul => exact wN_LL hco hnx (fun _ _ _ => rfl) (fun x y => by rw [Int64.ofInt_mul]) h
  case land => exact wN_LL hco hnx (fun _ _ _ => rfl) (fun x y => by rw [lAnd, Int64.ofInt_toInt]) h
  case lor => exact wN_LL hco hnx (fun _ _ _ => rfl) (fun x y => by rw [lOrr, Int64.ofInt_toInt]) h
  case ldiv =>
    obtain ⟨u, v, x, y, r, rfl, hy, hx, h⟩ := wLL_inv h
    obtain ⟨rx, h⟩ := wRL_inv h
    obtain ⟨⟨ry, y0⟩, h⟩ := wDvL_inv h
    refine wN hco hnx (lv' := lv) (st' := .inr (.inr (.inl (x.tdiv y))) :: r) (μ' := μ) ?_ h
    simp only [aIns, aLLD, List.map_cons, bL_val hy, bL_val hx]
    rw [if_neg (i64_ne0 ry y0), ← Int64.ofInt_tdiv rx.1 rx.2 ry.1 ry.2]
    rfl
  case lrem =>
    obtain ⟨u, v, x, y, r, rfl, hy, hx, h⟩ := wLL_inv h
    obtain ⟨rx, h⟩ := wRL_inv h
    obtain ⟨⟨ry, y0⟩, h⟩ := wDvL_inv h
    refine wN hco hnx (lv' := lv) (st' := .inr (.inr (.inl (x.tmod y))) :: r) (μ' := μ) ?_ h
    simp only [aIns, aLLD, List.map_cons, bL_val hy, bL_val hx]
    rw [if_neg (i64_ne0 ry y0), ← tmod_64 rx ry]
    rfl
  case lshl => exact wN_LI hco hnx (fun _ _ _ => rfl) (fun x y => by rw [lShl, Int64.ofInt_toInt]) h
  case lushr => exact wN_LI hco hnx (fun _ _ _ => rfl) (fun x y => by rw [lUsh, Int64.ofInt_toInt]) h
  case lcmp =>
    obtain ⟨u, v, x, y, r, rfl, hy, hx, h⟩ := wLL_inv h
    split at h
    · rename_i c off l2 hn
      obtain ⟨t, et, h⟩ := wJ_inv h
      obtain ⟨rx, h⟩ := wRL_inv h
      obtain ⟨ry, h⟩ := wRL_inv h
      obtain ⟨hA, hB⟩ := wCm_inv h
      have hco2 : aFd (aCo M) (pc + 1) = some (.ifCond c off, l2) := hnin.symm
      have rz : inR (if x > y then 1 else if x = y then 0 else -1) := by
        split
        · decide
        · split <;> decide
      refine bGo_step (pc' := pc + 1) (lv' := lv) (st' := .inl (if x > y then 1 else if x = y then 0 else -1) :: r) (μ' := μ) (stp _ ?_) ?_
      · simp only [aIns, aLL, List.map_cons, bL_val hy, bL_val hx]
        rw [lg_cmp_of rx ry]
        rfl
      · obtain ⟨i1, i2⟩ := aIfc (c := c) (X := bX xs) (S := aS) (M := M) (lv := lv.map bVal) (r := r.map bVal) (σ := bσ μ) rz et
        rw [cP_cmp] at i1 i2
        by_cases q : cP c x y
        · exact bGo_step (pc' := t) (lv' := lv) (st' := r) (μ' := μ) ((aStep_of hco2 ..).trans (i1 q)) (hnx _ _ _ _ (hA q))
        · exact bGo_step (pc' := pc + 4) (lv' := lv) (st' := r) (μ' := μ) ((aStep_of hco2 ..).trans (i2 q)) (hnx _ _ _ _ (hB q))
    · cases h
  case i2l =>
    obtain ⟨v, x, r, rfl, hz, h⟩ := wI1_inv h
    split at h
    · split at h
      · rename_i e
        have rx := of_decide_eq_true e
        refine wN hco hnx (lv' := lv) (st' := vk x :: r) (μ' := μ) ?_ h
        simp only [aIns, aI1, List.map_cons, bZ_val hz]
        rw [Int32.toInt64_ofInt rx.1 rx.2]
        rfl
      · cases h
    · obtain ⟨rx, h⟩ := h
      refine wN hco hnx (lv' := lv) (st' := .inr (.inr (.inl x)) :: r) (μ' := μ) ?_ h
      simp only [aIns, aI1, List.map_cons, bZ_val hz]
      rw [Int32.toInt64_ofInt rx.1 rx.2]
      rfl
  case i2b =>
    obtain ⟨v, x, r, rfl, hz, h⟩ := wI1_inv h
    refine wN hco hnx (lv' := lv) (st' := .inl (bByt x) :: r) (μ' := μ) ?_ h
    simp only [aIns, aI1, List.map_cons, bZ_val hz]
    show _ = some (Sum.inl (pc + 1, _, Value.int (Int32.ofInt (bByt x)) :: _, _))
    rw [bByt, Int32.ofInt_toInt]
    rfl
  case l2i =>
    simp only [wI] at h
    split at h
    · rename_i v r
      split at h
      · rename_i x hz
        refine wN hco hnx (lv' := lv) (st' := .inl x :: r) (μ' := μ) ?_ h
        simp only [aIns, aL1, List.map_cons, bL_val hz]
        rw [Int64.toInt32_ofInt]
        rfl
      · cases h
    · cases h
  case pop =>
    simp only [wI] at h
    split at h
    · rename_i v r
      split at h
      · rename_i hc
        refine wN hco hnx (lv' := lv) (st' := r) (μ' := μ) ?_ h
        simp only [aIns, List.map_cons, bCt_val, hc]
        rfl
      · cases h
    · cases h
  case dup =>
    simp only [wI] at h
    split at h
    · rename_i v r
      split at h
      · rename_i hc
        refine wN hco hnx (lv' := lv) (st' := v :: v :: r) (μ' := μ) ?_ h
        simp only [aIns, List.map_cons, bCt_val, hc]
        rfl
      · cases h
    · cases h
  case dup2 =>
    simp only [wI] at h
    split at h
    · rename_i v u r
      split at h
      · rename_i hc
        refine wN hco hnx (lv' := lv) (st' := v :: u :: v :: u :: r) (μ' := μ) ?_ h
        simp only [aIns, List.map_cons, bCt_val, hc]
        rfl
      · cases h
    · cases h
  case ifCond c off =>
    obtain ⟨v, x, r, rfl, hz, h⟩ := wI1_inv h
    obtain ⟨t, et, h⟩ := wJ_inv h
    obtain ⟨rx, h⟩ := wR_inv h
    obtain ⟨hA, hB⟩ := wIf_inv h
    obtain ⟨i1, i2⟩ := aIfc (c := c) (X := bX xs) (S := aS) (M := M) (lv := lv.map bVal) (r := r.map bVal) (σ := bσ μ) rx et
    by_cases q : cP c x 0
    · refine wN hco hnx (lv' := lv) (st' := r) (μ' := μ) ?_ (hA q)
      rw [List.map_cons, bZ_val hz]
      exact i1 q
    · refine wN hco hnx (lv' := lv) (st' := r) (μ' := μ) ?_ (hB q)
      rw [List.map_cons, bZ_val hz]
      exact i2 q
  case if_icmp c off =>
    obtain ⟨u, v, x, y, r, rfl, hy, hx, h⟩ := wII_inv h
    obtain ⟨t, et, h⟩ := wJ_inv h
    obtain ⟨rx, h⟩ := wR_inv h
    obtain ⟨ry, h⟩ := wR_inv h
    obtain ⟨hA, hB⟩ := wCm_inv h
    obtain ⟨i1, i2⟩ := aIcc (c := c) (X := bX xs) (S := aS) (M := M) (lv := lv.map bVal) (r := r.map bVal) (σ := bσ μ) rx ry et
    by_cases q : cP c x y
    · refine wN hco hnx (lv' := lv) (st' := r) (μ' := μ) ?_ (hA q)
      rw [List.map_cons, List.map_cons, bZ_val hy, bZ_val hx]
      exact i1 q
    · refine wN hco hnx (lv' := lv) (st' := r) (μ' := μ) ?_ (hB q)
      rw [List.map_cons, List.map_cons, bZ_val hy, bZ_val hx]
      exact i2 q
  case goto off =>
    obtain ⟨t, et, h⟩ := wJ_inv h
    refine wN hco hnx (lv' := lv) (st' := st) (μ' := μ) ?_ h
    exact aJp_of et ..
  case tableswitch dflt lo hi offs =>
    obtain ⟨v, x, r, rfl, hz, h⟩ := wI1_inv h
    split at h
    case h_2 => cases h
    rename_i hsz
    have hsz := of_decide_eq_true hsz
    obtain ⟨rx, hD, hT⟩ := h
    by_cases q : x < lo ∨ hi < x
    · obtain ⟨t, et, h⟩ := wJ_inv (hD q)
      refine wN hco hnx (lv' := lv) (st' := r) (μ' := μ) ?_ h
      simp only [aIns, List.map_cons, bZ_val hz]
      rw [i32_of rx, if_pos q]
      exact aJp_of et ..
    · have q1 : ¬ x < lo := fun n => q (Or.inl n)
      cases ho : offs[(x - lo).toNat]? with
      | some off =>
        obtain ⟨t, et, h⟩ := wSwT_inv offs.toList lo hT (x - lo).toNat off (by rw [Array.getElem?_toList]; exact ho) (by omega)
        refine wN hco hnx (lv' := lv) (st' := r) (μ' := μ) ?_ h
        simp only [aIns, List.map_cons, bZ_val hz]
        rw [i32_of rx, if_neg q, ho]
        exact aJp_of et ..
      | none =>
        rw [Array.getElem?_eq_none_iff] at ho
        omega
  case lookupswitch dflt ps =>
    obtain ⟨v, x, r, rfl, hz, h⟩ := wI1_inv h
    split at h
    · rename_i e
      obtain ⟨rx, h⟩ := h
      obtain ⟨t, et, h⟩ := wSwL_inv ps.toList h
      refine wN hco hnx (lv' := lv) (st' := r) (μ' := μ) ?_ h
      simp only [aIns, List.map_cons, bZ_val hz]
      rw [i32_of rx, if_pos e]
      exact aJp_of et ..
    · cases h
  case iaload =>
    obtain ⟨iv, i, r0, rfl, hz, h⟩ := wI1_inv h
    split at h
    · rename_i v r _
      obtain ⟨a, z, ea, hk, hl⟩ := wLd_inv h
      refine wN hco hnx (lv' := lv) (st' := .inl z :: r) (μ' := μ) ?_ hk
      simp only [aIns, List.map_cons, bZ_val hz, ea]
      rw [aIld_of hl]
      rfl
    · cases h
  case baload =>
    obtain ⟨iv, i, r0, rfl, hz, h⟩ := wI1_inv h
    split at h
    · rename_i a r _
      obtain ⟨a', z, ea, hk, hl⟩ := wLd_inv h
      cases ea
      rcases hl with ⟨t, n, hs, ht, hi, hv, -⟩ | ⟨-, ht, -⟩
      · refine wN hco hnx (lv' := lv) (st' := .inl z :: r) (μ' := μ) ?_ hk
        have ht2 : t = 1 ∨ t = 2 := by
          rw [Bool.or_eq_true] at ht
          exact ht.imp Nat.eq_of_beq_eq_true Nat.eq_of_beq_eq_true
        have hp : bIp t = true := by rcases ht2 with rfl | rfl <;> rfl
        simp only [aIns, List.map_cons, bZ_val hz]
        show (match aS[a]? with
          | some (.inr (t, n)) => if (t = 1 ∨ t = 2) ∧ ¬ (Int32.ofInt i < 0 ∨ n ≤ (Int32.ofInt i).toNatClampNeg) then aGo (pc + 1) (lv.map bVal) (Value.int (aI (bσ μ a (Int32.ofInt i).toNatClampNeg)) :: r.map bVal) (bσ μ) else none
          | _ => none) = _
        rw [hs]
        simp only
        rw [if_pos ⟨ht2, i32_ix hi.1 hi.2 (aS_len hs)⟩, (i32_nat hi.1 hi.2 (aS_len hs)).1, hv hp]
        rfl
      · cases ht
    · cases h
  case laload =>
    obtain ⟨iv, i, r0, rfl, hz, h⟩ := wI1_inv h
    split at h
    · rename_i a r _
      obtain ⟨a', z, ea, hk, hl⟩ := wLd_inv h
      cases ea
      rcases hl with ⟨t, n, hs, ht, hi, -, hv⟩ | ⟨-, ht, -⟩
      · refine wN hco hnx (lv' := lv) (st' := .inr (.inr (.inl z)) :: r) (μ' := μ) ?_ hk
        have ht2 : t = 3 := Nat.eq_of_beq_eq_true ht
        simp only [aIns, List.map_cons, bZ_val hz]
        show (match aS[a]? with
          | some (.inr (t, n)) => if t = 3 ∧ ¬ (Int32.ofInt i < 0 ∨ n ≤ (Int32.ofInt i).toNatClampNeg) then aGo (pc + 1) (lv.map bVal) (Value.long (aJ (bσ μ a (Int32.ofInt i).toNatClampNeg)) :: r.map bVal) (bσ μ) else none
          | _ => none) = _
        rw [hs]
        simp only
        rw [if_pos ⟨ht2, i32_ix hi.1 hi.2 (aS_len hs)⟩, (i32_nat hi.1 hi.2 (aS_len hs)).1, hv ht2]
        rfl
      · cases ht
    · cases h
  case aaload =>
    obtain ⟨iv, i, r0, rfl, hz, h⟩ := wI1_inv h
    split at h
    · rename_i a r _
      split at h
      · rename_i hb
        split at h
        · rename_i t n hs
          obtain ⟨hi, h⟩ := wIx_inv h
          refine wN hco hnx (lv' := lv) (st' := vw a i :: r) (μ' := μ) ?_ h
          obtain ⟨u, w, hs2⟩ : ∃ u w, aS[a + 1]? = some (.inr (u, w)) := by
            rcases bOut_cases hb with rfl | rfl | rfl | rfl
            · exact ⟨0, 240, rfl⟩
            · exact ⟨0, 160, rfl⟩
            · exact ⟨0, 12, rfl⟩
            · exact ⟨0, 67, rfl⟩
          obtain ⟨rfl, rfl, hw, hR⟩ := bRows hb hs hs2
          obtain ⟨e1, e2, e3, e4⟩ := hR i.toNat (by omega)
          simp only [aIns, List.map_cons, bZ_val hz]
          show (match aS[a]? with
            | some (.inr (t, n)) => if t = 4 ∧ ¬ (Int32.ofInt i < 0 ∨ n ≤ (Int32.ofInt i).toNatClampNeg) then (match bσ μ a (Int32.ofInt i).toNatClampNeg with
              | .ref b => aGo (pc + 1) (lv.map bVal) (Value.ref b :: r.map bVal) (bσ μ)
              | _ => none) else none
            | _ => none) = _
          rw [hs]
          simp only
          rw [if_pos ⟨trivial, i32_ix hi.1 hi.2 (aS_len hs)⟩, (i32_nat hi.1 hi.2 (aS_len hs)).1, bσ_arr hs (by omega)]
          show (match aI0 a i.toNat with
              | .ref b => aGo (pc + 1) (lv.map bVal) (Value.ref b :: r.map bVal) (bσ μ)
              | _ => none) = _
          rw [e4]
          rfl
        · cases h
      · cases h
    · cases h
  case iastore =>
    simp only [wI] at h
    split at h
    · rename_i xv iv v r
      split at h
      · rename_i x hx
        split at h
        · rename_i i hi
          obtain ⟨a, t, n, μ', ea, hk, hs, ht, hix, hu, -⟩ := wSt_inv (fun t ht => by intro e; subst e; cases ht) h
          have ht := Nat.eq_of_beq_eq_true ht
          subst ht
          refine wN hco hnx (lv' := lv) (st' := r) (μ' := μ') ?_ hk
          simp only [aIns, List.map_cons, bZ_val hx, bZ_val hi, ea, hs]
          rw [if_pos ⟨trivial, i32_ix hix.1 hix.2 (aS_len hs)⟩, (i32_nat hix.1 hix.2 (aS_len hs)).1, hu rfl]
          rfl
        · cases h
      · cases h
    · cases h
  case bastore =>
    simp only [wI] at h
    split at h
    · rename_i xv iv a r
      split at h
      · rename_i x hx
        split at h
        · rename_i i hi
          obtain ⟨a', t, n, μ', ea, hk, hs, ht, hix, hu, -⟩ := wSt_inv (fun t ht => by intro e; subst e; cases ht) h
          cases ea
          have ht2 : t = 1 ∨ t = 2 := by
            rw [Bool.or_eq_true] at ht
            exact ht.imp Nat.eq_of_beq_eq_true Nat.eq_of_beq_eq_true
          have hp : bIp t = true := by rcases ht2 with rfl | rfl <;> rfl
          refine wN hco hnx (lv' := lv) (st' := r) (μ' := μ') ?_ hk
          have hu := hu hp
          rw [bNar, Int32.ofInt_toInt] at hu
          simp only [aIns, List.map_cons, bZ_val hx, bZ_val hi]
          show (match aS[a]? with
            | some (.inr (t, n)) => if (t = 1 ∨ t = 2) ∧ ¬ (Int32.ofInt i < 0 ∨ n ≤ (Int32.ofInt i).toNatClampNeg) then aGo (pc + 1) (lv.map bVal) (r.map bVal) (aUp (bσ μ) a (Int32.ofInt i).toNatClampNeg (.int (vp_nar (if t = 1 then .byte else .boolean) (Int32.ofInt x)))) else none
            | _ => none) = _
          rw [hs]
          simp only
          rw [if_pos ⟨ht2, i32_ix hix.1 hix.2 (aS_len hs)⟩, (i32_nat hix.1 hix.2 (aS_len hs)).1, hu]
          rfl
        · cases h
      · cases h
    · cases h
  case lastore =>
    simp only [wI] at h
    split at h
    · rename_i xv iv a r
      split at h
      · rename_i x hx
        split at h
        · rename_i i hi
          obtain ⟨a', t, n, μ', ea, hk, hs, ht, hix, -, hu⟩ := wSt_inv (fun t ht => by intro e; subst e; cases ht) h
          cases ea
          have ht2 : t = 3 := Nat.eq_of_beq_eq_true ht
          refine wN hco hnx (lv' := lv) (st' := r) (μ' := μ') ?_ hk
          simp only [aIns, List.map_cons, bL_val hx, bZ_val hi]
          show (match aS[a]? with
            | some (.inr (t, n)) => if t = 3 ∧ ¬ (Int32.ofInt i < 0 ∨ n ≤ (Int32.ofInt i).toNatClampNeg) then aGo (pc + 1) (lv.map bVal) (r.map bVal) (aUp (bσ μ) a (Int32.ofInt i).toNatClampNeg (.long (Int64.ofInt x))) else none
            | _ => none) = _
          rw [hs]
          simp only
          rw [if_pos ⟨ht2, i32_ix hix.1 hix.2 (aS_len hs)⟩, (i32_nat hix.1 hix.2 (aS_len hs)).1, hu ht2]
          rfl
        · cases h
      · cases h
    · cases h
  case arraylength =>
    simp only [wI] at h
    split at h
    · rename_i v r
      obtain ⟨a, z, ea, hk, hl⟩ := wLn_inv h
      refine wN hco hnx (lv' := lv) (st' := .inl z :: r) (μ' := μ) ?_ hk
      simp only [aIns, List.map_cons, ea, hl]
      rfl
    · cases h
  case getfield i =>
    simp only [wI] at h
    split at h
    · rename_i a r
      split at h
      · rename_i ci k kd w hf
        split at h
        · rename_i cj hs
          split at h
          · rename_i hb
            obtain ⟨v, hv, hk⟩ := bFl_inv h
            refine wN hco hnx (lv' := lv) (st' := v :: r) (μ' := μ) ?_ hk
            simp only [aIns, List.map_cons, hf]
            show (match aS[a]? with
              | some (.inl cj) => (match Nat.beq ci cj with
                | true => aGo (pc + 3) (lv.map bVal) (bσ μ a k :: r.map bVal) (bσ μ)
                | false => none)
              | _ => none) = _
            rw [hs]
            simp only
            rw [hb, bσ_obj hs, hv]
            rfl
          · cases h
        · cases h
      · cases h
    · cases h
  case putfield i =>
    simp only [wI] at h
    split at h
    · rename_i v a r
      split at h
      · rename_i ci k kd w hf
        split at h
        · rename_i cj hs
          split at h
          · rename_i hb
            obtain ⟨μ', ho, hu, hk⟩ := bPf_inv hs h
            refine wN hco hnx (lv' := lv) (st' := r) (μ' := μ') ?_ hk
            simp only [aIns, List.map_cons, hf]
            show (match aS[a]? with
              | some (.inl cj) => (match Nat.beq ci cj && aOk kd (bVal v) with
                | true => aGo (pc + 3) (lv.map bVal) (r.map bVal) (aUp (bσ μ) a k (bVal v))
                | false => none)
              | _ => none) = _
            rw [hs]
            simp only
            rw [hb, ho, hu]
            rfl
          · cases h
        · cases h
      · cases h
    · cases h
  case invokestatic i =>
    simp only [wI] at h
    split at h
    · rename_i kd K n w hf
      split at h
      · rename_i hb
        refine wPr_sound (pc := pc) (lv := lv) (fun st' μ' k => hnx _ _ _ _ k) ?_ h
        rw [aStep_of hco]
        simp only [aIns, hf, hb]
      · rename_i hb
        split at h
        · rename_i as r htk
          split at h
          · rename_i hc
            refine hcl K as r ?_ h
            rw [aStep_of hco]
            have ht := bTk_val n [] st as r htk
            simp only [aIns, hf, hb]
            rw [show ([] : List Value) = ([] : List bV).map bVal from rfl, ht]
            simp only [bCat_val, hc]
          · cases h
        · cases h
    · cases h
  case invokevirtual i =>
    simp only [wI] at h
    split at h
    · rename_i kd K n w hf
      split at h
      · rename_i as a r htk
        split at h
        · rename_i ci hs
          split at h
          · rename_i hc
            refine hcl K (.inr (.inl a) :: as) r ?_ h
            rw [aStep_of hco]
            have ht := bTk_val n [] st as _ htk
            simp only [aIns, hf]
            rw [show ([] : List Value) = ([] : List bV).map bVal from rfl, ht]
            simp only [List.map_cons]
            show (match aS[a]? with
              | some (.inl ci) => (match Nat.beq kd (ci + 2) && Nat.ble (aCat (r.map bVal)) 8 with
                | true => some (Sum.inr (Sum.inr (K, Value.ref a :: as.map bVal, (pc + 3, lv.map bVal, r.map bVal, bσ μ))))
                | false => none)
              | _ => none) = _
            rw [hs]
            simp only [bCat_val, hc]
            rfl
          · cases h
        · cases h
      · cases h
    · cases h
  case ireturn =>
    simp only [wI] at h
    split at h
    · rename_i v
      split at h
      · rename_i x hz
        have hR : ∀ t, aRt M = some t → bRes M (some (.int (Int32.ofInt x))) x := fun t e => by unfold bRes; rw [e]
        split at h
        · rename_i ht
          refine bGo_ret (v := some (.int (Int32.ofInt x))) (z := x) ?_ (hR _ ht) (hrt v x hz h)
          rw [aStep_of hco]
          simp only [aIns, List.map_cons, List.map_nil, bZ_val hz, ht]
        · rename_i ht
          have hx : (x = 0 ∨ x = 1) ∧ rt v μ := by
            split at h
            · split at h
              · rename_i e
                exact ⟨of_decide_eq_true e, h⟩
              · cases h
            · exact h
          refine bGo_ret (v := some (.int (Int32.ofInt x))) (z := x) ?_ (hR _ ht) (hrt v x hz hx.2)
          rw [aStep_of hco]
          simp only [aIns, List.map_cons, List.map_nil, bZ_val hz, ht]
          rw [if_pos (by rcases hx.1 with rfl | rfl <;> first | exact Or.inl rfl | exact Or.inr rfl)]
        · cases h
      · cases h
    · cases h
  case return_ =>
    simp only [wI] at h
    split at h
    · split at h
      · rename_i ht
        refine bGo_ret (v := none) (z := 0) ?_ (by unfold bRes; rw [ht]) (hrt (vc 0) 0 rfl h)
        rw [aStep_of hco]
        simp only [aIns, List.map_nil, ht]
      · cases h
    · cases h
  all_goals exact False.elim h
end WV
end
section
/-! THE RULES' SOUNDNESS, 9: a whole stretch -/
theorem bOr_inv {K : Nat} {as : List bV} {κ : bV → Prop} {P : Prop} (h : bOr K as κ = some P) (hp : P) : ∃ v, oOr K (as.map bVal) = some (bVal v) ∧ κ v ∧ (∃ z, bZ v = some z) ∧ (K = 13 ∨ K = 175 ∨ K = 198) := by
  unfold bOr at h
  split at h
  · split at h
    · rename_i s
      cases h
      obtain ⟨hr, hk⟩ := hp
      refine ⟨.inl ((s + 999999) / 1000000), ?_, hk, ⟨_, rfl⟩, Or.inl rfl⟩
      show some (Value.int (Int32.ofInt ((Int32.ofInt s + 999999).toInt / 1000000))) = some (Value.int (Int32.ofInt ((s + 999999) / 1000000)))
      rw [show (999999 : Int32) = Int32.ofInt 999999 from rfl, ← Int32.ofInt_add, i32_of hr]
    · cases h
      cases hp
  · split at h
    · rename_i r c
      split at h
      · rename_i hb
        cases h
        obtain ⟨hr, hk⟩ := hp
        refine ⟨.inl (bAm (oTx r) c), ?_, hk, ⟨_, rfl⟩, Or.inr (Or.inl rfl)⟩
        show (match Nat.ble 2000 r && Nat.ble r 2004 with
          | true => some (Value.int (Int32.ofInt (bAm (oTx r) (Int32.ofInt c).toInt)))
          | false => none) = some (Value.int (Int32.ofInt (bAm (oTx r) c)))
        rw [hb, i32_of hr]
      · cases h
        cases hp
    · cases h
      cases hp
  · split at h
    · rename_i r c
      split at h
      · rename_i hb
        cases h
        obtain ⟨hr, hk⟩ := hp
        refine ⟨.inl (bPl (oTx r) c 0), ?_, hk, ⟨_, rfl⟩, Or.inr (Or.inr rfl)⟩
        show (match Nat.ble 2000 r && Nat.ble r 2004 with
          | true => some (Value.int (Int32.ofInt (bPl (oTx r) (Int32.ofInt c).toInt 0)))
          | false => none) = some (Value.int (Int32.ofInt (bPl (oTx r) c 0)))
        rw [hb, i32_of hr]
      · cases h
        cases hp
    · cases h
      cases hp
  · cases h
theorem bOr_none {K : Nat} {as : List bV} {κ : bV → Prop} (h : bOr K as κ = none) (bs : List Value) : oOr K bs = none := by
  unfold bOr at h
  split at h
  · split at h <;> cases h
  · split at h
    · split at h <;> cases h
    · cases h
  · split at h
    · split at h <;> cases h
    · cases h
  · rename_i h1 h2 h3
    unfold oOr
    split
    · exact absurd rfl h1
    · exact absurd rfl h2
    · exact absurd rfl h3
    · rfl
theorem aRt_orc {K : Nat} {M : aM} (hK : aProg[K]? = some M) (h : K = 13 ∨ K = 175 ∨ K = 198) : ∃ t, aRt M = some t := by
  rcases h with rfl | rfl | rfl
  · cases hK; exact ⟨_, rfl⟩
  · cases hK; exact ⟨_, rfl⟩
  · cases hK; exact ⟨_, rfl⟩
theorem bPush_val {K : Nat} {v : bV} {z : Int} (hz : bZ v = some z) (r : List bV) : (bPush K v r).map bVal = (bPush K (.inl z) r).map bVal := by
  unfold bPush
  split
  · split
    · rfl
    · rw [List.map_cons, List.map_cons, bZ_val hz]
      rfl
  · rfl
theorem bArg_nm (as : List bV) : (bArg (as.map bNm)).length = (bArg as).length := by
  have h1 := bArg_val (as.map bNm)
  have h2 := bArg_val as
  rw [bNm_map, h2] at h1
  have := congrArg List.length h1
  rw [List.length_map, List.length_map] at this
  exact this.symm
theorem bEnt_nm (M : aM) (as : List bV) : (bEnt M (as.map bNm)).map bVal = (bEnt M as).map bVal := by
  rw [← bEnt_val, ← bEnt_val, bNm_map]
theorem wBk_inv {mo : Nat} {bt : Bool × Bool × Bool} {κ : bV → bMm → Prop} {z : Int} {μ : bMm} (h : wBk mo bt κ z μ) : κ (.inl z) μ := by
  unfold wBk at h
  split at h
  · obtain ⟨rfl, h⟩ := h
    exact h
  · obtain ⟨⟨e1, e2⟩, h⟩ := h
    obtain ⟨⟨a, b, c⟩, m⟩ := μ
    simp only at e1 e2
    subst e1
    subst e2
    exact h
  · exact h
theorem bGo_post {xs : List Int32} {d : Nat} {M : aM} {pc : Nat} {lv st : List bV} {μ : bMm} {Q Q' : bPo} (h : bGo xs d M pc lv st μ Q) (hq : ∀ z μ', Q z μ' → Q' z μ') : bGo xs d M pc lv st μ Q' := by
  obtain ⟨f, v, z, μ2, e, hr, hk⟩ := h
  exact ⟨f, v, z, μ2, e, hr, hq _ _ hk⟩
theorem bC_post {xs : List Int32} {rk K : Nat} {as : List bV} {μ : bMm} {Q Q' : bPo} (h : bC xs rk K as μ Q) (hq : ∀ z μ', Q z μ' → Q' z μ') : bC xs rk K as μ Q' := fun M hM d hd => bGo_post (h M hM d hd) hq
theorem wX_go {xs : List Int32} {rk mo : Nat → Nat} {stops : List (Nat × List Bool)} {inl : List Nat} {d r0 : Nat} {Q : bPo} (hd : r0 ≤ d) : ∀ (f : Nat) (M : aM) (j pc : Nat) (lv st : List bV) (μ : bMm) (κ : bV → bMm → Prop) (Qc : bPo), (∀ v z μ', bZ v = some z → κ v μ' → Qc z μ') → (j = 0 → Qc = Q) → j ≤ r0 → wX xs rk mo stops inl d r0 Q f M j pc lv st μ κ → bGo xs (d - j) M pc lv st μ Qc := by
  intro f
  induction f with
  | zero => intro M j pc lv st μ κ Qc _ _ _ h; cases h
  | succ f ih =>
    intro M j pc lv st μ κ Qc hκ hj hjr h
    unfold wX at h
    split at h
    · cases h
    · rename_i q hco
      have hnx : ∀ pc' lv' st' μ', (match j with
        | 0 => match aFd stops pc' with
          | some ks => bGo xs d M pc' ((bMk ks lv').map bNm) (st'.map bNm) μ' Q
          | none => wX xs rk mo stops inl d r0 Q f M 0 pc' lv' st' μ' κ
        | j' + 1 => wX xs rk mo stops inl d r0 Q f M (j' + 1) pc' lv' st' μ' κ) → bGo xs (d - j) M pc' lv' st' μ' Qc := by
        intro pc' lv' st' μ' hn
        cases j with
        | zero =>
          simp only at hn
          split at hn
          · rw [hj rfl]
            exact bGo_hole hn
          · exact ih M 0 pc' lv' st' μ' κ Qc hκ hj hjr hn
        | succ j' => exact ih M (j' + 1) pc' lv' st' μ' κ Qc hκ hj hjr hn
      refine wI_sound hco rfl hnx ?_ (fun v z hz hr => hκ v z μ hz hr) h
      intro K as r hstep hc
      simp only at hc
      have hpush : ∀ (v : bV) (z : Int) (μ'' : bMm), bZ v = some z → bGo xs (d - j) M (pc + 3) lv (bPush K v r) μ'' Qc → bGo xs (d - j) M (pc + 3) lv (bPush K (.inl z) r) μ'' Qc := fun v z μ'' hz hg => bGo_same rfl (bPush_val hz r) hg
      split at hc
      · rename_i P hP
        split at hc
        · rename_i hb
          have hb := Nat.le_of_ble_eq_true hb
          obtain ⟨v, ho, hk, ⟨z, hz⟩, hK3⟩ := bOr_inv hP hc
          rw [bNm_map] at ho
          have hg := hnx _ _ _ _ hk
          obtain ⟨d', hd'⟩ : ∃ d', d - j = d' + 1 := ⟨d - j - 1, by omega⟩
          rw [hd'] at hg ⊢
          refine bGo_orc hstep ho ?_
          have hps : bPush K v r = v :: r := by
            unfold bPush
            split
            · rename_i M' hK
              obtain ⟨t, ht⟩ := aRt_orc hK hK3
              rw [ht]
            · rename_i hK
              rcases hK3 with rfl | rfl | rfl <;> cases hK
          rw [hps] at hg
          exact hg
        · cases hc
      · rename_i hP
        have ho : oOr K (as.map bVal) = none := bOr_none hP _
        split at hc
        · cases hc
        · rename_i M' hK
          split at hc
          · cases hc
          · rename_i hb
            rw [Bool.and_eq_true] at hb
            have hb1 := Nat.le_of_ble_eq_true hb.1
            have hb2 := Nat.le_of_ble_eq_true hb.2
            obtain ⟨d', hd'⟩ : ∃ d', d - j = d' + 1 := ⟨d - j - 1, by omega⟩
            have hdj : d - (j + 1) = d' := by omega
            rw [hd'] at hnx hpush ⊢
            refine bGo_call hstep ho hK hb1 ?_
            split at hc
            · have hg := ih M' (j + 1) 0 (bEnt M' as) [] μ _ (fun z μ' => bGo xs (d' + 1) M (pc + 3) lv (bPush K (.inl z) r) μ' Qc) (fun v z μ' hz hk => hpush v z μ' hz (hnx _ _ _ _ hk)) (fun e => by cases e) hb2 hc
              rw [hdj] at hg
              exact hg
            · split at hc
              · rename_i hr
                have hr := Nat.le_of_ble_eq_true hr
                have hg := hc M' hK d' (by omega)
                exact bGo_post (bGo_same (bEnt_nm M' as) rfl hg) (fun z μ' hk => hnx _ _ _ _ (wBk_inv hk))
              · rw [hdj] at hc
                exact bGo_post (bGo_same (bEnt_nm M' as) rfl hc) (fun z μ' hk => hnx _ _ _ _ (wBk_inv hk))
/-- the rules' soundness -/
theorem wX_sound {xs : List Int32} {rk mo : Nat → Nat} {stops : List (Nat × List Bool)} {inl : List Nat} {d r0 : Nat} {Q : bPo} {f : Nat} {M : aM} {pc : Nat} {lv st : List bV} {μ : bMm} (hd : r0 ≤ d) (h : wX xs rk mo stops inl d r0 Q f M 0 pc lv st μ (bTop Q)) : bGo xs d M pc lv st μ Q := by
  have := wX_go hd f M 0 pc lv st μ (bTop Q) Q (fun v z μ' hz hk => by unfold bTop at hk; rw [hz] at hk; exact hk) (fun _ => rfl) (Nat.zero_le _) h
  exact this
end
