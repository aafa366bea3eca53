-- ===== PART A: goes FIRST, ahead of the names: the tables' words, and 'selects' of the private methods out of them =====
/-- a private method of a class that the tables say can be made, by its rows of tables_1 -/
def lw_okq (q : MethodName × Nat) : Prop := (q.1.cls ≠ "java/lang/invoke/MethodHandle" ∧ q.1.cls ≠ "java/lang/invoke/VarHandle") ∧ Cond.instantiable q.1.cls q.2 ∈ tables_1 ∧ Cond.privateMethod q.1 ∈ tables_1 ∧ Cond.instanceMethod q.1 ∈ tables_1
theorem lw_p0 : lw_okq (⟨"ChipSlots$Reader", "fits", "(ILChipSlots$Plan;)Z"⟩, 2) := ⟨⟨by decide +kernel, by decide +kernel⟩, List.mem_of_getElem? (i := 39) (by decide +kernel), List.mem_of_getElem? (i := 330) (by decide +kernel), List.mem_of_getElem? (i := 331) (by decide +kernel)⟩
theorem lw_p1 : lw_okq (⟨"ChipSlots$Reader", "take", "(ILChipSlots$Plan;)V"⟩, 2) := ⟨⟨by decide +kernel, by decide +kernel⟩, List.mem_of_getElem? (i := 39) (by decide +kernel), List.mem_of_getElem? (i := 340) (by decide +kernel), List.mem_of_getElem? (i := 341) (by decide +kernel)⟩
theorem lw_p2 : lw_okq (⟨"ChipSlots", "isGate", "(I)Z"⟩, 14) := ⟨⟨by decide +kernel, by decide +kernel⟩, List.mem_of_getElem? (i := 15) (by decide +kernel), List.mem_of_getElem? (i := 404) (by decide +kernel), List.mem_of_getElem? (i := 405) (by decide +kernel)⟩
theorem lw_p3 : lw_okq (⟨"ChipSlots", "valueNow", "(LChipSlots$State;I)I"⟩, 14) := ⟨⟨by decide +kernel, by decide +kernel⟩, List.mem_of_getElem? (i := 15) (by decide +kernel), List.mem_of_getElem? (i := 424) (by decide +kernel), List.mem_of_getElem? (i := 425) (by decide +kernel)⟩
theorem lw_p4 : lw_okq (⟨"ChipSlots$Logic", "settle", "(LChipSlots$Plan;)V"⟩, 3) := ⟨⟨by decide +kernel, by decide +kernel⟩, List.mem_of_getElem? (i := 147) (by decide +kernel), List.mem_of_getElem? (i := 437) (by decide +kernel), List.mem_of_getElem? (i := 438) (by decide +kernel)⟩
theorem lw_p5 : lw_okq (⟨"ChipSlots$Logic", "setValue", "(II)V"⟩, 3) := ⟨⟨by decide +kernel, by decide +kernel⟩, List.mem_of_getElem? (i := 147) (by decide +kernel), List.mem_of_getElem? (i := 452) (by decide +kernel), List.mem_of_getElem? (i := 453) (by decide +kernel)⟩
theorem lw_p6 : lw_okq (⟨"ChipSlots", "makeSteps", "(LChipSlots$State;I)V"⟩, 14) := ⟨⟨by decide +kernel, by decide +kernel⟩, List.mem_of_getElem? (i := 15) (by decide +kernel), List.mem_of_getElem? (i := 481) (by decide +kernel), List.mem_of_getElem? (i := 482) (by decide +kernel)⟩
theorem lw_p7 : lw_okq (⟨"ChipSlots", "isChip", "(I)Z"⟩, 14) := ⟨⟨by decide +kernel, by decide +kernel⟩, List.mem_of_getElem? (i := 15) (by decide +kernel), List.mem_of_getElem? (i := 506) (by decide +kernel), List.mem_of_getElem? (i := 507) (by decide +kernel)⟩
theorem lw_p8 : lw_okq (⟨"ChipSlots", "traceSteps", "()V"⟩, 14) := ⟨⟨by decide +kernel, by decide +kernel⟩, List.mem_of_getElem? (i := 15) (by decide +kernel), List.mem_of_getElem? (i := 541) (by decide +kernel), List.mem_of_getElem? (i := 542) (by decide +kernel)⟩
theorem lw_p9 : lw_okq (⟨"ChipSlots", "periodFrom", "(I)I"⟩, 14) := ⟨⟨by decide +kernel, by decide +kernel⟩, List.mem_of_getElem? (i := 15) (by decide +kernel), List.mem_of_getElem? (i := 545) (by decide +kernel), List.mem_of_getElem? (i := 546) (by decide +kernel)⟩
theorem lw_p10 : lw_okq (⟨"ChipSlots$Schedule", "begin", "(LChipSlots$Plan;I)V"⟩, 7) := ⟨⟨by decide +kernel, by decide +kernel⟩, List.mem_of_getElem? (i := 167) (by decide +kernel), List.mem_of_getElem? (i := 558) (by decide +kernel), List.mem_of_getElem? (i := 559) (by decide +kernel)⟩
theorem lw_p11 : lw_okq (⟨"ChipSlots$Schedule", "markWanted", "(III)V"⟩, 7) := ⟨⟨by decide +kernel, by decide +kernel⟩, List.mem_of_getElem? (i := 167) (by decide +kernel), List.mem_of_getElem? (i := 572) (by decide +kernel), List.mem_of_getElem? (i := 573) (by decide +kernel)⟩
theorem lw_p12 : lw_okq (⟨"ChipSlots$Schedule", "settle", "(LChipSlots$Plan;I)V"⟩, 7) := ⟨⟨by decide +kernel, by decide +kernel⟩, List.mem_of_getElem? (i := 167) (by decide +kernel), List.mem_of_getElem? (i := 579) (by decide +kernel), List.mem_of_getElem? (i := 580) (by decide +kernel)⟩
theorem lw_p13 : lw_okq (⟨"ChipSlots$Schedule", "sends", "(LChipSlots$Plan;I)Z"⟩, 7) := ⟨⟨by decide +kernel, by decide +kernel⟩, List.mem_of_getElem? (i := 167) (by decide +kernel), List.mem_of_getElem? (i := 584) (by decide +kernel), List.mem_of_getElem? (i := 585) (by decide +kernel)⟩
theorem lw_p14 : lw_okq (⟨"ChipSlots$Schedule", "offer", "(III)I"⟩, 7) := ⟨⟨by decide +kernel, by decide +kernel⟩, List.mem_of_getElem? (i := 167) (by decide +kernel), List.mem_of_getElem? (i := 588) (by decide +kernel), List.mem_of_getElem? (i := 589) (by decide +kernel)⟩
theorem lw_p15 : lw_okq (⟨"ChipSlots", "bestMove", "()I"⟩, 14) := ⟨⟨by decide +kernel, by decide +kernel⟩, List.mem_of_getElem? (i := 15) (by decide +kernel), List.mem_of_getElem? (i := 605) (by decide +kernel), List.mem_of_getElem? (i := 606) (by decide +kernel)⟩
def lw_privs_1 : List (MethodName × Nat) := [(⟨"ChipSlots$Reader", "fits", "(ILChipSlots$Plan;)Z"⟩, 2), (⟨"ChipSlots$Reader", "take", "(ILChipSlots$Plan;)V"⟩, 2), (⟨"ChipSlots", "isGate", "(I)Z"⟩, 14), (⟨"ChipSlots", "valueNow", "(LChipSlots$State;I)I"⟩, 14), (⟨"ChipSlots$Logic", "settle", "(LChipSlots$Plan;)V"⟩, 3), (⟨"ChipSlots$Logic", "setValue", "(II)V"⟩, 3), (⟨"ChipSlots", "makeSteps", "(LChipSlots$State;I)V"⟩, 14), (⟨"ChipSlots", "isChip", "(I)Z"⟩, 14), (⟨"ChipSlots", "traceSteps", "()V"⟩, 14), (⟨"ChipSlots", "periodFrom", "(I)I"⟩, 14), (⟨"ChipSlots$Schedule", "begin", "(LChipSlots$Plan;I)V"⟩, 7), (⟨"ChipSlots$Schedule", "markWanted", "(III)V"⟩, 7), (⟨"ChipSlots$Schedule", "settle", "(LChipSlots$Plan;I)V"⟩, 7), (⟨"ChipSlots$Schedule", "sends", "(LChipSlots$Plan;I)Z"⟩, 7), (⟨"ChipSlots$Schedule", "offer", "(III)I"⟩, 7), (⟨"ChipSlots", "bestMove", "()I"⟩, 14)]
theorem lw_r1 : ∀ q ∈ lw_privs_1, lw_okq q := List.forall_mem_cons.mpr ⟨lw_p0, List.forall_mem_cons.mpr ⟨lw_p1, List.forall_mem_cons.mpr ⟨lw_p2, List.forall_mem_cons.mpr ⟨lw_p3, List.forall_mem_cons.mpr ⟨lw_p4, List.forall_mem_cons.mpr ⟨lw_p5, List.forall_mem_cons.mpr ⟨lw_p6, List.forall_mem_cons.mpr ⟨lw_p7, List.forall_mem_cons.mpr ⟨lw_p8, List.forall_mem_cons.mpr ⟨lw_p9, List.forall_mem_cons.mpr ⟨lw_p10, List.forall_mem_cons.mpr ⟨lw_p11, List.forall_mem_cons.mpr ⟨lw_p12, List.forall_mem_cons.mpr ⟨lw_p13, List.forall_mem_cons.mpr ⟨lw_p14, List.forall_mem_cons.mpr ⟨lw_p15, fun _ h => absurd h List.not_mem_nil⟩⟩⟩⟩⟩⟩⟩⟩⟩⟩⟩⟩⟩⟩⟩⟩
theorem lw_p16 : lw_okq (⟨"ChipSlots", "holds", "(I)Z"⟩, 14) := ⟨⟨by decide +kernel, by decide +kernel⟩, List.mem_of_getElem? (i := 15) (by decide +kernel), List.mem_of_getElem? (i := 635) (by decide +kernel), List.mem_of_getElem? (i := 636) (by decide +kernel)⟩
theorem lw_p17 : lw_okq (⟨"ChipSlots", "setsInput", "(II)Z"⟩, 14) := ⟨⟨by decide +kernel, by decide +kernel⟩, List.mem_of_getElem? (i := 15) (by decide +kernel), List.mem_of_getElem? (i := 639) (by decide +kernel), List.mem_of_getElem? (i := 640) (by decide +kernel)⟩
theorem lw_p18 : lw_okq (⟨"ChipSlots", "movesGate", "(II)Z"⟩, 14) := ⟨⟨by decide +kernel, by decide +kernel⟩, List.mem_of_getElem? (i := 15) (by decide +kernel), List.mem_of_getElem? (i := 643) (by decide +kernel), List.mem_of_getElem? (i := 644) (by decide +kernel)⟩
theorem lw_p19 : lw_okq (⟨"ChipSlots", "setsPins", "(I)Z"⟩, 14) := ⟨⟨by decide +kernel, by decide +kernel⟩, List.mem_of_getElem? (i := 15) (by decide +kernel), List.mem_of_getElem? (i := 647) (by decide +kernel), List.mem_of_getElem? (i := 648) (by decide +kernel)⟩
theorem lw_p20 : lw_okq (⟨"ChipSlots", "canBeStuck", "(I)Z"⟩, 14) := ⟨⟨by decide +kernel, by decide +kernel⟩, List.mem_of_getElem? (i := 15) (by decide +kernel), List.mem_of_getElem? (i := 668) (by decide +kernel), List.mem_of_getElem? (i := 669) (by decide +kernel)⟩
theorem lw_p21 : lw_okq (⟨"ChipSlots", "chipsNeeded", "(I)I"⟩, 14) := ⟨⟨by decide +kernel, by decide +kernel⟩, List.mem_of_getElem? (i := 15) (by decide +kernel), List.mem_of_getElem? (i := 687) (by decide +kernel), List.mem_of_getElem? (i := 688) (by decide +kernel)⟩
theorem lw_p22 : lw_okq (⟨"ChipSlots", "drawInputs", "(I)V"⟩, 14) := ⟨⟨by decide +kernel, by decide +kernel⟩, List.mem_of_getElem? (i := 15) (by decide +kernel), List.mem_of_getElem? (i := 722) (by decide +kernel), List.mem_of_getElem? (i := 723) (by decide +kernel)⟩
theorem lw_p23 : lw_okq (⟨"ChipSlotsModel", "readBoard", "()I"⟩, 39) := ⟨⟨by decide +kernel, by decide +kernel⟩, List.mem_of_getElem? (i := 743) (by decide +kernel), List.mem_of_getElem? (i := 884) (by decide +kernel), List.mem_of_getElem? (i := 885) (by decide +kernel)⟩
theorem lw_p24 : lw_okq (⟨"ChipSlotsModel", "readHead", "()Z"⟩, 39) := ⟨⟨by decide +kernel, by decide +kernel⟩, List.mem_of_getElem? (i := 743) (by decide +kernel), List.mem_of_getElem? (i := 888) (by decide +kernel), List.mem_of_getElem? (i := 889) (by decide +kernel)⟩
theorem lw_p25 : lw_okq (⟨"ChipSlotsModel", "figure", "(II)I"⟩, 39) := ⟨⟨by decide +kernel, by decide +kernel⟩, List.mem_of_getElem? (i := 743) (by decide +kernel), List.mem_of_getElem? (i := 892) (by decide +kernel), List.mem_of_getElem? (i := 893) (by decide +kernel)⟩
theorem lw_p26 : lw_okq (⟨"ChipSlotsModel", "readPart", "()Z"⟩, 39) := ⟨⟨by decide +kernel, by decide +kernel⟩, List.mem_of_getElem? (i := 743) (by decide +kernel), List.mem_of_getElem? (i := 896) (by decide +kernel), List.mem_of_getElem? (i := 897) (by decide +kernel)⟩
theorem lw_p27 : lw_okq (⟨"ChipSlotsModel", "noGate", "(I)Z"⟩, 39) := ⟨⟨by decide +kernel, by decide +kernel⟩, List.mem_of_getElem? (i := 743) (by decide +kernel), List.mem_of_getElem? (i := 913) (by decide +kernel), List.mem_of_getElem? (i := 914) (by decide +kernel)⟩
theorem lw_p28 : lw_okq (⟨"ChipSlotsModel", "worthOf", "([II)I"⟩, 39) := ⟨⟨by decide +kernel, by decide +kernel⟩, List.mem_of_getElem? (i := 743) (by decide +kernel), List.mem_of_getElem? (i := 917) (by decide +kernel), List.mem_of_getElem? (i := 918) (by decide +kernel)⟩
theorem lw_p29 : lw_okq (⟨"ChipSlotsModel", "layWorth", "([II)V"⟩, 39) := ⟨⟨by decide +kernel, by decide +kernel⟩, List.mem_of_getElem? (i := 743) (by decide +kernel), List.mem_of_getElem? (i := 921) (by decide +kernel), List.mem_of_getElem? (i := 922) (by decide +kernel)⟩
theorem lw_p30 : lw_okq (⟨"ChipSlotsModel", "stands", "(I)Z"⟩, 39) := ⟨⟨by decide +kernel, by decide +kernel⟩, List.mem_of_getElem? (i := 743) (by decide +kernel), List.mem_of_getElem? (i := 925) (by decide +kernel), List.mem_of_getElem? (i := 926) (by decide +kernel)⟩
theorem lw_p31 : lw_okq (⟨"ChipSlotsModel", "worthBy", "(III)I"⟩, 39) := ⟨⟨by decide +kernel, by decide +kernel⟩, List.mem_of_getElem? (i := 743) (by decide +kernel), List.mem_of_getElem? (i := 932) (by decide +kernel), List.mem_of_getElem? (i := 933) (by decide +kernel)⟩
def lw_privs_2 : List (MethodName × Nat) := [(⟨"ChipSlots", "holds", "(I)Z"⟩, 14), (⟨"ChipSlots", "setsInput", "(II)Z"⟩, 14), (⟨"ChipSlots", "movesGate", "(II)Z"⟩, 14), (⟨"ChipSlots", "setsPins", "(I)Z"⟩, 14), (⟨"ChipSlots", "canBeStuck", "(I)Z"⟩, 14), (⟨"ChipSlots", "chipsNeeded", "(I)I"⟩, 14), (⟨"ChipSlots", "drawInputs", "(I)V"⟩, 14), (⟨"ChipSlotsModel", "readBoard", "()I"⟩, 39), (⟨"ChipSlotsModel", "readHead", "()Z"⟩, 39), (⟨"ChipSlotsModel", "figure", "(II)I"⟩, 39), (⟨"ChipSlotsModel", "readPart", "()Z"⟩, 39), (⟨"ChipSlotsModel", "noGate", "(I)Z"⟩, 39), (⟨"ChipSlotsModel", "worthOf", "([II)I"⟩, 39), (⟨"ChipSlotsModel", "layWorth", "([II)V"⟩, 39), (⟨"ChipSlotsModel", "stands", "(I)Z"⟩, 39), (⟨"ChipSlotsModel", "worthBy", "(III)I"⟩, 39)]
theorem lw_r2 : ∀ q ∈ lw_privs_2, lw_okq q := List.forall_mem_cons.mpr ⟨lw_p16, List.forall_mem_cons.mpr ⟨lw_p17, List.forall_mem_cons.mpr ⟨lw_p18, List.forall_mem_cons.mpr ⟨lw_p19, List.forall_mem_cons.mpr ⟨lw_p20, List.forall_mem_cons.mpr ⟨lw_p21, List.forall_mem_cons.mpr ⟨lw_p22, List.forall_mem_cons.mpr ⟨lw_p23, List.forall_mem_cons.mpr ⟨lw_p24, List.forall_mem_cons.mpr ⟨lw_p25, List.forall_mem_cons.mpr ⟨lw_p26, List.forall_mem_cons.mpr ⟨lw_p27, List.forall_mem_cons.mpr ⟨lw_p28, List.forall_mem_cons.mpr ⟨lw_p29, List.forall_mem_cons.mpr ⟨lw_p30, List.forall_mem_cons.mpr ⟨lw_p31, fun _ h => absurd h List.not_mem_nil⟩⟩⟩⟩⟩⟩⟩⟩⟩⟩⟩⟩⟩⟩⟩⟩
theorem lw_p32 : lw_okq (⟨"ChipSlotsModel", "usedBy", "(I)I"⟩, 39) := ⟨⟨by decide +kernel, by decide +kernel⟩, List.mem_of_getElem? (i := 743) (by decide +kernel), List.mem_of_getElem? (i := 936) (by decide +kernel), List.mem_of_getElem? (i := 937) (by decide +kernel)⟩
theorem lw_p33 : lw_okq (⟨"ChipSlotsModel", "note", "()V"⟩, 39) := ⟨⟨by decide +kernel, by decide +kernel⟩, List.mem_of_getElem? (i := 743) (by decide +kernel), List.mem_of_getElem? (i := 945) (by decide +kernel), List.mem_of_getElem? (i := 946) (by decide +kernel)⟩
theorem lw_p34 : lw_okq (⟨"ChipSlotsModel", "stepOn", "([II)V"⟩, 39) := ⟨⟨by decide +kernel, by decide +kernel⟩, List.mem_of_getElem? (i := 743) (by decide +kernel), List.mem_of_getElem? (i := 949) (by decide +kernel), List.mem_of_getElem? (i := 950) (by decide +kernel)⟩
theorem lw_p35 : lw_okq (⟨"ChipSlotsModel", "noChip", "(I)Z"⟩, 39) := ⟨⟨by decide +kernel, by decide +kernel⟩, List.mem_of_getElem? (i := 743) (by decide +kernel), List.mem_of_getElem? (i := 961) (by decide +kernel), List.mem_of_getElem? (i := 962) (by decide +kernel)⟩
theorem lw_p36 : lw_okq (⟨"ChipSlotsModel", "layTrial", "()V"⟩, 39) := ⟨⟨by decide +kernel, by decide +kernel⟩, List.mem_of_getElem? (i := 743) (by decide +kernel), List.mem_of_getElem? (i := 978) (by decide +kernel), List.mem_of_getElem? (i := 979) (by decide +kernel)⟩
theorem lw_p37 : lw_okq (⟨"ChipSlotsModel", "stateOf", "([I)I"⟩, 39) := ⟨⟨by decide +kernel, by decide +kernel⟩, List.mem_of_getElem? (i := 743) (by decide +kernel), List.mem_of_getElem? (i := 986) (by decide +kernel), List.mem_of_getElem? (i := 987) (by decide +kernel)⟩
theorem lw_p38 : lw_okq (⟨"ChipSlotsModel", "laySchedule", "([IIII)V"⟩, 39) := ⟨⟨by decide +kernel, by decide +kernel⟩, List.mem_of_getElem? (i := 743) (by decide +kernel), List.mem_of_getElem? (i := 994) (by decide +kernel), List.mem_of_getElem? (i := 995) (by decide +kernel)⟩
theorem lw_p39 : lw_okq (⟨"ChipSlotsModel", "layReady", "([II)V"⟩, 39) := ⟨⟨by decide +kernel, by decide +kernel⟩, List.mem_of_getElem? (i := 743) (by decide +kernel), List.mem_of_getElem? (i := 998) (by decide +kernel), List.mem_of_getElem? (i := 999) (by decide +kernel)⟩
theorem lw_p40 : lw_okq (⟨"ChipSlotsModel", "isAt", "(II)Z"⟩, 39) := ⟨⟨by decide +kernel, by decide +kernel⟩, List.mem_of_getElem? (i := 743) (by decide +kernel), List.mem_of_getElem? (i := 1002) (by decide +kernel), List.mem_of_getElem? (i := 1003) (by decide +kernel)⟩
theorem lw_p41 : lw_okq (⟨"ChipSlotsModel", "layGoing", "([IIII)I"⟩, 39) := ⟨⟨by decide +kernel, by decide +kernel⟩, List.mem_of_getElem? (i := 743) (by decide +kernel), List.mem_of_getElem? (i := 1006) (by decide +kernel), List.mem_of_getElem? (i := 1007) (by decide +kernel)⟩
theorem lw_p42 : lw_okq (⟨"ChipSlotsModel", "isWanted", "([III)Z"⟩, 39) := ⟨⟨by decide +kernel, by decide +kernel⟩, List.mem_of_getElem? (i := 743) (by decide +kernel), List.mem_of_getElem? (i := 1010) (by decide +kernel), List.mem_of_getElem? (i := 1011) (by decide +kernel)⟩
theorem lw_p43 : lw_okq (⟨"ChipSlotsModel", "best", "()I"⟩, 39) := ⟨⟨by decide +kernel, by decide +kernel⟩, List.mem_of_getElem? (i := 743) (by decide +kernel), List.mem_of_getElem? (i := 1019) (by decide +kernel), List.mem_of_getElem? (i := 1020) (by decide +kernel)⟩
theorem lw_p44 : lw_okq (⟨"ChipSlotsModel", "does", "(III)Z"⟩, 39) := ⟨⟨by decide +kernel, by decide +kernel⟩, List.mem_of_getElem? (i := 743) (by decide +kernel), List.mem_of_getElem? (i := 1035) (by decide +kernel), List.mem_of_getElem? (i := 1036) (by decide +kernel)⟩
theorem lw_p45 : lw_okq (⟨"ChipSlotsModel", "isSo", "(II)Z"⟩, 39) := ⟨⟨by decide +kernel, by decide +kernel⟩, List.mem_of_getElem? (i := 743) (by decide +kernel), List.mem_of_getElem? (i := 1051) (by decide +kernel), List.mem_of_getElem? (i := 1052) (by decide +kernel)⟩
theorem lw_p46 : lw_okq (⟨"ChipSlotsModel", "thereBy", "(I)I"⟩, 39) := ⟨⟨by decide +kernel, by decide +kernel⟩, List.mem_of_getElem? (i := 743) (by decide +kernel), List.mem_of_getElem? (i := 1065) (by decide +kernel), List.mem_of_getElem? (i := 1066) (by decide +kernel)⟩
theorem lw_p47 : lw_okq (⟨"ChipSlotsModel", "ofKind", "(I)I"⟩, 39) := ⟨⟨by decide +kernel, by decide +kernel⟩, List.mem_of_getElem? (i := 743) (by decide +kernel), List.mem_of_getElem? (i := 1107) (by decide +kernel), List.mem_of_getElem? (i := 1108) (by decide +kernel)⟩
def lw_privs_3 : List (MethodName × Nat) := [(⟨"ChipSlotsModel", "usedBy", "(I)I"⟩, 39), (⟨"ChipSlotsModel", "note", "()V"⟩, 39), (⟨"ChipSlotsModel", "stepOn", "([II)V"⟩, 39), (⟨"ChipSlotsModel", "noChip", "(I)Z"⟩, 39), (⟨"ChipSlotsModel", "layTrial", "()V"⟩, 39), (⟨"ChipSlotsModel", "stateOf", "([I)I"⟩, 39), (⟨"ChipSlotsModel", "laySchedule", "([IIII)V"⟩, 39), (⟨"ChipSlotsModel", "layReady", "([II)V"⟩, 39), (⟨"ChipSlotsModel", "isAt", "(II)Z"⟩, 39), (⟨"ChipSlotsModel", "layGoing", "([IIII)I"⟩, 39), (⟨"ChipSlotsModel", "isWanted", "([III)Z"⟩, 39), (⟨"ChipSlotsModel", "best", "()I"⟩, 39), (⟨"ChipSlotsModel", "does", "(III)Z"⟩, 39), (⟨"ChipSlotsModel", "isSo", "(II)Z"⟩, 39), (⟨"ChipSlotsModel", "thereBy", "(I)I"⟩, 39), (⟨"ChipSlotsModel", "ofKind", "(I)I"⟩, 39)]
theorem lw_r3 : ∀ q ∈ lw_privs_3, lw_okq q := List.forall_mem_cons.mpr ⟨lw_p32, List.forall_mem_cons.mpr ⟨lw_p33, List.forall_mem_cons.mpr ⟨lw_p34, List.forall_mem_cons.mpr ⟨lw_p35, List.forall_mem_cons.mpr ⟨lw_p36, List.forall_mem_cons.mpr ⟨lw_p37, List.forall_mem_cons.mpr ⟨lw_p38, List.forall_mem_cons.mpr ⟨lw_p39, List.forall_mem_cons.mpr ⟨lw_p40, List.forall_mem_cons.mpr ⟨lw_p41, List.forall_mem_cons.mpr ⟨lw_p42, List.forall_mem_cons.mpr ⟨lw_p43, List.forall_mem_cons.mpr ⟨lw_p44, List.forall_mem_cons.mpr ⟨lw_p45, List.forall_mem_cons.mpr ⟨lw_p46, List.forall_mem_cons.mpr ⟨lw_p47, fun _ h => absurd h List.not_mem_nil⟩⟩⟩⟩⟩⟩⟩⟩⟩⟩⟩⟩⟩⟩⟩⟩
theorem lw_p48 : lw_okq (⟨"ChipSlotsModel", "worthSo", "(I)I"⟩, 39) := ⟨⟨by decide +kernel, by decide +kernel⟩, List.mem_of_getElem? (i := 743) (by decide +kernel), List.mem_of_getElem? (i := 1111) (by decide +kernel), List.mem_of_getElem? (i := 1112) (by decide +kernel)⟩
def lw_privs_4 : List (MethodName × Nat) := [(⟨"ChipSlotsModel", "worthSo", "(I)I"⟩, 39)]
theorem lw_r4 : ∀ q ∈ lw_privs_4, lw_okq q := List.forall_mem_cons.mpr ⟨lw_p48, fun _ h => absurd h List.not_mem_nil⟩
def lw_privs : List (MethodName × Nat) := lw_privs_1 ++ (lw_privs_2 ++ (lw_privs_3 ++ (lw_privs_4)))
def lw_tbl : List Cond := k2_sels lw_privs ++ tables_1
theorem lw_privs_ok : ∀ q ∈ lw_privs, lw_okq q := by
  show ∀ q ∈ lw_privs_1 ++ (lw_privs_2 ++ (lw_privs_3 ++ (lw_privs_4))), lw_okq q
  exact List.forall_mem_append.mpr ⟨lw_r1, List.forall_mem_append.mpr ⟨lw_r2, List.forall_mem_append.mpr ⟨lw_r3, lw_r4⟩⟩⟩

def RX0 : String := "ChipSlots$History"
def TX0 : u_T := fun k => match k with
  | 0 => ("ChipSlots$History", "ring", "LChipSlots$Shelf;", true)
  | 1 => ("ChipSlots$History", "next", "I", false)
  | _ => ("ChipSlots$History", "held", "I", false)
def tyX0 : Nat → FieldType := fun k => match k with
  | 0 => .object "ChipSlots$Shelf"
  | 1 => .int
  | _ => .int
abbrev wsX00 : List Cond := u_ws RX0 TX0 3
theorem nmX0 : ∀ a, a < 3 → ∀ b, b < 3 → a ≠ b → (TX0 a).2.1 ≠ (TX0 b).2.1 := by decide +kernel
theorem tyX0_ok : ∀ k, k < 3 → parseFieldDescriptor (TX0 k).2.2.1 = some (tyX0 k) := by decide +kernel
abbrev cX0_init : ByteArray := prog_2_method_1_code
def yX0_init : MethodName := ⟨RX0, "<init>", "()V"⟩
abbrev cX0_remember : ByteArray := prog_2_method_2_code
def yX0_remember : MethodName := ⟨RX0, "remember", "(LChipSlots$State;)V"⟩
abbrev cX0_recall : ByteArray := prog_2_method_3_code
def yX0_recall : MethodName := ⟨RX0, "recall", "(LChipSlots$State;)V"⟩
abbrev cX0_forget : ByteArray := prog_2_method_4_code
def yX0_forget : MethodName := ⟨RX0, "forget", "()V"⟩
def RX1 : String := "ChipSlots$Logic"
def TX1 : u_T := fun k => match k with
  | 0 => ("ChipSlots$Logic", "ones", "I", false)
  | 1 => ("ChipSlots$Logic", "unknowns", "I", false)
  | _ => ("ChipSlots$Logic", "settled", "I", false)
def tyX1 : Nat → FieldType := fun k => match k with
  | 0 => .int
  | 1 => .int
  | _ => .int
abbrev wsX10 : List Cond := u_ws RX1 TX1 3
theorem nmX1 : ∀ a, a < 3 → ∀ b, b < 3 → a ≠ b → (TX1 a).2.1 ≠ (TX1 b).2.1 := by decide +kernel
theorem tyX1_ok : ∀ k, k < 3 → parseFieldDescriptor (TX1 k).2.2.1 = some (tyX1 k) := by decide +kernel
abbrev cX1_init : ByteArray := prog_3_method_1_code
def yX1_init : MethodName := ⟨RX1, "<init>", "()V"⟩
abbrev cX1_compute : ByteArray := prog_3_method_2_code
def yX1_compute : MethodName := ⟨RX1, "compute", "(LChipSlots$Plan;LChipSlots$State;I)V"⟩
abbrev cX1_settle : ByteArray := prog_3_method_3_code
def yX1_settle : MethodName := ⟨RX1, "settle", "(LChipSlots$Plan;)V"⟩
abbrev cX1_setValue : ByteArray := prog_3_method_4_code
def yX1_setValue : MethodName := ⟨RX1, "setValue", "(II)V"⟩
abbrev cX1_outcome : ByteArray := prog_3_method_5_code
def yX1_outcome : MethodName := ⟨RX1, "outcome", "(III)I"⟩
abbrev cX1_tick : ByteArray := prog_3_method_6_code
def yX1_tick : MethodName := ⟨RX1, "tick", "(LChipSlots$Plan;LChipSlots$State;)V"⟩
def RX2 : String := "ChipSlots$Plan"
def TX2 : u_T := fun k => match k with
  | 0 => ("ChipSlots$Plan", "chips", "I", false)
  | 1 => ("ChipSlots$Plan", "firstPins", "I", false)
  | 2 => ("ChipSlots$Plan", "firstPlaces", "I", false)
  | 3 => ("ChipSlots$Plan", "gates", "I", false)
  | 4 => ("ChipSlots$Plan", "inputs", "I", false)
  | 5 => ("ChipSlots$Plan", "registers", "I", false)
  | 6 => ("ChipSlots$Plan", "slowRegisters", "I", false)
  | 7 => ("ChipSlots$Plan", "kinds", "[I", true)
  | 8 => ("ChipSlots$Plan", "firsts", "[I", true)
  | 9 => ("ChipSlots$Plan", "seconds", "[I", true)
  | 10 => ("ChipSlots$Plan", "clocks", "[I", true)
  | _ => ("ChipSlots$Plan", "sourceSets", "[I", true)
def tyX2 : Nat → FieldType := fun k => match k with
  | 0 => .int
  | 1 => .int
  | 2 => .int
  | 3 => .int
  | 4 => .int
  | 5 => .int
  | 6 => .int
  | 7 => .array .int
  | 8 => .array .int
  | 9 => .array .int
  | 10 => .array .int
  | _ => .array .int
abbrev wsX20 : List Cond := u_ws RX2 TX2 12
theorem nmX2 : ∀ a, a < 12 → ∀ b, b < 12 → a ≠ b → (TX2 a).2.1 ≠ (TX2 b).2.1 := by decide +kernel
theorem tyX2_ok : ∀ k, k < 12 → parseFieldDescriptor (TX2 k).2.2.1 = some (tyX2 k) := by decide +kernel
abbrev cX2_init : ByteArray := prog_4_method_1_code
def yX2_init : MethodName := ⟨RX2, "<init>", "()V"⟩
abbrev cX2_clear : ByteArray := prog_4_method_2_code
def yX2_clear : MethodName := ⟨RX2, "clear", "()V"⟩
abbrev cX2_addGate : ByteArray := prog_4_method_3_code
def yX2_addGate : MethodName := ⟨RX2, "addGate", "(I)V"⟩
abbrev cX2_lastKind : ByteArray := prog_4_method_4_code
def yX2_lastKind : MethodName := ⟨RX2, "lastKind", "()I"⟩
abbrev cX2_placeLast : ByteArray := prog_4_method_5_code
def yX2_placeLast : MethodName := ⟨RX2, "placeLast", "(I)V"⟩
abbrev cX2_setFirst : ByteArray := prog_4_method_6_code
def yX2_setFirst : MethodName := ⟨RX2, "setFirst", "(I)V"⟩
abbrev cX2_setSecond : ByteArray := prog_4_method_7_code
def yX2_setSecond : MethodName := ⟨RX2, "setSecond", "(I)V"⟩
abbrev cX2_setClock : ByteArray := prog_4_method_8_code
def yX2_setClock : MethodName := ⟨RX2, "setClock", "(I)V"⟩
abbrev cX2_kindOf : ByteArray := prog_4_method_9_code
def yX2_kindOf : MethodName := ⟨RX2, "kindOf", "(I)I"⟩
abbrev cX2_firstOf : ByteArray := prog_4_method_10_code
def yX2_firstOf : MethodName := ⟨RX2, "firstOf", "(I)I"⟩
abbrev cX2_secondOf : ByteArray := prog_4_method_11_code
def yX2_secondOf : MethodName := ⟨RX2, "secondOf", "(I)I"⟩
abbrev cX2_clockOf : ByteArray := prog_4_method_12_code
def yX2_clockOf : MethodName := ⟨RX2, "clockOf", "(I)I"⟩
abbrev cX2_all : ByteArray := prog_4_method_13_code
def yX2_all : MethodName := ⟨RX2, "all", "()I"⟩
abbrev cX2_storing : ByteArray := prog_4_method_14_code
def yX2_storing : MethodName := ⟨RX2, "storing", "()I"⟩
abbrev cX2_sourcesOf : ByteArray := prog_4_method_15_code
def yX2_sourcesOf : MethodName := ⟨RX2, "sourcesOf", "(I)I"⟩
abbrev cX2_readersOf : ByteArray := prog_4_method_16_code
def yX2_readersOf : MethodName := ⟨RX2, "readersOf", "(I)I"⟩
abbrev cX2_allBefore : ByteArray := prog_4_method_17_code
def yX2_allBefore : MethodName := ⟨RX2, "allBefore", "(I)I"⟩
def RX3 : String := "ChipSlots$Reader"
def TX3 : u_T := fun k => match k with
  | 0 => ("ChipSlots$Reader", "place", "I", false)
  | _ => ("ChipSlots$Reader", "greatestSource", "I", false)
def tyX3 : Nat → FieldType := fun k => match k with
  | 0 => .int
  | _ => .int
abbrev wsX30 : List Cond := u_ws RX3 TX3 2
theorem nmX3 : ∀ a, a < 2 → ∀ b, b < 2 → a ≠ b → (TX3 a).2.1 ≠ (TX3 b).2.1 := by decide +kernel
theorem tyX3_ok : ∀ k, k < 2 → parseFieldDescriptor (TX3 k).2.2.1 = some (tyX3 k) := by decide +kernel
abbrev cX3_init : ByteArray := prog_5_method_1_code
def yX3_init : MethodName := ⟨RX3, "<init>", "()V"⟩
abbrev cX3_read : ByteArray := prog_5_method_2_code
def yX3_read : MethodName := ⟨RX3, "read", "(LChipSlots$Text;LChipSlots$Plan;)I"⟩
abbrev cX3_fits : ByteArray := prog_5_method_3_code
def yX3_fits : MethodName := ⟨RX3, "fits", "(ILChipSlots$Plan;)Z"⟩
abbrev cX3_take : ByteArray := prog_5_method_4_code
def yX3_take : MethodName := ⟨RX3, "take", "(ILChipSlots$Plan;)V"⟩
abbrev cX3_behindFirst : ByteArray := prog_5_method_5_code
def yX3_behindFirst : MethodName := ⟨RX3, "behindFirst", "(I)I"⟩
abbrev cX3_kindOfLetter : ByteArray := prog_5_method_6_code
def yX3_kindOfLetter : MethodName := ⟨RX3, "kindOfLetter", "(I)I"⟩
def RX4 : String := "ChipSlots$Schedule"
def TX4 : u_T := fun k => match k with
  | 0 => ("ChipSlots$Schedule", "available", "[I", true)
  | 1 => ("ChipSlots$Schedule", "wanted", "[I", true)
  | 2 => ("ChipSlots$Schedule", "coming", "[I", true)
  | 3 => ("ChipSlots$Schedule", "waiting", "I", false)
  | 4 => ("ChipSlots$Schedule", "taken", "I", false)
  | 5 => ("ChipSlots$Schedule", "sent", "I", false)
  | _ => ("ChipSlots$Schedule", "lastSent", "I", false)
def tyX4 : Nat → FieldType := fun k => match k with
  | 0 => .array .int
  | 1 => .array .int
  | 2 => .array .int
  | 3 => .int
  | 4 => .int
  | 5 => .int
  | _ => .int
abbrev wsX40 : List Cond := u_ws RX4 TX4 7
theorem nmX4 : ∀ a, a < 7 → ∀ b, b < 7 → a ≠ b → (TX4 a).2.1 ≠ (TX4 b).2.1 := by decide +kernel
theorem tyX4_ok : ∀ k, k < 7 → parseFieldDescriptor (TX4 k).2.2.1 = some (tyX4 k) := by decide +kernel
abbrev cX4_init : ByteArray := prog_6_method_1_code
def yX4_init : MethodName := ⟨RX4, "<init>", "()V"⟩
abbrev cX4_run : ByteArray := prog_6_method_2_code
def yX4_run : MethodName := ⟨RX4, "run", "(LChipSlots$Plan;II)V"⟩
abbrev cX4_firstSlot : ByteArray := prog_6_method_3_code
def yX4_firstSlot : MethodName := ⟨RX4, "firstSlot", "(LChipSlots$Plan;LChipSlots$State;II)I"⟩
abbrev cX4_isBelow : ByteArray := prog_6_method_4_code
def yX4_isBelow : MethodName := ⟨RX4, "isBelow", "(II)Z"⟩
abbrev cX4_begin : ByteArray := prog_6_method_5_code
def yX4_begin : MethodName := ⟨RX4, "begin", "(LChipSlots$Plan;I)V"⟩
abbrev cX4_markWanted : ByteArray := prog_6_method_6_code
def yX4_markWanted : MethodName := ⟨RX4, "markWanted", "(III)V"⟩
abbrev cX4_settle : ByteArray := prog_6_method_7_code
def yX4_settle : MethodName := ⟨RX4, "settle", "(LChipSlots$Plan;I)V"⟩
abbrev cX4_sends : ByteArray := prog_6_method_8_code
def yX4_sends : MethodName := ⟨RX4, "sends", "(LChipSlots$Plan;I)Z"⟩
abbrev cX4_offer : ByteArray := prog_6_method_9_code
def yX4_offer : MethodName := ⟨RX4, "offer", "(III)I"⟩
abbrev cX4_add : ByteArray := prog_6_method_10_code
def yX4_add : MethodName := ⟨RX4, "add", "([III)V"⟩
def RX5 : String := "ChipSlots$Shelf"
def TX5 : u_T := fun k => match k with
  | _ => ("ChipSlots$Shelf", "cells", "[I", true)
def tyX5 : Nat → FieldType := fun k => match k with
  | _ => .array .int
abbrev wsX50 : List Cond := u_ws RX5 TX5 1
theorem nmX5 : ∀ a, a < 1 → ∀ b, b < 1 → a ≠ b → (TX5 a).2.1 ≠ (TX5 b).2.1 := by decide +kernel
theorem tyX5_ok : ∀ k, k < 1 → parseFieldDescriptor (TX5 k).2.2.1 = some (tyX5 k) := by decide +kernel
abbrev cX5_init : ByteArray := prog_7_method_1_code
def yX5_init : MethodName := ⟨RX5, "<init>", "(I)V"⟩
abbrev cX5_put : ByteArray := prog_7_method_2_code
def yX5_put : MethodName := ⟨RX5, "put", "(ILChipSlots$State;)V"⟩
abbrev cX5_get : ByteArray := prog_7_method_3_code
def yX5_get : MethodName := ⟨RX5, "get", "(ILChipSlots$State;)V"⟩
def RX6 : String := "ChipSlots$Sightings"
def TX6 : u_T := fun k => match k with
  | 0 => ("ChipSlots$Sightings", "steps", "[I", true)
  | 1 => ("ChipSlots$Sightings", "gates", "[I", true)
  | 2 => ("ChipSlots$Sightings", "values", "[I", true)
  | 3 => ("ChipSlots$Sightings", "truths", "[I", true)
  | _ => ("ChipSlots$Sightings", "held", "I", false)
def tyX6 : Nat → FieldType := fun k => match k with
  | 0 => .array .int
  | 1 => .array .int
  | 2 => .array .int
  | 3 => .array .int
  | _ => .int
abbrev wsX60 : List Cond := u_ws RX6 TX6 5
theorem nmX6 : ∀ a, a < 5 → ∀ b, b < 5 → a ≠ b → (TX6 a).2.1 ≠ (TX6 b).2.1 := by decide +kernel
theorem tyX6_ok : ∀ k, k < 5 → parseFieldDescriptor (TX6 k).2.2.1 = some (tyX6 k) := by decide +kernel
abbrev cX6_init : ByteArray := prog_8_method_1_code
def yX6_init : MethodName := ⟨RX6, "<init>", "()V"⟩
abbrev cX6_add : ByteArray := prog_8_method_2_code
def yX6_add : MethodName := ⟨RX6, "add", "(IIII)Z"⟩
abbrev cX6_lastStep : ByteArray := prog_8_method_3_code
def yX6_lastStep : MethodName := ⟨RX6, "lastStep", "()I"⟩
abbrev cX6_agree : ByteArray := prog_8_method_4_code
def yX6_agree : MethodName := ⟨RX6, "agree", "(ILChipSlots$Plan;LChipSlots$Logic;)Z"⟩
def RX7 : String := "ChipSlots$State"
def TX7 : u_T := fun k => match k with
  | 0 => ("ChipSlots$State", "ones", "I", false)
  | 1 => ("ChipSlots$State", "unknowns", "I", false)
  | 2 => ("ChipSlots$State", "places", "I", false)
  | 3 => ("ChipSlots$State", "pins", "I", false)
  | _ => ("ChipSlots$State", "count", "I", false)
def tyX7 : Nat → FieldType := fun k => match k with
  | 0 => .int
  | 1 => .int
  | 2 => .int
  | 3 => .int
  | _ => .int
abbrev wsX70 : List Cond := u_ws RX7 TX7 5
theorem nmX7 : ∀ a, a < 5 → ∀ b, b < 5 → a ≠ b → (TX7 a).2.1 ≠ (TX7 b).2.1 := by decide +kernel
theorem tyX7_ok : ∀ k, k < 5 → parseFieldDescriptor (TX7 k).2.2.1 = some (tyX7 k) := by decide +kernel
abbrev cX7_init : ByteArray := prog_9_method_1_code
def yX7_init : MethodName := ⟨RX7, "<init>", "()V"⟩
abbrev cX7_begin : ByteArray := prog_9_method_2_code
def yX7_begin : MethodName := ⟨RX7, "begin", "(LChipSlots$Plan;)V"⟩
abbrev cX7_takeFrom : ByteArray := prog_9_method_3_code
def yX7_takeFrom : MethodName := ⟨RX7, "takeFrom", "(LChipSlots$State;)V"⟩
abbrev cX7_store : ByteArray := prog_9_method_4_code
def yX7_store : MethodName := ⟨RX7, "store", "(II)V"⟩
def RX8 : String := "ChipSlots$Text"
def TX8 : u_T := fun k => match k with
  | 0 => ("ChipSlots$Text", "letters", "[I", true)
  | _ => ("ChipSlots$Text", "length", "I", false)
def tyX8 : Nat → FieldType := fun k => match k with
  | 0 => .array .int
  | _ => .int
abbrev wsX80 : List Cond := u_ws RX8 TX8 2
theorem nmX8 : ∀ a, a < 2 → ∀ b, b < 2 → a ≠ b → (TX8 a).2.1 ≠ (TX8 b).2.1 := by decide +kernel
theorem tyX8_ok : ∀ k, k < 2 → parseFieldDescriptor (TX8 k).2.2.1 = some (tyX8 k) := by decide +kernel
abbrev cX8_init : ByteArray := prog_10_method_1_code
def yX8_init : MethodName := ⟨RX8, "<init>", "()V"⟩
abbrev cX8_append : ByteArray := prog_10_method_2_code
def yX8_append : MethodName := ⟨RX8, "append", "(I)Z"⟩
abbrev cX8_letterAt : ByteArray := prog_10_method_3_code
def yX8_letterAt : MethodName := ⟨RX8, "letterAt", "(I)I"⟩
def RX9 : String := "ChipSlots"
def TX9 : u_T := fun k => match k with
  | 0 => ("ChipSlots", "text", "LChipSlots$Text;", true)
  | 1 => ("ChipSlots", "reader", "LChipSlots$Reader;", true)
  | 2 => ("ChipSlots", "plan", "LChipSlots$Plan;", false)
  | 3 => ("ChipSlots", "sparePlan", "LChipSlots$Plan;", false)
  | 4 => ("ChipSlots", "now", "LChipSlots$State;", true)
  | 5 => ("ChipSlots", "copy", "LChipSlots$State;", true)
  | 6 => ("ChipSlots", "logic", "LChipSlots$Logic;", true)
  | 7 => ("ChipSlots", "schedule", "LChipSlots$Schedule;", true)
  | 8 => ("ChipSlots", "history", "LChipSlots$History;", true)
  | 9 => ("ChipSlots", "kept", "LChipSlots$Shelf;", true)
  | 10 => ("ChipSlots", "keptSlots", "I", false)
  | 11 => ("ChipSlots", "sightings", "LChipSlots$Sightings;", true)
  | 12 => ("ChipSlots", "trace", "[I", true)
  | _ => ("ChipSlots", "lastSeed", "J", false)
def tyX9 : Nat → FieldType := fun k => match k with
  | 0 => .object "ChipSlots$Text"
  | 1 => .object "ChipSlots$Reader"
  | 2 => .object "ChipSlots$Plan"
  | 3 => .object "ChipSlots$Plan"
  | 4 => .object "ChipSlots$State"
  | 5 => .object "ChipSlots$State"
  | 6 => .object "ChipSlots$Logic"
  | 7 => .object "ChipSlots$Schedule"
  | 8 => .object "ChipSlots$History"
  | 9 => .object "ChipSlots$Shelf"
  | 10 => .int
  | 11 => .object "ChipSlots$Sightings"
  | 12 => .array .int
  | _ => .long
abbrev wsX90 : List Cond := u_ws RX9 TX9 14
theorem nmX9 : ∀ a, a < 14 → ∀ b, b < 14 → a ≠ b → (TX9 a).2.1 ≠ (TX9 b).2.1 := by decide +kernel
theorem tyX9_ok : ∀ k, k < 14 → parseFieldDescriptor (TX9 k).2.2.1 = some (tyX9 k) := by decide +kernel
abbrev cX9_init : ByteArray := prog_1_method_1_code
def yX9_init : MethodName := ⟨RX9, "<init>", "()V"⟩
abbrev cX9_write : ByteArray := prog_1_method_2_code
def yX9_write : MethodName := ⟨RX9, "write", "(I)I"⟩
abbrev cX9_wipe : ByteArray := prog_1_method_3_code
def yX9_wipe : MethodName := ⟨RX9, "wipe", "()I"⟩
abbrev cX9_fault : ByteArray := prog_1_method_4_code
def yX9_fault : MethodName := ⟨RX9, "fault", "()I"⟩
abbrev cX9_board : ByteArray := prog_1_method_5_code
def yX9_board : MethodName := ⟨RX9, "board", "()I"⟩
abbrev cX9_gate : ByteArray := prog_1_method_6_code
def yX9_gate : MethodName := ⟨RX9, "gate", "(II)I"⟩
abbrev cX9_step : ByteArray := prog_1_method_7_code
def yX9_step : MethodName := ⟨RX9, "step", "(I)I"⟩
abbrev cX9_input : ByteArray := prog_1_method_8_code
def yX9_input : MethodName := ⟨RX9, "input", "(II)I"⟩
abbrev cX9_lay : ByteArray := prog_1_method_9_code
def yX9_lay : MethodName := ⟨RX9, "lay", "(II)I"⟩
abbrev cX9_pins : ByteArray := prog_1_method_10_code
def yX9_pins : MethodName := ⟨RX9, "pins", "(I)I"⟩
abbrev cX9_undo : ByteArray := prog_1_method_11_code
def yX9_undo : MethodName := ⟨RX9, "undo", "()I"⟩
abbrev cX9_ahead : ByteArray := prog_1_method_12_code
def yX9_ahead : MethodName := ⟨RX9, "ahead", "(II)I"⟩
abbrev cX9_round : ByteArray := prog_1_method_13_code
def yX9_round : MethodName := ⟨RX9, "round", "(I)I"⟩
abbrev cX9_when : ByteArray := prog_1_method_14_code
def yX9_when : MethodName := ⟨RX9, "when", "(II)I"⟩
abbrev cX9_slots : ByteArray := prog_1_method_15_code
def yX9_slots : MethodName := ⟨RX9, "slots", "(I)I"⟩
abbrev cX9_fewest : ByteArray := prog_1_method_16_code
def yX9_fewest : MethodName := ⟨RX9, "fewest", "(I)I"⟩
abbrev cX9_judge : ByteArray := prog_1_method_17_code
def yX9_judge : MethodName := ⟨RX9, "judge", "(IJ)I"⟩
abbrev cX9_see : ByteArray := prog_1_method_18_code
def yX9_see : MethodName := ⟨RX9, "see", "(IIII)I"⟩
abbrev cX9_unsee : ByteArray := prog_1_method_19_code
def yX9_unsee : MethodName := ⟨RX9, "unsee", "()I"⟩
abbrev cX9_which : ByteArray := prog_1_method_20_code
def yX9_which : MethodName := ⟨RX9, "which", "()I"⟩
abbrev cX9_share : ByteArray := prog_1_method_21_code
def yX9_share : MethodName := ⟨RX9, "share", "(IZ)I"⟩
abbrev cX9_fails : ByteArray := prog_1_method_22_code
def yX9_fails : MethodName := ⟨RX9, "fails", "(IIIIZ)I"⟩
abbrev cX9_seed : ByteArray := prog_1_method_23_code
def yX9_seed : MethodName := ⟨RX9, "seed", "(J)J"⟩
abbrev cX9_drawn : ByteArray := prog_1_method_24_code
def yX9_drawn : MethodName := ⟨RX9, "drawn", "(I)I"⟩
abbrev cX9_keep : ByteArray := prog_1_method_25_code
def yX9_keep : MethodName := ⟨RX9, "keep", "(I)I"⟩
abbrev cX9_again : ByteArray := prog_1_method_26_code
def yX9_again : MethodName := ⟨RX9, "again", "(I)I"⟩
abbrev cX9_count : ByteArray := prog_1_method_27_code
def yX9_count : MethodName := ⟨RX9, "count", "(I)I"⟩
abbrev cX9_isGate : ByteArray := prog_1_method_28_code
def yX9_isGate : MethodName := ⟨RX9, "isGate", "(I)Z"⟩
abbrev cX9_isChip : ByteArray := prog_1_method_29_code
def yX9_isChip : MethodName := ⟨RX9, "isChip", "(I)Z"⟩
abbrev cX9_isKeeper : ByteArray := prog_1_method_30_code
def yX9_isKeeper : MethodName := ⟨RX9, "isKeeper", "(I)Z"⟩
abbrev cX9_isValue : ByteArray := prog_1_method_31_code
def yX9_isValue : MethodName := ⟨RX9, "isValue", "(I)Z"⟩
abbrev cX9_isPins : ByteArray := prog_1_method_32_code
def yX9_isPins : MethodName := ⟨RX9, "isPins", "(I)Z"⟩
abbrev cX9_makeSteps : ByteArray := prog_1_method_33_code
def yX9_makeSteps : MethodName := ⟨RX9, "makeSteps", "(LChipSlots$State;I)V"⟩
abbrev cX9_valueNow : ByteArray := prog_1_method_34_code
def yX9_valueNow : MethodName := ⟨RX9, "valueNow", "(LChipSlots$State;I)I"⟩
abbrev cX9_traceSteps : ByteArray := prog_1_method_35_code
def yX9_traceSteps : MethodName := ⟨RX9, "traceSteps", "()V"⟩
abbrev cX9_periodFrom : ByteArray := prog_1_method_36_code
def yX9_periodFrom : MethodName := ⟨RX9, "periodFrom", "(I)I"⟩
abbrev cX9_canBeStuck : ByteArray := prog_1_method_37_code
def yX9_canBeStuck : MethodName := ⟨RX9, "canBeStuck", "(I)Z"⟩
abbrev cX9_drawInputs : ByteArray := prog_1_method_38_code
def yX9_drawInputs : MethodName := ⟨RX9, "drawInputs", "(I)V"⟩
abbrev cX9_bestMove : ByteArray := prog_1_method_39_code
def yX9_bestMove : MethodName := ⟨RX9, "bestMove", "()I"⟩
abbrev cX9_statementOf : ByteArray := prog_1_method_40_code
def yX9_statementOf : MethodName := ⟨RX9, "statementOf", "(JI)I"⟩
abbrev cX9_holds : ByteArray := prog_1_method_41_code
def yX9_holds : MethodName := ⟨RX9, "holds", "(I)Z"⟩
abbrev cX9_setsInput : ByteArray := prog_1_method_42_code
def yX9_setsInput : MethodName := ⟨RX9, "setsInput", "(II)Z"⟩
abbrev cX9_movesGate : ByteArray := prog_1_method_43_code
def yX9_movesGate : MethodName := ⟨RX9, "movesGate", "(II)Z"⟩
abbrev cX9_setsPins : ByteArray := prog_1_method_44_code
def yX9_setsPins : MethodName := ⟨RX9, "setsPins", "(I)Z"⟩
abbrev cX9_chipsNeeded : ByteArray := prog_1_method_45_code
def yX9_chipsNeeded : MethodName := ⟨RX9, "chipsNeeded", "(I)I"⟩
abbrev cX9_weightOfGoodSlots : ByteArray := prog_1_method_46_code
def yX9_weightOfGoodSlots : MethodName := ⟨RX9, "weightOfGoodSlots", "(III)J"⟩
abbrev cX9_choices : ByteArray := prog_1_method_47_code
def yX9_choices : MethodName := ⟨RX9, "choices", "(II)J"⟩
abbrev cX9_power : ByteArray := prog_1_method_48_code
def yX9_power : MethodName := ⟨RX9, "power", "(II)J"⟩
abbrev cX9_fraction : ByteArray := prog_1_method_49_code
def yX9_fraction : MethodName := ⟨RX9, "fraction", "(IIZ)I"⟩
abbrev cX9_commonDivisor : ByteArray := prog_1_method_50_code
def yX9_commonDivisor : MethodName := ⟨RX9, "commonDivisor", "(II)I"⟩
abbrev cX9_bit : ByteArray := prog_1_method_51_code
def yX9_bit : MethodName := ⟨RX9, "bit", "(I)I"⟩
abbrev cX9_greatestOf : ByteArray := prog_1_method_52_code
def yX9_greatestOf : MethodName := ⟨RX9, "greatestOf", "(I)I"⟩
abbrev cX9_lowestOf : ByteArray := prog_1_method_53_code
def yX9_lowestOf : MethodName := ⟨RX9, "lowestOf", "(II)I"⟩
abbrev cX9_valueIn : ByteArray := prog_1_method_54_code
def yX9_valueIn : MethodName := ⟨RX9, "valueIn", "(III)I"⟩
abbrev cX9_chipIn : ByteArray := prog_1_method_55_code
def yX9_chipIn : MethodName := ⟨RX9, "chipIn", "(II)I"⟩
abbrev cX9_placed : ByteArray := prog_1_method_56_code
def yX9_placed : MethodName := ⟨RX9, "placed", "(III)I"⟩
abbrev cX9_cell : ByteArray := prog_1_method_57_code
def yX9_cell : MethodName := ⟨RX9, "cell", "([II)I"⟩
abbrev cX9_setCell : ByteArray := prog_1_method_58_code
def yX9_setCell : MethodName := ⟨RX9, "setCell", "([III)V"⟩
def RX10 : String := "ChipSlotsModel"
def TX10 : u_T := fun k => match k with
  | 0 => ("ChipSlotsModel", "thrown", "I", false)
  | 1 => ("ChipSlotsModel", "text", "[I", true)
  | 2 => ("ChipSlotsModel", "textSize", "I", false)
  | 3 => ("ChipSlotsModel", "place", "I", false)
  | 4 => ("ChipSlotsModel", "chips", "I", false)
  | 5 => ("ChipSlotsModel", "gates", "I", false)
  | 6 => ("ChipSlotsModel", "kind", "[I", true)
  | 7 => ("ChipSlotsModel", "source", "[I", true)
  | 8 => ("ChipSlotsModel", "second", "[I", true)
  | 9 => ("ChipSlotsModel", "clock", "[I", true)
  | 10 => ("ChipSlotsModel", "readChips", "I", false)
  | 11 => ("ChipSlotsModel", "readPins", "I", false)
  | 12 => ("ChipSlotsModel", "readGates", "I", false)
  | 13 => ("ChipSlotsModel", "readKind", "[I", true)
  | 14 => ("ChipSlotsModel", "readLies", "[I", true)
  | 15 => ("ChipSlotsModel", "readSource", "[I", true)
  | 16 => ("ChipSlotsModel", "readSecond", "[I", true)
  | 17 => ("ChipSlotsModel", "readClock", "[I", true)
  | 18 => ("ChipSlotsModel", "page", "[I", true)
  | 19 => ("ChipSlotsModel", "trial", "[I", true)
  | 20 => ("ChipSlotsModel", "book", "[I", true)
  | 21 => ("ChipSlotsModel", "doings", "I", false)
  | 22 => ("ChipSlotsModel", "kept", "[I", true)
  | 23 => ("ChipSlotsModel", "isKept", "[Z", true)
  | 24 => ("ChipSlotsModel", "seen", "I", false)
  | 25 => ("ChipSlotsModel", "seenBehind", "[I", true)
  | 26 => ("ChipSlotsModel", "seenGate", "[I", true)
  | 27 => ("ChipSlotsModel", "seenWorth", "[I", true)
  | 28 => ("ChipSlotsModel", "seenWas", "[I", true)
  | 29 => ("ChipSlotsModel", "seed", "J", false)
  | 30 => ("ChipSlotsModel", "worth", "[I", true)
  | 31 => ("ChipSlotsModel", "known", "I", false)
  | 32 => ("ChipSlotsModel", "hand", "[I", true)
  | 33 => ("ChipSlotsModel", "goes", "[Z", true)
  | 34 => ("ChipSlotsModel", "takes", "I", false)
  | 35 => ("ChipSlotsModel", "crossed", "I", false)
  | 36 => ("ChipSlotsModel", "last", "I", false)
  | 37 => ("ChipSlotsModel", "lastNow", "I", false)
  | _ => ("ChipSlotsModel", "states", "[I", true)
def tyX10 : Nat → FieldType := fun k => match k with
  | 0 => .int
  | 1 => .array .int
  | 2 => .int
  | 3 => .int
  | 4 => .int
  | 5 => .int
  | 6 => .array .int
  | 7 => .array .int
  | 8 => .array .int
  | 9 => .array .int
  | 10 => .int
  | 11 => .int
  | 12 => .int
  | 13 => .array .int
  | 14 => .array .int
  | 15 => .array .int
  | 16 => .array .int
  | 17 => .array .int
  | 18 => .array .int
  | 19 => .array .int
  | 20 => .array .int
  | 21 => .int
  | 22 => .array .int
  | 23 => .array .boolean
  | 24 => .int
  | 25 => .array .int
  | 26 => .array .int
  | 27 => .array .int
  | 28 => .array .int
  | 29 => .long
  | 30 => .array .int
  | 31 => .int
  | 32 => .array .int
  | 33 => .array .boolean
  | 34 => .int
  | 35 => .int
  | 36 => .int
  | 37 => .int
  | _ => .array .int
abbrev wsX100 : List Cond := u_ws RX10 TX10 39
theorem nmX10 : ∀ a, a < 39 → ∀ b, b < 39 → a ≠ b → (TX10 a).2.1 ≠ (TX10 b).2.1 := by decide +kernel
theorem tyX10_ok : ∀ k, k < 39 → parseFieldDescriptor (TX10 k).2.2.1 = some (tyX10 k) := by decide +kernel
abbrev cX10_init : ByteArray := prog_12_method_1_code
def yX10_init : MethodName := ⟨RX10, "<init>", "()V"⟩
abbrev cX10_in : ByteArray := prog_12_method_3_code
def yX10_in : MethodName := ⟨RX10, "in", "(JJJ)Z"⟩
abbrev cX10_has : ByteArray := prog_12_method_4_code
def yX10_has : MethodName := ⟨RX10, "has", "(II)Z"⟩
abbrev cX10_ones : ByteArray := prog_12_method_5_code
def yX10_ones : MethodName := ⟨RX10, "ones", "(I)I"⟩
abbrev cX10_power : ByteArray := prog_12_method_6_code
def yX10_power : MethodName := ⟨RX10, "power", "(II)I"⟩
abbrev cX10_layTrial : ByteArray := prog_12_method_7_code
def yX10_layTrial : MethodName := ⟨RX10, "layTrial", "()V"⟩
abbrev cX10_noGate : ByteArray := prog_12_method_8_code
def yX10_noGate : MethodName := ⟨RX10, "noGate", "(I)Z"⟩
abbrev cX10_noChip : ByteArray := prog_12_method_9_code
def yX10_noChip : MethodName := ⟨RX10, "noChip", "(I)Z"⟩
abbrev cX10_write : ByteArray := prog_12_method_10_code
def yX10_write : MethodName := ⟨RX10, "write", "(I)I"⟩
abbrev cX10_wipe : ByteArray := prog_12_method_11_code
def yX10_wipe : MethodName := ⟨RX10, "wipe", "()I"⟩
abbrev cX10_figure : ByteArray := prog_12_method_12_code
def yX10_figure : MethodName := ⟨RX10, "figure", "(II)I"⟩
abbrev cX10_readHead : ByteArray := prog_12_method_13_code
def yX10_readHead : MethodName := ⟨RX10, "readHead", "()Z"⟩
abbrev cX10_kindOf : ByteArray := prog_12_method_14_code
def yX10_kindOf : MethodName := ⟨RX10, "kindOf", "(I)I"⟩
abbrev cX10_readPart : ByteArray := prog_12_method_15_code
def yX10_readPart : MethodName := ⟨RX10, "readPart", "()Z"⟩
abbrev cX10_readBoard : ByteArray := prog_12_method_16_code
def yX10_readBoard : MethodName := ⟨RX10, "readBoard", "()I"⟩
abbrev cX10_fault : ByteArray := prog_12_method_17_code
def yX10_fault : MethodName := ⟨RX10, "fault", "()I"⟩
abbrev cX10_board : ByteArray := prog_12_method_18_code
def yX10_board : MethodName := ⟨RX10, "board", "()I"⟩
abbrev cX10_stands : ByteArray := prog_12_method_19_code
def yX10_stands : MethodName := ⟨RX10, "stands", "(I)Z"⟩
abbrev cX10_worthBy : ByteArray := prog_12_method_20_code
def yX10_worthBy : MethodName := ⟨RX10, "worthBy", "(III)I"⟩
abbrev cX10_layWorth : ByteArray := prog_12_method_21_code
def yX10_layWorth : MethodName := ⟨RX10, "layWorth", "([II)V"⟩
abbrev cX10_stepOn : ByteArray := prog_12_method_22_code
def yX10_stepOn : MethodName := ⟨RX10, "stepOn", "([II)V"⟩
abbrev cX10_worthOf : ByteArray := prog_12_method_23_code
def yX10_worthOf : MethodName := ⟨RX10, "worthOf", "([II)I"⟩
abbrev cX10_isAt : ByteArray := prog_12_method_24_code
def yX10_isAt : MethodName := ⟨RX10, "isAt", "(II)Z"⟩
abbrev cX10_layReady : ByteArray := prog_12_method_25_code
def yX10_layReady : MethodName := ⟨RX10, "layReady", "([II)V"⟩
abbrev cX10_isWanted : ByteArray := prog_12_method_26_code
def yX10_isWanted : MethodName := ⟨RX10, "isWanted", "([III)Z"⟩
abbrev cX10_layGoing : ByteArray := prog_12_method_27_code
def yX10_layGoing : MethodName := ⟨RX10, "layGoing", "([IIII)I"⟩
abbrev cX10_laySchedule : ByteArray := prog_12_method_28_code
def yX10_laySchedule : MethodName := ⟨RX10, "laySchedule", "([IIII)V"⟩
abbrev cX10_usedBy : ByteArray := prog_12_method_29_code
def yX10_usedBy : MethodName := ⟨RX10, "usedBy", "(I)I"⟩
abbrev cX10_gate : ByteArray := prog_12_method_30_code
def yX10_gate : MethodName := ⟨RX10, "gate", "(II)I"⟩
abbrev cX10_note : ByteArray := prog_12_method_31_code
def yX10_note : MethodName := ⟨RX10, "note", "()V"⟩
abbrev cX10_step : ByteArray := prog_12_method_32_code
def yX10_step : MethodName := ⟨RX10, "step", "(I)I"⟩
abbrev cX10_input : ByteArray := prog_12_method_33_code
def yX10_input : MethodName := ⟨RX10, "input", "(II)I"⟩
abbrev cX10_lay : ByteArray := prog_12_method_34_code
def yX10_lay : MethodName := ⟨RX10, "lay", "(II)I"⟩
abbrev cX10_pins : ByteArray := prog_12_method_35_code
def yX10_pins : MethodName := ⟨RX10, "pins", "(I)I"⟩
abbrev cX10_undo : ByteArray := prog_12_method_36_code
def yX10_undo : MethodName := ⟨RX10, "undo", "()I"⟩
abbrev cX10_ahead : ByteArray := prog_12_method_37_code
def yX10_ahead : MethodName := ⟨RX10, "ahead", "(II)I"⟩
abbrev cX10_stateOf : ByteArray := prog_12_method_38_code
def yX10_stateOf : MethodName := ⟨RX10, "stateOf", "([I)I"⟩
abbrev cX10_round : ByteArray := prog_12_method_39_code
def yX10_round : MethodName := ⟨RX10, "round", "(I)I"⟩
abbrev cX10_when : ByteArray := prog_12_method_40_code
def yX10_when : MethodName := ⟨RX10, "when", "(II)I"⟩
abbrev cX10_best : ByteArray := prog_12_method_41_code
def yX10_best : MethodName := ⟨RX10, "best", "()I"⟩
abbrev cX10_slots : ByteArray := prog_12_method_42_code
def yX10_slots : MethodName := ⟨RX10, "slots", "(I)I"⟩
abbrev cX10_fewest : ByteArray := prog_12_method_43_code
def yX10_fewest : MethodName := ⟨RX10, "fewest", "(I)I"⟩
abbrev cX10_does : ByteArray := prog_12_method_44_code
def yX10_does : MethodName := ⟨RX10, "does", "(III)Z"⟩
abbrev cX10_longPower : ByteArray := prog_12_method_45_code
def yX10_longPower : MethodName := ⟨RX10, "longPower", "(JI)J"⟩
abbrev cX10_judge : ByteArray := prog_12_method_46_code
def yX10_judge : MethodName := ⟨RX10, "judge", "(IJ)I"⟩
abbrev cX10_see : ByteArray := prog_12_method_47_code
def yX10_see : MethodName := ⟨RX10, "see", "(IIII)I"⟩
abbrev cX10_unsee : ByteArray := prog_12_method_48_code
def yX10_unsee : MethodName := ⟨RX10, "unsee", "()I"⟩
abbrev cX10_isSo : ByteArray := prog_12_method_49_code
def yX10_isSo : MethodName := ⟨RX10, "isSo", "(II)Z"⟩
abbrev cX10_which : ByteArray := prog_12_method_50_code
def yX10_which : MethodName := ⟨RX10, "which", "()I"⟩
abbrev cX10_divisor : ByteArray := prog_12_method_51_code
def yX10_divisor : MethodName := ⟨RX10, "divisor", "(II)I"⟩
abbrev cX10_fraction : ByteArray := prog_12_method_52_code
def yX10_fraction : MethodName := ⟨RX10, "fraction", "(IIZ)I"⟩
abbrev cX10_factorial : ByteArray := prog_12_method_53_code
def yX10_factorial : MethodName := ⟨RX10, "factorial", "(I)I"⟩
abbrev cX10_thereBy : ByteArray := prog_12_method_54_code
def yX10_thereBy : MethodName := ⟨RX10, "thereBy", "(I)I"⟩
abbrev cX10_share : ByteArray := prog_12_method_55_code
def yX10_share : MethodName := ⟨RX10, "share", "(IZ)I"⟩
abbrev cX10_fails : ByteArray := prog_12_method_56_code
def yX10_fails : MethodName := ⟨RX10, "fails", "(IIIIZ)I"⟩
abbrev cX10_seed : ByteArray := prog_12_method_57_code
def yX10_seed : MethodName := ⟨RX10, "seed", "(J)J"⟩
abbrev cX10_drawn : ByteArray := prog_12_method_58_code
def yX10_drawn : MethodName := ⟨RX10, "drawn", "(I)I"⟩
abbrev cX10_keep : ByteArray := prog_12_method_59_code
def yX10_keep : MethodName := ⟨RX10, "keep", "(I)I"⟩
abbrev cX10_again : ByteArray := prog_12_method_60_code
def yX10_again : MethodName := ⟨RX10, "again", "(I)I"⟩
abbrev cX10_ofKind : ByteArray := prog_12_method_61_code
def yX10_ofKind : MethodName := ⟨RX10, "ofKind", "(I)I"⟩
abbrev cX10_worthSo : ByteArray := prog_12_method_62_code
def yX10_worthSo : MethodName := ⟨RX10, "worthSo", "(I)I"⟩
abbrev cX10_count : ByteArray := prog_12_method_63_code
def yX10_count : MethodName := ⟨RX10, "count", "(I)I"⟩
def RJ6 : String := "java/lang/Integer"
def TJ6 : u_T := fun k => match k with
  | _ => ("", "", "", false)
def tyJ6 : Nat → FieldType := fun k => match k with
  | _ => .int
abbrev wsJ60 : List Cond := u_ws RJ6 TJ6 0
theorem nmJ6 : ∀ a, a < 0 → ∀ b, b < 0 → a ≠ b → (TJ6 a).2.1 ≠ (TJ6 b).2.1 := by decide +kernel
theorem tyJ6_ok : ∀ k, k < 0 → parseFieldDescriptor (TJ6 k).2.2.1 = some (tyJ6 k) := by decide +kernel
abbrev cJ6_bitCount_0f7a4 : ByteArray := prog_13_method_49_code
def yJ6_bitCount_0f7a4 : MethodName := ⟨RJ6, "bitCount", "(I)I"⟩
def RJ9 : String := "java/lang/Math"
def TJ9 : u_T := fun k => match k with
  | _ => ("", "", "", false)
def tyJ9 : Nat → FieldType := fun k => match k with
  | _ => .int
abbrev wsJ90 : List Cond := u_ws RJ9 TJ9 0
theorem nmJ9 : ∀ a, a < 0 → ∀ b, b < 0 → a ≠ b → (TJ9 a).2.1 ≠ (TJ9 b).2.1 := by decide +kernel
theorem tyJ9_ok : ∀ k, k < 0 → parseFieldDescriptor (TJ9 k).2.2.1 = some (tyJ9 k) := by decide +kernel
abbrev cJ9_max_7cf53 : ByteArray := prog_14_method_65_code
def yJ9_max_7cf53 : MethodName := ⟨RJ9, "max", "(II)I"⟩
abbrev cJ9_min_7cf53 : ByteArray := prog_14_method_69_code
def yJ9_min_7cf53 : MethodName := ⟨RJ9, "min", "(II)I"⟩
def RL : String := "ChipSlotsLaw"
abbrev cL_law : ByteArray := code
def yL_law : MethodName := ⟨RL, "law", "([I)Z"⟩
abbrev vwCl : List vw_C := [(RX0, TX0, 3), (RX1, TX1, 3), (RX2, TX2, 12), (RX3, TX3, 2), (RX4, TX4, 7), (RX5, TX5, 1), (RX6, TX6, 5), (RX7, TX7, 5), (RX8, TX8, 2), (RX9, TX9, 14), (RX10, TX10, 39)]
