section
-- ===== PART A: goes FIRST, ahead of the names: the tables' words, and 'selects' of the private methods out of them =====
/-- a private method of a class that the tables say can be made, by its rows of tables_1 -/
def lw_okq (q : MethodName × Nat) : Prop := (q.1.cls ≠ "java/lang/invoke/MethodHandle" ∧ q.1.cls ≠ "java/lang/invoke/VarHandle") ∧ Cond.instantiable q.1.cls q.2 ∈ tables_1 ∧ Cond.privateMethod q.1 ∈ tables_1 ∧ Cond.instanceMethod q.1 ∈ tables_1
theorem lw_p0 : lw_okq (⟨"BurstBounds", "stepsOf", "(IIII)I"⟩, 9) := ⟨⟨by decide +kernel, by decide +kernel⟩, List.mem_of_getElem? (i := 13) (by decide +kernel), List.mem_of_getElem? (i := 209) (by decide +kernel), List.mem_of_getElem? (i := 210) (by decide +kernel)⟩
theorem lw_p1 : lw_okq (⟨"BurstBounds$Sheets", "whyUntaken", "(II)I"⟩, 3) := ⟨⟨by decide +kernel, by decide +kernel⟩, List.mem_of_getElem? (i := 125) (by decide +kernel), List.mem_of_getElem? (i := 217) (by decide +kernel), List.mem_of_getElem? (i := 218) (by decide +kernel)⟩
theorem lw_p2 : lw_okq (⟨"BurstBounds$Sheets", "isLane", "(I)Z"⟩, 3) := ⟨⟨by decide +kernel, by decide +kernel⟩, List.mem_of_getElem? (i := 125) (by decide +kernel), List.mem_of_getElem? (i := 225) (by decide +kernel), List.mem_of_getElem? (i := 226) (by decide +kernel)⟩
theorem lw_p3 : lw_okq (⟨"BurstBounds$Sheets", "isBeyond", "(III)Z"⟩, 3) := ⟨⟨by decide +kernel, by decide +kernel⟩, List.mem_of_getElem? (i := 125) (by decide +kernel), List.mem_of_getElem? (i := 229) (by decide +kernel), List.mem_of_getElem? (i := 230) (by decide +kernel)⟩
theorem lw_p4 : lw_okq (⟨"BurstBounds", "isRowOfSteps", "(I)Z"⟩, 9) := ⟨⟨by decide +kernel, by decide +kernel⟩, List.mem_of_getElem? (i := 13) (by decide +kernel), List.mem_of_getElem? (i := 236) (by decide +kernel), List.mem_of_getElem? (i := 237) (by decide +kernel)⟩
theorem lw_p5 : lw_okq (⟨"BurstBounds", "ended", "(I)I"⟩, 9) := ⟨⟨by decide +kernel, by decide +kernel⟩, List.mem_of_getElem? (i := 13) (by decide +kernel), List.mem_of_getElem? (i := 262) (by decide +kernel), List.mem_of_getElem? (i := 263) (by decide +kernel)⟩
theorem lw_p6 : lw_okq (⟨"BurstBounds", "stairOfText", "(IIII)I"⟩, 9) := ⟨⟨by decide +kernel, by decide +kernel⟩, List.mem_of_getElem? (i := 13) (by decide +kernel), List.mem_of_getElem? (i := 284) (by decide +kernel), List.mem_of_getElem? (i := 285) (by decide +kernel)⟩
theorem lw_p7 : lw_okq (⟨"BurstBounds$TextReader", "readItem", "()V"⟩, 8) := ⟨⟨by decide +kernel, by decide +kernel⟩, List.mem_of_getElem? (i := 144) (by decide +kernel), List.mem_of_getElem? (i := 293) (by decide +kernel), List.mem_of_getElem? (i := 294) (by decide +kernel)⟩
theorem lw_p8 : lw_okq (⟨"BurstBounds$TextReader", "codeHere", "()I"⟩, 8) := ⟨⟨by decide +kernel, by decide +kernel⟩, List.mem_of_getElem? (i := 144) (by decide +kernel), List.mem_of_getElem? (i := 297) (by decide +kernel), List.mem_of_getElem? (i := 298) (by decide +kernel)⟩
theorem lw_p9 : lw_okq (⟨"BurstBounds$TextReader", "readNumber", "(I)I"⟩, 8) := ⟨⟨by decide +kernel, by decide +kernel⟩, List.mem_of_getElem? (i := 144) (by decide +kernel), List.mem_of_getElem? (i := 301) (by decide +kernel), List.mem_of_getElem? (i := 302) (by decide +kernel)⟩
theorem lw_p10 : lw_okq (⟨"BurstBounds$TextReader", "readPace", "()I"⟩, 8) := ⟨⟨by decide +kernel, by decide +kernel⟩, List.mem_of_getElem? (i := 144) (by decide +kernel), List.mem_of_getElem? (i := 308) (by decide +kernel), List.mem_of_getElem? (i := 309) (by decide +kernel)⟩
theorem lw_p11 : lw_okq (⟨"BurstBounds$TextReader", "goesOn", "()Z"⟩, 8) := ⟨⟨by decide +kernel, by decide +kernel⟩, List.mem_of_getElem? (i := 144) (by decide +kernel), List.mem_of_getElem? (i := 318) (by decide +kernel), List.mem_of_getElem? (i := 319) (by decide +kernel)⟩
theorem lw_p12 : lw_okq (⟨"BurstBounds$TextReader", "readSign", "()V"⟩, 8) := ⟨⟨by decide +kernel, by decide +kernel⟩, List.mem_of_getElem? (i := 144) (by decide +kernel), List.mem_of_getElem? (i := 322) (by decide +kernel), List.mem_of_getElem? (i := 323) (by decide +kernel)⟩
theorem lw_p13 : lw_okq (⟨"BurstBounds$TextReader", "joinItem", "()V"⟩, 8) := ⟨⟨by decide +kernel, by decide +kernel⟩, List.mem_of_getElem? (i := 144) (by decide +kernel), List.mem_of_getElem? (i := 326) (by decide +kernel), List.mem_of_getElem? (i := 327) (by decide +kernel)⟩
theorem lw_p14 : lw_okq (⟨"BurstBounds", "newFlow", "(IIIII)I"⟩, 9) := ⟨⟨by decide +kernel, by decide +kernel⟩, List.mem_of_getElem? (i := 13) (by decide +kernel), List.mem_of_getElem? (i := 415) (by decide +kernel), List.mem_of_getElem? (i := 416) (by decide +kernel)⟩
theorem lw_p15 : lw_okq (⟨"BurstBounds", "whyNoWay", "(I)I"⟩, 9) := ⟨⟨by decide +kernel, by decide +kernel⟩, List.mem_of_getElem? (i := 13) (by decide +kernel), List.mem_of_getElem? (i := 419) (by decide +kernel), List.mem_of_getElem? (i := 420) (by decide +kernel)⟩
def lw_privs_1 : List (MethodName × Nat) := [(⟨"BurstBounds", "stepsOf", "(IIII)I"⟩, 9), (⟨"BurstBounds$Sheets", "whyUntaken", "(II)I"⟩, 3), (⟨"BurstBounds$Sheets", "isLane", "(I)Z"⟩, 3), (⟨"BurstBounds$Sheets", "isBeyond", "(III)Z"⟩, 3), (⟨"BurstBounds", "isRowOfSteps", "(I)Z"⟩, 9), (⟨"BurstBounds", "ended", "(I)I"⟩, 9), (⟨"BurstBounds", "stairOfText", "(IIII)I"⟩, 9), (⟨"BurstBounds$TextReader", "readItem", "()V"⟩, 8), (⟨"BurstBounds$TextReader", "codeHere", "()I"⟩, 8), (⟨"BurstBounds$TextReader", "readNumber", "(I)I"⟩, 8), (⟨"BurstBounds$TextReader", "readPace", "()I"⟩, 8), (⟨"BurstBounds$TextReader", "goesOn", "()Z"⟩, 8), (⟨"BurstBounds$TextReader", "readSign", "()V"⟩, 8), (⟨"BurstBounds$TextReader", "joinItem", "()V"⟩, 8), (⟨"BurstBounds", "newFlow", "(IIIII)I"⟩, 9), (⟨"BurstBounds", "whyNoWay", "(I)I"⟩, 9)]
theorem lw_r1 : ∀ q ∈ lw_privs_1, lw_okq q := List.forall_mem_cons.mpr ⟨lw_p0, List.forall_mem_cons.mpr ⟨lw_p1, List.forall_mem_cons.mpr ⟨lw_p2, List.forall_mem_cons.mpr ⟨lw_p3, List.forall_mem_cons.mpr ⟨lw_p4, List.forall_mem_cons.mpr ⟨lw_p5, List.forall_mem_cons.mpr ⟨lw_p6, List.forall_mem_cons.mpr ⟨lw_p7, List.forall_mem_cons.mpr ⟨lw_p8, List.forall_mem_cons.mpr ⟨lw_p9, List.forall_mem_cons.mpr ⟨lw_p10, List.forall_mem_cons.mpr ⟨lw_p11, List.forall_mem_cons.mpr ⟨lw_p12, List.forall_mem_cons.mpr ⟨lw_p13, List.forall_mem_cons.mpr ⟨lw_p14, List.forall_mem_cons.mpr ⟨lw_p15, fun _ h => absurd h List.not_mem_nil⟩⟩⟩⟩⟩⟩⟩⟩⟩⟩⟩⟩⟩⟩⟩⟩
theorem lw_p16 : lw_okq (⟨"BurstBounds$Network", "orderNodes", "()I"⟩, 16) := ⟨⟨by decide +kernel, by decide +kernel⟩, List.mem_of_getElem? (i := 42) (by decide +kernel), List.mem_of_getElem? (i := 465) (by decide +kernel), List.mem_of_getElem? (i := 466) (by decide +kernel)⟩
theorem lw_p17 : lw_okq (⟨"BurstBounds$Network", "noteAhead", "()V"⟩, 16) := ⟨⟨by decide +kernel, by decide +kernel⟩, List.mem_of_getElem? (i := 42) (by decide +kernel), List.mem_of_getElem? (i := 469) (by decide +kernel), List.mem_of_getElem? (i := 470) (by decide +kernel)⟩
theorem lw_p18 : lw_okq (⟨"BurstBounds$Network", "isServedOnWays", "()Z"⟩, 16) := ⟨⟨by decide +kernel, by decide +kernel⟩, List.mem_of_getElem? (i := 42) (by decide +kernel), List.mem_of_getElem? (i := 481) (by decide +kernel), List.mem_of_getElem? (i := 482) (by decide +kernel)⟩
theorem lw_p19 : lw_okq (⟨"BurstBounds$Network", "workOut", "()Z"⟩, 16) := ⟨⟨by decide +kernel, by decide +kernel⟩, List.mem_of_getElem? (i := 42) (by decide +kernel), List.mem_of_getElem? (i := 485) (by decide +kernel), List.mem_of_getElem? (i := 486) (by decide +kernel)⟩
theorem lw_p20 : lw_okq (⟨"BurstBounds$Network", "placeOn", "(II)I"⟩, 16) := ⟨⟨by decide +kernel, by decide +kernel⟩, List.mem_of_getElem? (i := 42) (by decide +kernel), List.mem_of_getElem? (i := 489) (by decide +kernel), List.mem_of_getElem? (i := 490) (by decide +kernel)⟩
theorem lw_p21 : lw_okq (⟨"BurstBounds$Network", "workOutAt", "(II)Z"⟩, 16) := ⟨⟨by decide +kernel, by decide +kernel⟩, List.mem_of_getElem? (i := 42) (by decide +kernel), List.mem_of_getElem? (i := 493) (by decide +kernel), List.mem_of_getElem? (i := 494) (by decide +kernel)⟩
theorem lw_p22 : lw_okq (⟨"BurstBounds$Network", "sumComing", "(III)V"⟩, 16) := ⟨⟨by decide +kernel, by decide +kernel⟩, List.mem_of_getElem? (i := 42) (by decide +kernel), List.mem_of_getElem? (i := 497) (by decide +kernel), List.mem_of_getElem? (i := 498) (by decide +kernel)⟩
theorem lw_p23 : lw_okq (⟨"BurstBounds", "seenOf", "(IIII)I"⟩, 9) := ⟨⟨by decide +kernel, by decide +kernel⟩, List.mem_of_getElem? (i := 13) (by decide +kernel), List.mem_of_getElem? (i := 552) (by decide +kernel), List.mem_of_getElem? (i := 553) (by decide +kernel)⟩
theorem lw_p24 : lw_okq (⟨"BurstBounds$Sheets", "cut", "(II)I"⟩, 3) := ⟨⟨by decide +kernel, by decide +kernel⟩, List.mem_of_getElem? (i := 125) (by decide +kernel), List.mem_of_getElem? (i := 628) (by decide +kernel), List.mem_of_getElem? (i := 629) (by decide +kernel)⟩
theorem lw_p25 : lw_okq (⟨"BurstBounds", "toldByLate", "(I)I"⟩, 9) := ⟨⟨by decide +kernel, by decide +kernel⟩, List.mem_of_getElem? (i := 13) (by decide +kernel), List.mem_of_getElem? (i := 653) (by decide +kernel), List.mem_of_getElem? (i := 654) (by decide +kernel)⟩
theorem lw_p26 : lw_okq (⟨"BurstBounds", "leaveInTrace", "(I)V"⟩, 9) := ⟨⟨by decide +kernel, by decide +kernel⟩, List.mem_of_getElem? (i := 13) (by decide +kernel), List.mem_of_getElem? (i := 657) (by decide +kernel), List.mem_of_getElem? (i := 658) (by decide +kernel)⟩
theorem lw_p27 : lw_okq (⟨"BurstBounds", "toldByBucket", "(I)I"⟩, 9) := ⟨⟨by decide +kernel, by decide +kernel⟩, List.mem_of_getElem? (i := 13) (by decide +kernel), List.mem_of_getElem? (i := 661) (by decide +kernel), List.mem_of_getElem? (i := 662) (by decide +kernel)⟩
theorem lw_p28 : lw_okq (⟨"BurstBounds", "toldBySteps", "(I)I"⟩, 9) := ⟨⟨by decide +kernel, by decide +kernel⟩, List.mem_of_getElem? (i := 13) (by decide +kernel), List.mem_of_getElem? (i := 665) (by decide +kernel), List.mem_of_getElem? (i := 666) (by decide +kernel)⟩
theorem lw_p29 : lw_okq (⟨"BurstBounds", "takenAs", "(II)I"⟩, 9) := ⟨⟨by decide +kernel, by decide +kernel⟩, List.mem_of_getElem? (i := 13) (by decide +kernel), List.mem_of_getElem? (i := 678) (by decide +kernel), List.mem_of_getElem? (i := 679) (by decide +kernel)⟩
theorem lw_p30 : lw_okq (⟨"BurstBoundsModel", "refused", "(I)I"⟩, 25) := ⟨⟨by decide +kernel, by decide +kernel⟩, List.mem_of_getElem? (i := 698) (by decide +kernel), List.mem_of_getElem? (i := 791) (by decide +kernel), List.mem_of_getElem? (i := 792) (by decide +kernel)⟩
theorem lw_p31 : lw_okq (⟨"BurstBoundsModel", "barred", "(IIIJ)I"⟩, 25) := ⟨⟨by decide +kernel, by decide +kernel⟩, List.mem_of_getElem? (i := 698) (by decide +kernel), List.mem_of_getElem? (i := 795) (by decide +kernel), List.mem_of_getElem? (i := 796) (by decide +kernel)⟩
def lw_privs_2 : List (MethodName × Nat) := [(⟨"BurstBounds$Network", "orderNodes", "()I"⟩, 16), (⟨"BurstBounds$Network", "noteAhead", "()V"⟩, 16), (⟨"BurstBounds$Network", "isServedOnWays", "()Z"⟩, 16), (⟨"BurstBounds$Network", "workOut", "()Z"⟩, 16), (⟨"BurstBounds$Network", "placeOn", "(II)I"⟩, 16), (⟨"BurstBounds$Network", "workOutAt", "(II)Z"⟩, 16), (⟨"BurstBounds$Network", "sumComing", "(III)V"⟩, 16), (⟨"BurstBounds", "seenOf", "(IIII)I"⟩, 9), (⟨"BurstBounds$Sheets", "cut", "(II)I"⟩, 3), (⟨"BurstBounds", "toldByLate", "(I)I"⟩, 9), (⟨"BurstBounds", "leaveInTrace", "(I)V"⟩, 9), (⟨"BurstBounds", "toldByBucket", "(I)I"⟩, 9), (⟨"BurstBounds", "toldBySteps", "(I)I"⟩, 9), (⟨"BurstBounds", "takenAs", "(II)I"⟩, 9), (⟨"BurstBoundsModel", "refused", "(I)I"⟩, 25), (⟨"BurstBoundsModel", "barred", "(IIIJ)I"⟩, 25)]
theorem lw_r2 : ∀ q ∈ lw_privs_2, lw_okq q := List.forall_mem_cons.mpr ⟨lw_p16, List.forall_mem_cons.mpr ⟨lw_p17, List.forall_mem_cons.mpr ⟨lw_p18, List.forall_mem_cons.mpr ⟨lw_p19, List.forall_mem_cons.mpr ⟨lw_p20, List.forall_mem_cons.mpr ⟨lw_p21, List.forall_mem_cons.mpr ⟨lw_p22, List.forall_mem_cons.mpr ⟨lw_p23, List.forall_mem_cons.mpr ⟨lw_p24, List.forall_mem_cons.mpr ⟨lw_p25, List.forall_mem_cons.mpr ⟨lw_p26, List.forall_mem_cons.mpr ⟨lw_p27, List.forall_mem_cons.mpr ⟨lw_p28, List.forall_mem_cons.mpr ⟨lw_p29, List.forall_mem_cons.mpr ⟨lw_p30, List.forall_mem_cons.mpr ⟨lw_p31, fun _ h => absurd h List.not_mem_nil⟩⟩⟩⟩⟩⟩⟩⟩⟩⟩⟩⟩⟩⟩⟩⟩
theorem lw_p32 : lw_okq (⟨"BurstBoundsModel", "failed", "(I)I"⟩, 25) := ⟨⟨by decide +kernel, by decide +kernel⟩, List.mem_of_getElem? (i := 698) (by decide +kernel), List.mem_of_getElem? (i := 800) (by decide +kernel), List.mem_of_getElem? (i := 801) (by decide +kernel)⟩
theorem lw_p33 : lw_okq (⟨"BurstBoundsModel", "areSteps", "(II)Z"⟩, 25) := ⟨⟨by decide +kernel, by decide +kernel⟩, List.mem_of_getElem? (i := 698) (by decide +kernel), List.mem_of_getElem? (i := 807) (by decide +kernel), List.mem_of_getElem? (i := 808) (by decide +kernel)⟩
theorem lw_p34 : lw_okq (⟨"BurstBoundsModel", "set", "(IIJ)V"⟩, 25) := ⟨⟨by decide +kernel, by decide +kernel⟩, List.mem_of_getElem? (i := 698) (by decide +kernel), List.mem_of_getElem? (i := 813) (by decide +kernel), List.mem_of_getElem? (i := 814) (by decide +kernel)⟩
theorem lw_p35 : lw_okq (⟨"BurstBoundsModel", "of", "(II)I"⟩, 25) := ⟨⟨by decide +kernel, by decide +kernel⟩, List.mem_of_getElem? (i := 698) (by decide +kernel), List.mem_of_getElem? (i := 819) (by decide +kernel), List.mem_of_getElem? (i := 820) (by decide +kernel)⟩
theorem lw_p36 : lw_okq (⟨"BurstBoundsModel", "keep", "(I)I"⟩, 25) := ⟨⟨by decide +kernel, by decide +kernel⟩, List.mem_of_getElem? (i := 698) (by decide +kernel), List.mem_of_getElem? (i := 826) (by decide +kernel), List.mem_of_getElem? (i := 827) (by decide +kernel)⟩
theorem lw_p37 : lw_okq (⟨"BurstBoundsModel", "layBucket", "(III)V"⟩, 25) := ⟨⟨by decide +kernel, by decide +kernel⟩, List.mem_of_getElem? (i := 698) (by decide +kernel), List.mem_of_getElem? (i := 835) (by decide +kernel), List.mem_of_getElem? (i := 836) (by decide +kernel)⟩
theorem lw_p38 : lw_okq (⟨"BurstBoundsModel", "layLate", "(III)V"⟩, 25) := ⟨⟨by decide +kernel, by decide +kernel⟩, List.mem_of_getElem? (i := 698) (by decide +kernel), List.mem_of_getElem? (i := 843) (by decide +kernel), List.mem_of_getElem? (i := 844) (by decide +kernel)⟩
theorem lw_p39 : lw_okq (⟨"BurstBoundsModel", "readStair", "(II)I"⟩, 25) := ⟨⟨by decide +kernel, by decide +kernel⟩, List.mem_of_getElem? (i := 698) (by decide +kernel), List.mem_of_getElem? (i := 851) (by decide +kernel), List.mem_of_getElem? (i := 852) (by decide +kernel)⟩
theorem lw_p40 : lw_okq (⟨"BurstBoundsModel", "readsItem", "(II)Z"⟩, 25) := ⟨⟨by decide +kernel, by decide +kernel⟩, List.mem_of_getElem? (i := 698) (by decide +kernel), List.mem_of_getElem? (i := 855) (by decide +kernel), List.mem_of_getElem? (i := 856) (by decide +kernel)⟩
theorem lw_p41 : lw_okq (⟨"BurstBoundsModel", "readsNumber", "(III)Z"⟩, 25) := ⟨⟨by decide +kernel, by decide +kernel⟩, List.mem_of_getElem? (i := 698) (by decide +kernel), List.mem_of_getElem? (i := 859) (by decide +kernel), List.mem_of_getElem? (i := 860) (by decide +kernel)⟩
theorem lw_p42 : lw_okq (⟨"BurstBoundsModel", "layItem", "(II)V"⟩, 25) := ⟨⟨by decide +kernel, by decide +kernel⟩, List.mem_of_getElem? (i := 698) (by decide +kernel), List.mem_of_getElem? (i := 865) (by decide +kernel), List.mem_of_getElem? (i := 866) (by decide +kernel)⟩
theorem lw_p43 : lw_okq (⟨"BurstBoundsModel", "layBoth", "(IIII)V"⟩, 25) := ⟨⟨by decide +kernel, by decide +kernel⟩, List.mem_of_getElem? (i := 698) (by decide +kernel), List.mem_of_getElem? (i := 869) (by decide +kernel), List.mem_of_getElem? (i := 870) (by decide +kernel)⟩
theorem lw_p44 : lw_okq (⟨"BurstBoundsModel", "alongAt", "(III)I"⟩, 25) := ⟨⟨by decide +kernel, by decide +kernel⟩, List.mem_of_getElem? (i := 698) (by decide +kernel), List.mem_of_getElem? (i := 873) (by decide +kernel), List.mem_of_getElem? (i := 874) (by decide +kernel)⟩
theorem lw_p45 : lw_okq (⟨"BurstBoundsModel", "outAt", "(III)I"⟩, 25) := ⟨⟨by decide +kernel, by decide +kernel⟩, List.mem_of_getElem? (i := 698) (by decide +kernel), List.mem_of_getElem? (i := 877) (by decide +kernel), List.mem_of_getElem? (i := 878) (by decide +kernel)⟩
theorem lw_p46 : lw_okq (⟨"BurstBoundsModel", "noStair", "(I)Z"⟩, 25) := ⟨⟨by decide +kernel, by decide +kernel⟩, List.mem_of_getElem? (i := 698) (by decide +kernel), List.mem_of_getElem? (i := 888) (by decide +kernel), List.mem_of_getElem? (i := 889) (by decide +kernel)⟩
theorem lw_p47 : lw_okq (⟨"BurstBoundsModel", "layMoved", "(IIII)V"⟩, 25) := ⟨⟨by decide +kernel, by decide +kernel⟩, List.mem_of_getElem? (i := 698) (by decide +kernel), List.mem_of_getElem? (i := 901) (by decide +kernel), List.mem_of_getElem? (i := 902) (by decide +kernel)⟩
def lw_privs_3 : List (MethodName × Nat) := [(⟨"BurstBoundsModel", "failed", "(I)I"⟩, 25), (⟨"BurstBoundsModel", "areSteps", "(II)Z"⟩, 25), (⟨"BurstBoundsModel", "set", "(IIJ)V"⟩, 25), (⟨"BurstBoundsModel", "of", "(II)I"⟩, 25), (⟨"BurstBoundsModel", "keep", "(I)I"⟩, 25), (⟨"BurstBoundsModel", "layBucket", "(III)V"⟩, 25), (⟨"BurstBoundsModel", "layLate", "(III)V"⟩, 25), (⟨"BurstBoundsModel", "readStair", "(II)I"⟩, 25), (⟨"BurstBoundsModel", "readsItem", "(II)Z"⟩, 25), (⟨"BurstBoundsModel", "readsNumber", "(III)Z"⟩, 25), (⟨"BurstBoundsModel", "layItem", "(II)V"⟩, 25), (⟨"BurstBoundsModel", "layBoth", "(IIII)V"⟩, 25), (⟨"BurstBoundsModel", "alongAt", "(III)I"⟩, 25), (⟨"BurstBoundsModel", "outAt", "(III)I"⟩, 25), (⟨"BurstBoundsModel", "noStair", "(I)Z"⟩, 25), (⟨"BurstBoundsModel", "layMoved", "(IIII)V"⟩, 25)]
theorem lw_r3 : ∀ q ∈ lw_privs_3, lw_okq q := List.forall_mem_cons.mpr ⟨lw_p32, List.forall_mem_cons.mpr ⟨lw_p33, List.forall_mem_cons.mpr ⟨lw_p34, List.forall_mem_cons.mpr ⟨lw_p35, List.forall_mem_cons.mpr ⟨lw_p36, List.forall_mem_cons.mpr ⟨lw_p37, List.forall_mem_cons.mpr ⟨lw_p38, List.forall_mem_cons.mpr ⟨lw_p39, List.forall_mem_cons.mpr ⟨lw_p40, List.forall_mem_cons.mpr ⟨lw_p41, List.forall_mem_cons.mpr ⟨lw_p42, List.forall_mem_cons.mpr ⟨lw_p43, List.forall_mem_cons.mpr ⟨lw_p44, List.forall_mem_cons.mpr ⟨lw_p45, List.forall_mem_cons.mpr ⟨lw_p46, List.forall_mem_cons.mpr ⟨lw_p47, fun _ h => absurd h List.not_mem_nil⟩⟩⟩⟩⟩⟩⟩⟩⟩⟩⟩⟩⟩⟩⟩⟩
theorem lw_p48 : lw_okq (⟨"BurstBoundsModel", "waitOf", "(III)I"⟩, 25) := ⟨⟨by decide +kernel, by decide +kernel⟩, List.mem_of_getElem? (i := 698) (by decide +kernel), List.mem_of_getElem? (i := 909) (by decide +kernel), List.mem_of_getElem? (i := 910) (by decide +kernel)⟩
theorem lw_p49 : lw_okq (⟨"BurstBoundsModel", "laterBy", "(III)I"⟩, 25) := ⟨⟨by decide +kernel, by decide +kernel⟩, List.mem_of_getElem? (i := 698) (by decide +kernel), List.mem_of_getElem? (i := 913) (by decide +kernel), List.mem_of_getElem? (i := 914) (by decide +kernel)⟩
theorem lw_p50 : lw_okq (⟨"BurstBoundsModel", "heapOf", "(II)I"⟩, 25) := ⟨⟨by decide +kernel, by decide +kernel⟩, List.mem_of_getElem? (i := 698) (by decide +kernel), List.mem_of_getElem? (i := 921) (by decide +kernel), List.mem_of_getElem? (i := 922) (by decide +kernel)⟩
theorem lw_p51 : lw_okq (⟨"BurstBoundsModel", "wayFault", "(II)I"⟩, 25) := ⟨⟨by decide +kernel, by decide +kernel⟩, List.mem_of_getElem? (i := 698) (by decide +kernel), List.mem_of_getElem? (i := 941) (by decide +kernel), List.mem_of_getElem? (i := 942) (by decide +kernel)⟩
theorem lw_p52 : lw_okq (⟨"BurstBoundsModel", "noFlow", "(I)Z"⟩, 25) := ⟨⟨by decide +kernel, by decide +kernel⟩, List.mem_of_getElem? (i := 698) (by decide +kernel), List.mem_of_getElem? (i := 949) (by decide +kernel), List.mem_of_getElem? (i := 950) (by decide +kernel)⟩
theorem lw_p53 : lw_okq (⟨"BurstBoundsModel", "layRounds", "()Z"⟩, 25) := ⟨⟨by decide +kernel, by decide +kernel⟩, List.mem_of_getElem? (i := 698) (by decide +kernel), List.mem_of_getElem? (i := 963) (by decide +kernel), List.mem_of_getElem? (i := 964) (by decide +kernel)⟩
theorem lw_p54 : lw_okq (⟨"BurstBoundsModel", "noStep", "(II)Z"⟩, 25) := ⟨⟨by decide +kernel, by decide +kernel⟩, List.mem_of_getElem? (i := 698) (by decide +kernel), List.mem_of_getElem? (i := 971) (by decide +kernel), List.mem_of_getElem? (i := 972) (by decide +kernel)⟩
theorem lw_p55 : lw_okq (⟨"BurstBoundsModel", "layAll", "()Z"⟩, 25) := ⟨⟨by decide +kernel, by decide +kernel⟩, List.mem_of_getElem? (i := 698) (by decide +kernel), List.mem_of_getElem? (i := 975) (by decide +kernel), List.mem_of_getElem? (i := 976) (by decide +kernel)⟩
theorem lw_p56 : lw_okq (⟨"BurstBoundsModel", "areServed", "()Z"⟩, 25) := ⟨⟨by decide +kernel, by decide +kernel⟩, List.mem_of_getElem? (i := 698) (by decide +kernel), List.mem_of_getElem? (i := 979) (by decide +kernel), List.mem_of_getElem? (i := 980) (by decide +kernel)⟩
theorem lw_p57 : lw_okq (⟨"BurstBoundsModel", "layComing", "(I)V"⟩, 25) := ⟨⟨by decide +kernel, by decide +kernel⟩, List.mem_of_getElem? (i := 698) (by decide +kernel), List.mem_of_getElem? (i := 983) (by decide +kernel), List.mem_of_getElem? (i := 984) (by decide +kernel)⟩
theorem lw_p58 : lw_okq (⟨"BurstBoundsModel", "placeOf", "(II)I"⟩, 25) := ⟨⟨by decide +kernel, by decide +kernel⟩, List.mem_of_getElem? (i := 698) (by decide +kernel), List.mem_of_getElem? (i := 987) (by decide +kernel), List.mem_of_getElem? (i := 988) (by decide +kernel)⟩
theorem lw_p59 : lw_okq (⟨"BurstBoundsModel", "layThere", "(II)Z"⟩, 25) := ⟨⟨by decide +kernel, by decide +kernel⟩, List.mem_of_getElem? (i := 698) (by decide +kernel), List.mem_of_getElem? (i := 991) (by decide +kernel), List.mem_of_getElem? (i := 992) (by decide +kernel)⟩
theorem lw_p60 : lw_okq (⟨"BurstBoundsModel", "laySum", "(IIII)V"⟩, 25) := ⟨⟨by decide +kernel, by decide +kernel⟩, List.mem_of_getElem? (i := 698) (by decide +kernel), List.mem_of_getElem? (i := 995) (by decide +kernel), List.mem_of_getElem? (i := 996) (by decide +kernel)⟩
theorem lw_p61 : lw_okq (⟨"BurstBoundsModel", "layZero", "(I)V"⟩, 25) := ⟨⟨by decide +kernel, by decide +kernel⟩, List.mem_of_getElem? (i := 698) (by decide +kernel), List.mem_of_getElem? (i := 999) (by decide +kernel), List.mem_of_getElem? (i := 1000) (by decide +kernel)⟩
theorem lw_p62 : lw_okq (⟨"BurstBoundsModel", "breaks", "(I)I"⟩, 25) := ⟨⟨by decide +kernel, by decide +kernel⟩, List.mem_of_getElem? (i := 698) (by decide +kernel), List.mem_of_getElem? (i := 1023) (by decide +kernel), List.mem_of_getElem? (i := 1024) (by decide +kernel)⟩
theorem lw_p63 : lw_okq (⟨"BurstBoundsModel", "noCell", "(II)I"⟩, 25) := ⟨⟨by decide +kernel, by decide +kernel⟩, List.mem_of_getElem? (i := 698) (by decide +kernel), List.mem_of_getElem? (i := 1053) (by decide +kernel), List.mem_of_getElem? (i := 1054) (by decide +kernel)⟩
def lw_privs_4 : List (MethodName × Nat) := [(⟨"BurstBoundsModel", "waitOf", "(III)I"⟩, 25), (⟨"BurstBoundsModel", "laterBy", "(III)I"⟩, 25), (⟨"BurstBoundsModel", "heapOf", "(II)I"⟩, 25), (⟨"BurstBoundsModel", "wayFault", "(II)I"⟩, 25), (⟨"BurstBoundsModel", "noFlow", "(I)Z"⟩, 25), (⟨"BurstBoundsModel", "layRounds", "()Z"⟩, 25), (⟨"BurstBoundsModel", "noStep", "(II)Z"⟩, 25), (⟨"BurstBoundsModel", "layAll", "()Z"⟩, 25), (⟨"BurstBoundsModel", "areServed", "()Z"⟩, 25), (⟨"BurstBoundsModel", "layComing", "(I)V"⟩, 25), (⟨"BurstBoundsModel", "placeOf", "(II)I"⟩, 25), (⟨"BurstBoundsModel", "layThere", "(II)Z"⟩, 25), (⟨"BurstBoundsModel", "laySum", "(IIII)V"⟩, 25), (⟨"BurstBoundsModel", "layZero", "(I)V"⟩, 25), (⟨"BurstBoundsModel", "breaks", "(I)I"⟩, 25), (⟨"BurstBoundsModel", "noCell", "(II)I"⟩, 25)]
theorem lw_r4 : ∀ q ∈ lw_privs_4, lw_okq q := List.forall_mem_cons.mpr ⟨lw_p48, List.forall_mem_cons.mpr ⟨lw_p49, List.forall_mem_cons.mpr ⟨lw_p50, List.forall_mem_cons.mpr ⟨lw_p51, List.forall_mem_cons.mpr ⟨lw_p52, List.forall_mem_cons.mpr ⟨lw_p53, List.forall_mem_cons.mpr ⟨lw_p54, List.forall_mem_cons.mpr ⟨lw_p55, List.forall_mem_cons.mpr ⟨lw_p56, List.forall_mem_cons.mpr ⟨lw_p57, List.forall_mem_cons.mpr ⟨lw_p58, List.forall_mem_cons.mpr ⟨lw_p59, List.forall_mem_cons.mpr ⟨lw_p60, List.forall_mem_cons.mpr ⟨lw_p61, List.forall_mem_cons.mpr ⟨lw_p62, List.forall_mem_cons.mpr ⟨lw_p63, fun _ h => absurd h List.not_mem_nil⟩⟩⟩⟩⟩⟩⟩⟩⟩⟩⟩⟩⟩⟩⟩⟩
theorem lw_p64 : lw_okq (⟨"BurstBoundsModel", "failedLong", "(I)J"⟩, 25) := ⟨⟨by decide +kernel, by decide +kernel⟩, List.mem_of_getElem? (i := 698) (by decide +kernel), List.mem_of_getElem? (i := 1065) (by decide +kernel), List.mem_of_getElem? (i := 1066) (by decide +kernel)⟩
theorem lw_p65 : lw_okq (⟨"BurstBoundsModel", "traced", "(I)V"⟩, 25) := ⟨⟨by decide +kernel, by decide +kernel⟩, List.mem_of_getElem? (i := 698) (by decide +kernel), List.mem_of_getElem? (i := 1077) (by decide +kernel), List.mem_of_getElem? (i := 1078) (by decide +kernel)⟩
def lw_privs_5 : List (MethodName × Nat) := [(⟨"BurstBoundsModel", "failedLong", "(I)J"⟩, 25), (⟨"BurstBoundsModel", "traced", "(I)V"⟩, 25)]
theorem lw_r5 : ∀ q ∈ lw_privs_5, lw_okq q := List.forall_mem_cons.mpr ⟨lw_p64, List.forall_mem_cons.mpr ⟨lw_p65, fun _ h => absurd h List.not_mem_nil⟩⟩
def lw_privs : List (MethodName × Nat) := lw_privs_1 ++ (lw_privs_2 ++ (lw_privs_3 ++ (lw_privs_4 ++ (lw_privs_5))))
def lw_tbl : List Cond := k2_sels lw_privs ++ tables_1
theorem lw_privs_ok : ∀ q ∈ lw_privs, lw_okq q := by
  show ∀ q ∈ lw_privs_1 ++ (lw_privs_2 ++ (lw_privs_3 ++ (lw_privs_4 ++ (lw_privs_5)))), lw_okq q
  exact List.forall_mem_append.mpr ⟨lw_r1, List.forall_mem_append.mpr ⟨lw_r2, List.forall_mem_append.mpr ⟨lw_r3, List.forall_mem_append.mpr ⟨lw_r4, lw_r5⟩⟩⟩⟩
end
section
def RX0 : String := "BurstBounds$Network"
def TX0 : u_T := fun k => match k with
  | 0 => ("BurstBounds$Network", "servedBy", "[I", true)
  | 1 => ("BurstBounds$Network", "served", "[[I", true)
  | 2 => ("BurstBounds$Network", "flowStairs", "[I", true)
  | 3 => ("BurstBounds$Network", "lengths", "[I", true)
  | 4 => ("BurstBounds$Network", "ways", "[[I", true)
  | 5 => ("BurstBounds$Network", "flows", "I", false)
  | 6 => ("BurstBounds$Network", "ruleNow", "I", false)
  | 7 => ("BurstBounds$Network", "comes", "[[I", true)
  | 8 => ("BurstBounds$Network", "has", "[[I", true)
  | 9 => ("BurstBounds$Network", "waits", "[I", true)
  | 10 => ("BurstBounds$Network", "ahead", "[I", true)
  | 11 => ("BurstBounds$Network", "order", "[I", true)
  | 12 => ("BurstBounds$Network", "sum", "[I", true)
  | 13 => ("BurstBounds$Network", "along", "[I", true)
  | 14 => ("BurstBounds$Network", "isFresh", "Z", false)
  | _ => ("BurstBounds$Network", "bounded", "Z", false)
def tyX0 : Nat → FieldType := fun k => match k with
  | 0 => .array .int
  | 1 => .array (.array .int)
  | 2 => .array .int
  | 3 => .array .int
  | 4 => .array (.array .int)
  | 5 => .int
  | 6 => .int
  | 7 => .array (.array .int)
  | 8 => .array (.array .int)
  | 9 => .array .int
  | 10 => .array .int
  | 11 => .array .int
  | 12 => .array .int
  | 13 => .array .int
  | 14 => .boolean
  | _ => .boolean
theorem nmX0 : ∀ a, a < 16 → ∀ b, b < 16 → a ≠ b → (TX0 a).2.1 ≠ (TX0 b).2.1 := by decide +kernel
theorem tyX0_ok : ∀ k, k < 16 → parseFieldDescriptor (TX0 k).2.2.1 = some (tyX0 k) := by decide +kernel
abbrev cX0_init : ByteArray := prog_2_method_1_code
def yX0_init : MethodName := ⟨RX0, "<init>", "()V"⟩
abbrev cX0_serveNothing : ByteArray := prog_2_method_2_code
def yX0_serveNothing : MethodName := ⟨RX0, "serveNothing", "(I)V"⟩
abbrev cX0_serveBy : ByteArray := prog_2_method_3_code
def yX0_serveBy : MethodName := ⟨RX0, "serveBy", "(II[I)V"⟩
abbrev cX0_ruleBy : ByteArray := prog_2_method_4_code
def yX0_ruleBy : MethodName := ⟨RX0, "ruleBy", "(I)V"⟩
abbrev cX0_isFull : ByteArray := prog_2_method_5_code
def yX0_isFull : MethodName := ⟨RX0, "isFull", "()Z"⟩
abbrev cX0_addFlow : ByteArray := prog_2_method_6_code
def yX0_addFlow : MethodName := ⟨RX0, "addFlow", "(I[I[II)I"⟩
abbrev cX0_hasFlow : ByteArray := prog_2_method_7_code
def yX0_hasFlow : MethodName := ⟨RX0, "hasFlow", "(I)Z"⟩
abbrev cX0_hasPlace : ByteArray := prog_2_method_8_code
def yX0_hasPlace : MethodName := ⟨RX0, "hasPlace", "(II)Z"⟩
abbrev cX0_servingNodes : ByteArray := prog_2_method_9_code
def yX0_servingNodes : MethodName := ⟨RX0, "servingNodes", "()I"⟩
abbrev cX0_hasRing : ByteArray := prog_2_method_10_code
def yX0_hasRing : MethodName := ⟨RX0, "hasRing", "()Z"⟩
abbrev cX0_orderNodes : ByteArray := prog_2_method_11_code
def yX0_orderNodes : MethodName := ⟨RX0, "orderNodes", "()I"⟩
abbrev cX0_noteAhead : ByteArray := prog_2_method_12_code
def yX0_noteAhead : MethodName := ⟨RX0, "noteAhead", "()V"⟩
abbrev cX0_isBounded : ByteArray := prog_2_method_13_code
def yX0_isBounded : MethodName := ⟨RX0, "isBounded", "()Z"⟩
abbrev cX0_isServedOnWays : ByteArray := prog_2_method_14_code
def yX0_isServedOnWays : MethodName := ⟨RX0, "isServedOnWays", "()Z"⟩
abbrev cX0_workOut : ByteArray := prog_2_method_15_code
def yX0_workOut : MethodName := ⟨RX0, "workOut", "()Z"⟩
abbrev cX0_workOutAt : ByteArray := prog_2_method_16_code
def yX0_workOutAt : MethodName := ⟨RX0, "workOutAt", "(II)Z"⟩
abbrev cX0_sumComing : ByteArray := prog_2_method_17_code
def yX0_sumComing : MethodName := ⟨RX0, "sumComing", "(III)V"⟩
abbrev cX0_placeOn : ByteArray := prog_2_method_18_code
def yX0_placeOn : MethodName := ⟨RX0, "placeOn", "(II)I"⟩
abbrev cX0_comesAt : ByteArray := prog_2_method_19_code
def yX0_comesAt : MethodName := ⟨RX0, "comesAt", "(II)[I"⟩
abbrev cX0_goesOnFrom : ByteArray := prog_2_method_20_code
def yX0_goesOnFrom : MethodName := ⟨RX0, "goesOnFrom", "(II)[I"⟩
abbrev cX0_hasAt : ByteArray := prog_2_method_21_code
def yX0_hasAt : MethodName := ⟨RX0, "hasAt", "(II)[I"⟩
abbrev cX0_latestAt : ByteArray := prog_2_method_22_code
def yX0_latestAt : MethodName := ⟨RX0, "latestAt", "(II)I"⟩
abbrev cX0_greatestHeapIn : ByteArray := prog_2_method_23_code
def yX0_greatestHeapIn : MethodName := ⟨RX0, "greatestHeapIn", "(I)I"⟩
abbrev cX0_waitByNodes : ByteArray := prog_2_method_24_code
def yX0_waitByNodes : MethodName := ⟨RX0, "waitByNodes", "(I)I"⟩
abbrev cX0_waitAtOnce : ByteArray := prog_2_method_25_code
def yX0_waitAtOnce : MethodName := ⟨RX0, "waitAtOnce", "(I)I"⟩
def RX1 : String := "BurstBounds$Rows"
def TX1 : u_T := fun k => match k with
  | _ => ("", "", "", false)
def tyX1 : Nat → FieldType := fun k => match k with
  | _ => .int
theorem nmX1 : ∀ a, a < 0 → ∀ b, b < 0 → a ≠ b → (TX1 a).2.1 ≠ (TX1 b).2.1 := by decide +kernel
theorem tyX1_ok : ∀ k, k < 0 → parseFieldDescriptor (TX1 k).2.2.1 = some (tyX1 k) := by decide +kernel
abbrev cX1_fillSteps : ByteArray := prog_3_method_2_code
def yX1_fillSteps : MethodName := ⟨RX1, "fillSteps", "([II[I)V"⟩
abbrev cX1_fillBucket : ByteArray := prog_3_method_3_code
def yX1_fillBucket : MethodName := ⟨RX1, "fillBucket", "(II[I)V"⟩
abbrev cX1_fillLate : ByteArray := prog_3_method_4_code
def yX1_fillLate : MethodName := ⟨RX1, "fillLate", "(II[I)V"⟩
abbrev cX1_fillSame : ByteArray := prog_3_method_5_code
def yX1_fillSame : MethodName := ⟨RX1, "fillSame", "([I[I)V"⟩
abbrev cX1_fillMade : ByteArray := prog_3_method_6_code
def yX1_fillMade : MethodName := ⟨RX1, "fillMade", "(I[I[I[I)V"⟩
abbrev cX1_fillLeast : ByteArray := prog_3_method_7_code
def yX1_fillLeast : MethodName := ⟨RX1, "fillLeast", "([I[I[I)V"⟩
abbrev cX1_fillSum : ByteArray := prog_3_method_8_code
def yX1_fillSum : MethodName := ⟨RX1, "fillSum", "([I[I[I)V"⟩
abbrev cX1_fillAlong : ByteArray := prog_3_method_9_code
def yX1_fillAlong : MethodName := ⟨RX1, "fillAlong", "([I[I[I)V"⟩
abbrev cX1_fillOut : ByteArray := prog_3_method_10_code
def yX1_fillOut : MethodName := ⟨RX1, "fillOut", "([I[I[I)V"⟩
abbrev cX1_fillLeft : ByteArray := prog_3_method_11_code
def yX1_fillLeft : MethodName := ⟨RX1, "fillLeft", "([I[I[I)V"⟩
abbrev cX1_fillHeldBack : ByteArray := prog_3_method_12_code
def yX1_fillHeldBack : MethodName := ⟨RX1, "fillHeldBack", "([II[I)V"⟩
abbrev cX1_fillAhead : ByteArray := prog_3_method_13_code
def yX1_fillAhead : MethodName := ⟨RX1, "fillAhead", "([II[I)V"⟩
abbrev cX1_longestWait : ByteArray := prog_3_method_14_code
def yX1_longestWait : MethodName := ⟨RX1, "longestWait", "([I[II)I"⟩
abbrev cX1_greatestHeap : ByteArray := prog_3_method_15_code
def yX1_greatestHeap : MethodName := ⟨RX1, "greatestHeap", "([I[I)I"⟩
def RX2 : String := "BurstBounds$Seen"
def TX2 : u_T := fun k => match k with
  | 0 => ("BurstBounds$Seen", "came", "[I", true)
  | 1 => ("BurstBounds$Seen", "shaped", "[I", true)
  | _ => ("BurstBounds$Seen", "count", "I", false)
def tyX2 : Nat → FieldType := fun k => match k with
  | 0 => .array .int
  | 1 => .array .int
  | _ => .int
theorem nmX2 : ∀ a, a < 3 → ∀ b, b < 3 → a ≠ b → (TX2 a).2.1 ≠ (TX2 b).2.1 := by decide +kernel
theorem tyX2_ok : ∀ k, k < 3 → parseFieldDescriptor (TX2 k).2.2.1 = some (tyX2 k) := by decide +kernel
abbrev cX2_init : ByteArray := prog_4_method_1_code
def yX2_init : MethodName := ⟨RX2, "<init>", "()V"⟩
abbrev cX2_replaceBy : ByteArray := prog_4_method_2_code
def yX2_replaceBy : MethodName := ⟨RX2, "replaceBy", "([II)V"⟩
abbrev cX2_firstBreak : ByteArray := prog_4_method_3_code
def yX2_firstBreak : MethodName := ⟨RX2, "firstBreak", "([I)I"⟩
abbrev cX2_leastBurst : ByteArray := prog_4_method_4_code
def yX2_leastBurst : MethodName := ⟨RX2, "leastBurst", "(I)I"⟩
abbrev cX2_shapeBy : ByteArray := prog_4_method_5_code
def yX2_shapeBy : MethodName := ⟨RX2, "shapeBy", "([I)V"⟩
abbrev cX2_mostHeld : ByteArray := prog_4_method_6_code
def yX2_mostHeld : MethodName := ⟨RX2, "mostHeld", "()I"⟩
abbrev cX2_latestOfShaped : ByteArray := prog_4_method_7_code
def yX2_latestOfShaped : MethodName := ⟨RX2, "latestOfShaped", "()I"⟩
def RX3 : String := "BurstBounds$Sheets"
def TX3 : u_T := fun k => match k with
  | 0 => ("BurstBounds$Sheets", "cells", "[[I", true)
  | 1 => ("BurstBounds$Sheets", "lengths", "[I", true)
  | _ => ("BurstBounds$Sheets", "lanes", "[I", true)
def tyX3 : Nat → FieldType := fun k => match k with
  | 0 => .array (.array .int)
  | 1 => .array .int
  | _ => .array .int
theorem nmX3 : ∀ a, a < 3 → ∀ b, b < 3 → a ≠ b → (TX3 a).2.1 ≠ (TX3 b).2.1 := by decide +kernel
theorem tyX3_ok : ∀ k, k < 3 → parseFieldDescriptor (TX3 k).2.2.1 = some (tyX3 k) := by decide +kernel
abbrev cX3_init : ByteArray := prog_5_method_1_code
def yX3_init : MethodName := ⟨RX3, "<init>", "()V"⟩
abbrev cX3_has : ByteArray := prog_5_method_2_code
def yX3_has : MethodName := ⟨RX3, "has", "(I)Z"⟩
abbrev cX3_isLane : ByteArray := prog_5_method_3_code
def yX3_isLane : MethodName := ⟨RX3, "isLane", "(I)Z"⟩
abbrev cX3_renew : ByteArray := prog_5_method_4_code
def yX3_renew : MethodName := ⟨RX3, "renew", "(III)I"⟩
abbrev cX3_drop : ByteArray := prog_5_method_5_code
def yX3_drop : MethodName := ⟨RX3, "drop", "(I)I"⟩
abbrev cX3_write : ByteArray := prog_5_method_6_code
def yX3_write : MethodName := ⟨RX3, "write", "(III)I"⟩
abbrev cX3_cut : ByteArray := prog_5_method_7_code
def yX3_cut : MethodName := ⟨RX3, "cut", "(II)I"⟩
abbrev cX3_whyUnread : ByteArray := prog_5_method_8_code
def yX3_whyUnread : MethodName := ⟨RX3, "whyUnread", "(III)I"⟩
abbrev cX3_whyUntaken : ByteArray := prog_5_method_9_code
def yX3_whyUntaken : MethodName := ⟨RX3, "whyUntaken", "(II)I"⟩
abbrev cX3_take : ByteArray := prog_5_method_10_code
def yX3_take : MethodName := ⟨RX3, "take", "(IIII[I)I"⟩
abbrev cX3_bring : ByteArray := prog_5_method_11_code
def yX3_bring : MethodName := ⟨RX3, "bring", "(IIIII)I"⟩
abbrev cX3_isBeyond : ByteArray := prog_5_method_12_code
def yX3_isBeyond : MethodName := ⟨RX3, "isBeyond", "(III)Z"⟩
def RX4 : String := "BurstBounds$Stairs"
def TX4 : u_T := fun k => match k with
  | 0 => ("BurstBounds$Stairs", "rows", "[[I", true)
  | 1 => ("BurstBounds$Stairs", "kinds", "[I", true)
  | _ => ("BurstBounds$Stairs", "count", "I", false)
def tyX4 : Nat → FieldType := fun k => match k with
  | 0 => .array (.array .int)
  | 1 => .array .int
  | _ => .int
theorem nmX4 : ∀ a, a < 3 → ∀ b, b < 3 → a ≠ b → (TX4 a).2.1 ≠ (TX4 b).2.1 := by decide +kernel
theorem tyX4_ok : ∀ k, k < 3 → parseFieldDescriptor (TX4 k).2.2.1 = some (tyX4 k) := by decide +kernel
abbrev cX4_init : ByteArray := prog_6_method_1_code
def yX4_init : MethodName := ⟨RX4, "<init>", "()V"⟩
abbrev cX4_has : ByteArray := prog_6_method_2_code
def yX4_has : MethodName := ⟨RX4, "has", "(I)Z"⟩
abbrev cX4_isFull : ByteArray := prog_6_method_3_code
def yX4_isFull : MethodName := ⟨RX4, "isFull", "()Z"⟩
abbrev cX4_row : ByteArray := prog_6_method_4_code
def yX4_row : MethodName := ⟨RX4, "row", "(I)[I"⟩
abbrev cX4_nextRow : ByteArray := prog_6_method_5_code
def yX4_nextRow : MethodName := ⟨RX4, "nextRow", "()[I"⟩
abbrev cX4_keepNext : ByteArray := prog_6_method_6_code
def yX4_keepNext : MethodName := ⟨RX4, "keepNext", "(I)I"⟩
def RX5 : String := "BurstBounds$TextReader"
def TX5 : u_T := fun k => match k with
  | 0 => ("BurstBounds$TextReader", "codes", "[I", true)
  | 1 => ("BurstBounds$TextReader", "item", "[I", true)
  | 2 => ("BurstBounds$TextReader", "whole", "[I", true)
  | 3 => ("BurstBounds$TextReader", "kind", "I", false)
  | 4 => ("BurstBounds$TextReader", "count", "I", false)
  | 5 => ("BurstBounds$TextReader", "place", "I", false)
  | 6 => ("BurstBounds$TextReader", "sign", "I", false)
  | _ => ("BurstBounds$TextReader", "wrong", "I", false)
def tyX5 : Nat → FieldType := fun k => match k with
  | 0 => .array .int
  | 1 => .array .int
  | 2 => .array .int
  | 3 => .int
  | 4 => .int
  | 5 => .int
  | 6 => .int
  | _ => .int
theorem nmX5 : ∀ a, a < 8 → ∀ b, b < 8 → a ≠ b → (TX5 a).2.1 ≠ (TX5 b).2.1 := by decide +kernel
theorem tyX5_ok : ∀ k, k < 8 → parseFieldDescriptor (TX5 k).2.2.1 = some (tyX5 k) := by decide +kernel
abbrev cX5_init : ByteArray := prog_7_method_1_code
def yX5_init : MethodName := ⟨RX5, "<init>", "()V"⟩
abbrev cX5_read : ByteArray := prog_7_method_2_code
def yX5_read : MethodName := ⟨RX5, "read", "([II)I"⟩
abbrev cX5_goesOn : ByteArray := prog_7_method_3_code
def yX5_goesOn : MethodName := ⟨RX5, "goesOn", "()Z"⟩
abbrev cX5_readSign : ByteArray := prog_7_method_4_code
def yX5_readSign : MethodName := ⟨RX5, "readSign", "()V"⟩
abbrev cX5_readItem : ByteArray := prog_7_method_5_code
def yX5_readItem : MethodName := ⟨RX5, "readItem", "()V"⟩
abbrev cX5_joinItem : ByteArray := prog_7_method_6_code
def yX5_joinItem : MethodName := ⟨RX5, "joinItem", "()V"⟩
abbrev cX5_readPace : ByteArray := prog_7_method_7_code
def yX5_readPace : MethodName := ⟨RX5, "readPace", "()I"⟩
abbrev cX5_readNumber : ByteArray := prog_7_method_8_code
def yX5_readNumber : MethodName := ⟨RX5, "readNumber", "(I)I"⟩
abbrev cX5_codeHere : ByteArray := prog_7_method_9_code
def yX5_codeHere : MethodName := ⟨RX5, "codeHere", "()I"⟩
abbrev cX5_isDigit : ByteArray := prog_7_method_10_code
def yX5_isDigit : MethodName := ⟨RX5, "isDigit", "(I)Z"⟩
def RX6 : String := "BurstBounds"
def TX6 : u_T := fun k => match k with
  | 0 => ("BurstBounds", "stairs", "LBurstBounds$Stairs;", true)
  | 1 => ("BurstBounds", "network", "LBurstBounds$Network;", true)
  | 2 => ("BurstBounds", "seen", "LBurstBounds$Seen;", true)
  | 3 => ("BurstBounds", "sheets", "LBurstBounds$Sheets;", true)
  | 4 => ("BurstBounds", "reader", "LBurstBounds$TextReader;", true)
  | 5 => ("BurstBounds", "taken", "[I", true)
  | 6 => ("BurstBounds", "summed", "[I", true)
  | 7 => ("BurstBounds", "traced", "I", false)
  | _ => ("BurstBounds", "latestFault", "I", false)
def tyX6 : Nat → FieldType := fun k => match k with
  | 0 => .object "BurstBounds$Stairs"
  | 1 => .object "BurstBounds$Network"
  | 2 => .object "BurstBounds$Seen"
  | 3 => .object "BurstBounds$Sheets"
  | 4 => .object "BurstBounds$TextReader"
  | 5 => .array .int
  | 6 => .array .int
  | 7 => .int
  | _ => .int
theorem nmX6 : ∀ a, a < 9 → ∀ b, b < 9 → a ≠ b → (TX6 a).2.1 ≠ (TX6 b).2.1 := by decide +kernel
theorem tyX6_ok : ∀ k, k < 9 → parseFieldDescriptor (TX6 k).2.2.1 = some (tyX6 k) := by decide +kernel
abbrev cX6_init : ByteArray := prog_1_method_1_code
def yX6_init : MethodName := ⟨RX6, "<init>", "()V"⟩
abbrev cX6_steps : ByteArray := prog_1_method_2_code
def yX6_steps : MethodName := ⟨RX6, "steps", "(IIII)I"⟩
abbrev cX6_bucket : ByteArray := prog_1_method_3_code
def yX6_bucket : MethodName := ⟨RX6, "bucket", "(II)I"⟩
abbrev cX6_late : ByteArray := prog_1_method_4_code
def yX6_late : MethodName := ⟨RX6, "late", "(II)I"⟩
abbrev cX6_text : ByteArray := prog_1_method_5_code
def yX6_text : MethodName := ⟨RX6, "text", "(IIII)I"⟩
abbrev cX6_at : ByteArray := prog_1_method_6_code
def yX6_at : MethodName := ⟨RX6, "at", "(II)I"⟩
abbrev cX6_stepsOf : ByteArray := prog_1_method_7_code
def yX6_stepsOf : MethodName := ⟨RX6, "stepsOf", "(IIII)I"⟩
abbrev cX6_stairOfText : ByteArray := prog_1_method_8_code
def yX6_stairOfText : MethodName := ⟨RX6, "stairOfText", "(IIII)I"⟩
abbrev cX6_isRowOfSteps : ByteArray := prog_1_method_9_code
def yX6_isRowOfSteps : MethodName := ⟨RX6, "isRowOfSteps", "(I)Z"⟩
abbrev cX6_make : ByteArray := prog_1_method_10_code
def yX6_make : MethodName := ⟨RX6, "make", "(III)I"⟩
abbrev cX6_move : ByteArray := prog_1_method_11_code
def yX6_move : MethodName := ⟨RX6, "move", "(III)I"⟩
abbrev cX6_delay : ByteArray := prog_1_method_12_code
def yX6_delay : MethodName := ⟨RX6, "delay", "(II)I"⟩
abbrev cX6_heap : ByteArray := prog_1_method_13_code
def yX6_heap : MethodName := ⟨RX6, "heap", "(II)I"⟩
abbrev cX6_within : ByteArray := prog_1_method_14_code
def yX6_within : MethodName := ⟨RX6, "within", "(II)I"⟩
abbrev cX6_serve : ByteArray := prog_1_method_15_code
def yX6_serve : MethodName := ⟨RX6, "serve", "(II)I"⟩
abbrev cX6_flow : ByteArray := prog_1_method_16_code
def yX6_flow : MethodName := ⟨RX6, "flow", "(IIIII)I"⟩
abbrev cX6_ofFlow : ByteArray := prog_1_method_17_code
def yX6_ofFlow : MethodName := ⟨RX6, "ofFlow", "(II)I"⟩
abbrev cX6_rule : ByteArray := prog_1_method_18_code
def yX6_rule : MethodName := ⟨RX6, "rule", "(I)I"⟩
abbrev cX6_ring : ByteArray := prog_1_method_19_code
def yX6_ring : MethodName := ⟨RX6, "ring", "()I"⟩
abbrev cX6_latest : ByteArray := prog_1_method_20_code
def yX6_latest : MethodName := ⟨RX6, "latest", "(II)I"⟩
abbrev cX6_there : ByteArray := prog_1_method_21_code
def yX6_there : MethodName := ⟨RX6, "there", "(IIII)I"⟩
abbrev cX6_heapAt : ByteArray := prog_1_method_22_code
def yX6_heapAt : MethodName := ⟨RX6, "heapAt", "(I)I"⟩
abbrev cX6_bound : ByteArray := prog_1_method_23_code
def yX6_bound : MethodName := ⟨RX6, "bound", "(II)I"⟩
abbrev cX6_newFlow : ByteArray := prog_1_method_24_code
def yX6_newFlow : MethodName := ⟨RX6, "newFlow", "(IIIII)I"⟩
abbrev cX6_whyNoWay : ByteArray := prog_1_method_25_code
def yX6_whyNoWay : MethodName := ⟨RX6, "whyNoWay", "(I)I"⟩
abbrev cX6_see : ByteArray := prog_1_method_26_code
def yX6_see : MethodName := ⟨RX6, "see", "(IIII)I"⟩
abbrev cX6_keeps : ByteArray := prog_1_method_27_code
def yX6_keeps : MethodName := ⟨RX6, "keeps", "(II)I"⟩
abbrev cX6_burst : ByteArray := prog_1_method_28_code
def yX6_burst : MethodName := ⟨RX6, "burst", "(I)I"⟩
abbrev cX6_shape : ByteArray := prog_1_method_29_code
def yX6_shape : MethodName := ⟨RX6, "shape", "(II)I"⟩
abbrev cX6_letIn : ByteArray := prog_1_method_30_code
def yX6_letIn : MethodName := ⟨RX6, "letIn", "(III)I"⟩
abbrev cX6_seenOf : ByteArray := prog_1_method_31_code
def yX6_seenOf : MethodName := ⟨RX6, "seenOf", "(IIII)I"⟩
abbrev cX6_sheet : ByteArray := prog_1_method_32_code
def yX6_sheet : MethodName := ⟨RX6, "sheet", "(III)I"⟩
abbrev cX6_lose : ByteArray := prog_1_method_33_code
def yX6_lose : MethodName := ⟨RX6, "lose", "(I)I"⟩
abbrev cX6_put : ByteArray := prog_1_method_34_code
def yX6_put : MethodName := ⟨RX6, "put", "(III)I"⟩
abbrev cX6_cell : ByteArray := prog_1_method_35_code
def yX6_cell : MethodName := ⟨RX6, "cell", "(III)J"⟩
abbrev cX6_copy : ByteArray := prog_1_method_36_code
def yX6_copy : MethodName := ⟨RX6, "copy", "(IIIII)I"⟩
abbrev cX6_tell : ByteArray := prog_1_method_37_code
def yX6_tell : MethodName := ⟨RX6, "tell", "(I)I"⟩
abbrev cX6_draw : ByteArray := prog_1_method_38_code
def yX6_draw : MethodName := ⟨RX6, "draw", "(I)I"⟩
abbrev cX6_as : ByteArray := prog_1_method_39_code
def yX6_as : MethodName := ⟨RX6, "as", "(II)I"⟩
abbrev cX6_trace : ByteArray := prog_1_method_40_code
def yX6_trace : MethodName := ⟨RX6, "trace", "()I"⟩
abbrev cX6_fault : ByteArray := prog_1_method_41_code
def yX6_fault : MethodName := ⟨RX6, "fault", "()I"⟩
abbrev cX6_many : ByteArray := prog_1_method_42_code
def yX6_many : MethodName := ⟨RX6, "many", "(I)I"⟩
abbrev cX6_takenAs : ByteArray := prog_1_method_43_code
def yX6_takenAs : MethodName := ⟨RX6, "takenAs", "(II)I"⟩
abbrev cX6_toldBySteps : ByteArray := prog_1_method_44_code
def yX6_toldBySteps : MethodName := ⟨RX6, "toldBySteps", "(I)I"⟩
abbrev cX6_toldByBucket : ByteArray := prog_1_method_45_code
def yX6_toldByBucket : MethodName := ⟨RX6, "toldByBucket", "(I)I"⟩
abbrev cX6_toldByLate : ByteArray := prog_1_method_46_code
def yX6_toldByLate : MethodName := ⟨RX6, "toldByLate", "(I)I"⟩
abbrev cX6_leaveInTrace : ByteArray := prog_1_method_47_code
def yX6_leaveInTrace : MethodName := ⟨RX6, "leaveInTrace", "(I)V"⟩
abbrev cX6_ended : ByteArray := prog_1_method_48_code
def yX6_ended : MethodName := ⟨RX6, "ended", "(I)I"⟩
abbrev cX6_isUpTo : ByteArray := prog_1_method_49_code
def yX6_isUpTo : MethodName := ⟨RX6, "isUpTo", "(II)Z"⟩
def RX7 : String := "BurstBoundsModel"
def TX7 : u_T := fun k => match k with
  | 0 => ("BurstBoundsModel", "fault", "I", false)
  | 1 => ("BurstBoundsModel", "stairs", "I", false)
  | 2 => ("BurstBoundsModel", "kindOf", "[I", true)
  | 3 => ("BurstBoundsModel", "row", "[I", true)
  | 4 => ("BurstBoundsModel", "readAt", "I", false)
  | 5 => ("BurstBoundsModel", "readMany", "I", false)
  | 6 => ("BurstBoundsModel", "readSign", "I", false)
  | 7 => ("BurstBoundsModel", "readKind", "[I", true)
  | 8 => ("BurstBoundsModel", "readFirst", "[I", true)
  | 9 => ("BurstBoundsModel", "readRate", "[I", true)
  | 10 => ("BurstBoundsModel", "readNumber", "I", false)
  | 11 => ("BurstBoundsModel", "servedAt", "[I", true)
  | 12 => ("BurstBoundsModel", "flows", "I", false)
  | 13 => ("BurstBoundsModel", "flowStair", "[I", true)
  | 14 => ("BurstBoundsModel", "flowMany", "[I", true)
  | 15 => ("BurstBoundsModel", "flowNode", "[I", true)
  | 16 => ("BurstBoundsModel", "ruleNow", "I", false)
  | 17 => ("BurstBoundsModel", "round", "[I", true)
  | 18 => ("BurstBoundsModel", "latestAt", "[I", true)
  | 19 => ("BurstBoundsModel", "seenMany", "I", false)
  | 20 => ("BurstBoundsModel", "sheetSize", "[I", true)
  | 21 => ("BurstBoundsModel", "sheetLane", "[I", true)
  | 22 => ("BurstBoundsModel", "sheet", "[I", true)
  | 23 => ("BurstBoundsModel", "hands", "[I", true)
  | _ => ("BurstBoundsModel", "traceNow", "I", false)
def tyX7 : Nat → FieldType := fun k => match k with
  | 0 => .int
  | 1 => .int
  | 2 => .array .int
  | 3 => .array .int
  | 4 => .int
  | 5 => .int
  | 6 => .int
  | 7 => .array .int
  | 8 => .array .int
  | 9 => .array .int
  | 10 => .int
  | 11 => .array .int
  | 12 => .int
  | 13 => .array .int
  | 14 => .array .int
  | 15 => .array .int
  | 16 => .int
  | 17 => .array .int
  | 18 => .array .int
  | 19 => .int
  | 20 => .array .int
  | 21 => .array .int
  | 22 => .array .int
  | 23 => .array .int
  | _ => .int
theorem nmX7 : ∀ a, a < 25 → ∀ b, b < 25 → a ≠ b → (TX7 a).2.1 ≠ (TX7 b).2.1 := by decide +kernel
theorem tyX7_ok : ∀ k, k < 25 → parseFieldDescriptor (TX7 k).2.2.1 = some (tyX7 k) := by decide +kernel
abbrev cX7_init : ByteArray := prog_9_method_1_code
def yX7_init : MethodName := ⟨RX7, "<init>", "()V"⟩
abbrev cX7_in : ByteArray := prog_9_method_2_code
def yX7_in : MethodName := ⟨RX7, "in", "(JJJ)Z"⟩
abbrev cX7_lost : ByteArray := prog_9_method_3_code
def yX7_lost : MethodName := ⟨RX7, "lost", "()J"⟩
abbrev cX7_lesser : ByteArray := prog_9_method_4_code
def yX7_lesser : MethodName := ⟨RX7, "lesser", "(II)I"⟩
abbrev cX7_greater : ByteArray := prog_9_method_5_code
def yX7_greater : MethodName := ⟨RX7, "greater", "(II)I"⟩
abbrev cX7_refused : ByteArray := prog_9_method_6_code
def yX7_refused : MethodName := ⟨RX7, "refused", "(I)I"⟩
abbrev cX7_failed : ByteArray := prog_9_method_7_code
def yX7_failed : MethodName := ⟨RX7, "failed", "(I)I"⟩
abbrev cX7_failedLong : ByteArray := prog_9_method_8_code
def yX7_failedLong : MethodName := ⟨RX7, "failedLong", "(I)J"⟩
abbrev cX7_barred : ByteArray := prog_9_method_9_code
def yX7_barred : MethodName := ⟨RX7, "barred", "(IIIJ)I"⟩
abbrev cX7_noStair : ByteArray := prog_9_method_10_code
def yX7_noStair : MethodName := ⟨RX7, "noStair", "(I)Z"⟩
abbrev cX7_of : ByteArray := prog_9_method_11_code
def yX7_of : MethodName := ⟨RX7, "of", "(II)I"⟩
abbrev cX7_set : ByteArray := prog_9_method_12_code
def yX7_set : MethodName := ⟨RX7, "set", "(IIJ)V"⟩
abbrev cX7_keep : ByteArray := prog_9_method_13_code
def yX7_keep : MethodName := ⟨RX7, "keep", "(I)I"⟩
abbrev cX7_layBucket : ByteArray := prog_9_method_14_code
def yX7_layBucket : MethodName := ⟨RX7, "layBucket", "(III)V"⟩
abbrev cX7_layLate : ByteArray := prog_9_method_15_code
def yX7_layLate : MethodName := ⟨RX7, "layLate", "(III)V"⟩
abbrev cX7_areSteps : ByteArray := prog_9_method_16_code
def yX7_areSteps : MethodName := ⟨RX7, "areSteps", "(II)Z"⟩
abbrev cX7_steps : ByteArray := prog_9_method_17_code
def yX7_steps : MethodName := ⟨RX7, "steps", "(IIII)I"⟩
abbrev cX7_bucket : ByteArray := prog_9_method_18_code
def yX7_bucket : MethodName := ⟨RX7, "bucket", "(II)I"⟩
abbrev cX7_late : ByteArray := prog_9_method_19_code
def yX7_late : MethodName := ⟨RX7, "late", "(II)I"⟩
abbrev cX7_readsNumber : ByteArray := prog_9_method_20_code
def yX7_readsNumber : MethodName := ⟨RX7, "readsNumber", "(III)Z"⟩
abbrev cX7_readsItem : ByteArray := prog_9_method_21_code
def yX7_readsItem : MethodName := ⟨RX7, "readsItem", "(II)Z"⟩
abbrev cX7_readStair : ByteArray := prog_9_method_22_code
def yX7_readStair : MethodName := ⟨RX7, "readStair", "(II)I"⟩
abbrev cX7_layItem : ByteArray := prog_9_method_23_code
def yX7_layItem : MethodName := ⟨RX7, "layItem", "(II)V"⟩
abbrev cX7_text : ByteArray := prog_9_method_24_code
def yX7_text : MethodName := ⟨RX7, "text", "(IIII)I"⟩
abbrev cX7_at : ByteArray := prog_9_method_25_code
def yX7_at : MethodName := ⟨RX7, "at", "(II)I"⟩
abbrev cX7_layBoth : ByteArray := prog_9_method_26_code
def yX7_layBoth : MethodName := ⟨RX7, "layBoth", "(IIII)V"⟩
abbrev cX7_alongAt : ByteArray := prog_9_method_27_code
def yX7_alongAt : MethodName := ⟨RX7, "alongAt", "(III)I"⟩
abbrev cX7_outAt : ByteArray := prog_9_method_28_code
def yX7_outAt : MethodName := ⟨RX7, "outAt", "(III)I"⟩
abbrev cX7_layMoved : ByteArray := prog_9_method_29_code
def yX7_layMoved : MethodName := ⟨RX7, "layMoved", "(IIII)V"⟩
abbrev cX7_make : ByteArray := prog_9_method_30_code
def yX7_make : MethodName := ⟨RX7, "make", "(III)I"⟩
abbrev cX7_move : ByteArray := prog_9_method_31_code
def yX7_move : MethodName := ⟨RX7, "move", "(III)I"⟩
abbrev cX7_laterBy : ByteArray := prog_9_method_32_code
def yX7_laterBy : MethodName := ⟨RX7, "laterBy", "(III)I"⟩
abbrev cX7_waitOf : ByteArray := prog_9_method_33_code
def yX7_waitOf : MethodName := ⟨RX7, "waitOf", "(III)I"⟩
abbrev cX7_heapOf : ByteArray := prog_9_method_34_code
def yX7_heapOf : MethodName := ⟨RX7, "heapOf", "(II)I"⟩
abbrev cX7_delay : ByteArray := prog_9_method_35_code
def yX7_delay : MethodName := ⟨RX7, "delay", "(II)I"⟩
abbrev cX7_heap : ByteArray := prog_9_method_36_code
def yX7_heap : MethodName := ⟨RX7, "heap", "(II)I"⟩
abbrev cX7_within : ByteArray := prog_9_method_37_code
def yX7_within : MethodName := ⟨RX7, "within", "(II)I"⟩
abbrev cX7_noNode : ByteArray := prog_9_method_38_code
def yX7_noNode : MethodName := ⟨RX7, "noNode", "(I)Z"⟩
abbrev cX7_noFlow : ByteArray := prog_9_method_39_code
def yX7_noFlow : MethodName := ⟨RX7, "noFlow", "(I)Z"⟩
abbrev cX7_serve : ByteArray := prog_9_method_40_code
def yX7_serve : MethodName := ⟨RX7, "serve", "(II)I"⟩
abbrev cX7_wayFault : ByteArray := prog_9_method_41_code
def yX7_wayFault : MethodName := ⟨RX7, "wayFault", "(II)I"⟩
abbrev cX7_flow : ByteArray := prog_9_method_42_code
def yX7_flow : MethodName := ⟨RX7, "flow", "(IIIII)I"⟩
abbrev cX7_ofFlow : ByteArray := prog_9_method_43_code
def yX7_ofFlow : MethodName := ⟨RX7, "ofFlow", "(II)I"⟩
abbrev cX7_rule : ByteArray := prog_9_method_44_code
def yX7_rule : MethodName := ⟨RX7, "rule", "(I)I"⟩
abbrev cX7_layRounds : ByteArray := prog_9_method_45_code
def yX7_layRounds : MethodName := ⟨RX7, "layRounds", "()Z"⟩
abbrev cX7_ring : ByteArray := prog_9_method_46_code
def yX7_ring : MethodName := ⟨RX7, "ring", "()I"⟩
abbrev cX7_areServed : ByteArray := prog_9_method_47_code
def yX7_areServed : MethodName := ⟨RX7, "areServed", "()Z"⟩
abbrev cX7_placeOf : ByteArray := prog_9_method_48_code
def yX7_placeOf : MethodName := ⟨RX7, "placeOf", "(II)I"⟩
abbrev cX7_layZero : ByteArray := prog_9_method_49_code
def yX7_layZero : MethodName := ⟨RX7, "layZero", "(I)V"⟩
abbrev cX7_laySum : ByteArray := prog_9_method_50_code
def yX7_laySum : MethodName := ⟨RX7, "laySum", "(IIII)V"⟩
abbrev cX7_layThere : ByteArray := prog_9_method_51_code
def yX7_layThere : MethodName := ⟨RX7, "layThere", "(II)Z"⟩
abbrev cX7_layComing : ByteArray := prog_9_method_52_code
def yX7_layComing : MethodName := ⟨RX7, "layComing", "(I)V"⟩
abbrev cX7_layAll : ByteArray := prog_9_method_53_code
def yX7_layAll : MethodName := ⟨RX7, "layAll", "()Z"⟩
abbrev cX7_noStep : ByteArray := prog_9_method_54_code
def yX7_noStep : MethodName := ⟨RX7, "noStep", "(II)Z"⟩
abbrev cX7_latest : ByteArray := prog_9_method_55_code
def yX7_latest : MethodName := ⟨RX7, "latest", "(II)I"⟩
abbrev cX7_there : ByteArray := prog_9_method_56_code
def yX7_there : MethodName := ⟨RX7, "there", "(IIII)I"⟩
abbrev cX7_heapAt : ByteArray := prog_9_method_57_code
def yX7_heapAt : MethodName := ⟨RX7, "heapAt", "(I)I"⟩
abbrev cX7_bound : ByteArray := prog_9_method_58_code
def yX7_bound : MethodName := ⟨RX7, "bound", "(II)I"⟩
abbrev cX7_see : ByteArray := prog_9_method_59_code
def yX7_see : MethodName := ⟨RX7, "see", "(IIII)I"⟩
abbrev cX7_breaks : ByteArray := prog_9_method_60_code
def yX7_breaks : MethodName := ⟨RX7, "breaks", "(I)I"⟩
abbrev cX7_keeps : ByteArray := prog_9_method_61_code
def yX7_keeps : MethodName := ⟨RX7, "keeps", "(II)I"⟩
abbrev cX7_burst : ByteArray := prog_9_method_62_code
def yX7_burst : MethodName := ⟨RX7, "burst", "(I)I"⟩
abbrev cX7_shape : ByteArray := prog_9_method_63_code
def yX7_shape : MethodName := ⟨RX7, "shape", "(II)I"⟩
abbrev cX7_letIn : ByteArray := prog_9_method_64_code
def yX7_letIn : MethodName := ⟨RX7, "letIn", "(III)I"⟩
abbrev cX7_noSheet : ByteArray := prog_9_method_65_code
def yX7_noSheet : MethodName := ⟨RX7, "noSheet", "(I)Z"⟩
abbrev cX7_sheet : ByteArray := prog_9_method_66_code
def yX7_sheet : MethodName := ⟨RX7, "sheet", "(III)I"⟩
abbrev cX7_lose : ByteArray := prog_9_method_67_code
def yX7_lose : MethodName := ⟨RX7, "lose", "(I)I"⟩
abbrev cX7_noCell : ByteArray := prog_9_method_68_code
def yX7_noCell : MethodName := ⟨RX7, "noCell", "(II)I"⟩
abbrev cX7_put : ByteArray := prog_9_method_69_code
def yX7_put : MethodName := ⟨RX7, "put", "(III)I"⟩
abbrev cX7_cell : ByteArray := prog_9_method_70_code
def yX7_cell : MethodName := ⟨RX7, "cell", "(III)J"⟩
abbrev cX7_isBeyond : ByteArray := prog_9_method_71_code
def yX7_isBeyond : MethodName := ⟨RX7, "isBeyond", "(IJI)Z"⟩
abbrev cX7_copy : ByteArray := prog_9_method_72_code
def yX7_copy : MethodName := ⟨RX7, "copy", "(IIIII)I"⟩
abbrev cX7_traced : ByteArray := prog_9_method_73_code
def yX7_traced : MethodName := ⟨RX7, "traced", "(I)V"⟩
abbrev cX7_tell : ByteArray := prog_9_method_74_code
def yX7_tell : MethodName := ⟨RX7, "tell", "(I)I"⟩
abbrev cX7_draw : ByteArray := prog_9_method_75_code
def yX7_draw : MethodName := ⟨RX7, "draw", "(I)I"⟩
abbrev cX7_as : ByteArray := prog_9_method_76_code
def yX7_as : MethodName := ⟨RX7, "as", "(II)I"⟩
abbrev cX7_trace : ByteArray := prog_9_method_77_code
def yX7_trace : MethodName := ⟨RX7, "trace", "()I"⟩
abbrev cX7_fault : ByteArray := prog_9_method_78_code
def yX7_fault : MethodName := ⟨RX7, "fault", "()I"⟩
abbrev cX7_many : ByteArray := prog_9_method_79_code
def yX7_many : MethodName := ⟨RX7, "many", "(I)I"⟩
def RJ9 : String := "java/lang/Math"
def TJ9 : u_T := fun k => match k with
  | _ => ("", "", "", false)
def tyJ9 : Nat → FieldType := fun k => match k with
  | _ => .int
abbrev cJ9_max_7cf53 : ByteArray := prog_10_method_65_code
def yJ9_max_7cf53 : MethodName := ⟨RJ9, "max", "(II)I"⟩
abbrev cJ9_min_7cf53 : ByteArray := prog_10_method_69_code
def yJ9_min_7cf53 : MethodName := ⟨RJ9, "min", "(II)I"⟩
def RJ10 : String := "java/lang/System"
def TJ10 : u_T := fun k => match k with
  | _ => ("", "", "", false)
def tyJ10 : Nat → FieldType := fun k => match k with
  | _ => .int
def RJ7 : String := "java/util/Arrays"
def TJ7 : u_T := fun k => match k with
  | _ => ("", "", "", false)
def tyJ7 : Nat → FieldType := fun k => match k with
  | _ => .int
abbrev cJ7_fill_53178 : ByteArray := prog_12_method_103_code
def yJ7_fill_53178 : MethodName := ⟨RJ7, "fill", "([II)V"⟩
def RL : String := "BurstBoundsLaw"
abbrev cL_law : ByteArray := code
def yL_law : MethodName := ⟨RL, "law", "([I)Z"⟩
abbrev vwCl : List vw_C := [(RX0, TX0, 16), (RX2, TX2, 3), (RX3, TX3, 3), (RX4, TX4, 3), (RX5, TX5, 8), (RX6, TX6, 9), (RX7, TX7, 25)]
end
section
theorem dX0_init_0 : decode cX0_init 0 = .ok (.aload_n 0, 1) := by decide +kernel
theorem dX0_init_1 : decode cX0_init 1 = .ok (.invokespecial 3, 3) := by decide +kernel
theorem dX0_init_4 : decode cX0_init 4 = .ok (.aload_n 0, 1) := by decide +kernel
theorem dX0_init_5 : decode cX0_init 5 = .ok (.bipush 6, 2) := by decide +kernel
theorem dX0_init_7 : decode cX0_init 7 = .ok (.newarray .int, 2) := by decide +kernel
theorem dX0_init_9 : decode cX0_init 9 = .ok (.putfield 9, 3) := by decide +kernel
theorem dX0_init_12 : decode cX0_init 12 = .ok (.aload_n 0, 1) := by decide +kernel
theorem dX0_init_13 : decode cX0_init 13 = .ok (.bipush 6, 2) := by decide +kernel
theorem dX0_init_15 : decode cX0_init 15 = .ok (.bipush 41, 2) := by decide +kernel
theorem dX0_init_17 : decode cX0_init 17 = .ok (.multianewarray 15 2, 4) := by decide +kernel
theorem dX0_init_21 : decode cX0_init 21 = .ok (.putfield 17, 3) := by decide +kernel
theorem dX0_init_24 : decode cX0_init 24 = .ok (.aload_n 0, 1) := by decide +kernel
theorem dX0_init_25 : decode cX0_init 25 = .ok (.iconst 5, 1) := by decide +kernel
theorem dX0_init_26 : decode cX0_init 26 = .ok (.newarray .int, 2) := by decide +kernel
theorem dX0_init_28 : decode cX0_init 28 = .ok (.putfield 20, 3) := by decide +kernel
theorem dX0_init_31 : decode cX0_init 31 = .ok (.aload_n 0, 1) := by decide +kernel
theorem dX0_init_32 : decode cX0_init 32 = .ok (.iconst 5, 1) := by decide +kernel
theorem dX0_init_33 : decode cX0_init 33 = .ok (.newarray .int, 2) := by decide +kernel
theorem dX0_init_35 : decode cX0_init 35 = .ok (.putfield 23, 3) := by decide +kernel
theorem dX0_init_38 : decode cX0_init 38 = .ok (.aload_n 0, 1) := by decide +kernel
theorem dX0_init_39 : decode cX0_init 39 = .ok (.iconst 5, 1) := by decide +kernel
theorem dX0_init_40 : decode cX0_init 40 = .ok (.iconst 4, 1) := by decide +kernel
theorem dX0_init_41 : decode cX0_init 41 = .ok (.multianewarray 15 2, 4) := by decide +kernel
theorem dX0_init_45 : decode cX0_init 45 = .ok (.putfield 26, 3) := by decide +kernel
theorem dX0_init_48 : decode cX0_init 48 = .ok (.aload_n 0, 1) := by decide +kernel
theorem dX0_init_49 : decode cX0_init 49 = .ok (.iconst 0, 1) := by decide +kernel
theorem dX0_init_50 : decode cX0_init 50 = .ok (.putfield 29, 3) := by decide +kernel
theorem dX0_init_53 : decode cX0_init 53 = .ok (.aload_n 0, 1) := by decide +kernel
theorem dX0_init_54 : decode cX0_init 54 = .ok (.iconst 0, 1) := by decide +kernel
theorem dX0_init_55 : decode cX0_init 55 = .ok (.putfield 33, 3) := by decide +kernel
theorem dX0_init_58 : decode cX0_init 58 = .ok (.aload_n 0, 1) := by decide +kernel
theorem dX0_init_59 : decode cX0_init 59 = .ok (.bipush 25, 2) := by decide +kernel
theorem dX0_init_61 : decode cX0_init 61 = .ok (.bipush 41, 2) := by decide +kernel
theorem dX0_init_63 : decode cX0_init 63 = .ok (.multianewarray 15 2, 4) := by decide +kernel
theorem dX0_init_67 : decode cX0_init 67 = .ok (.putfield 36, 3) := by decide +kernel
theorem dX0_init_70 : decode cX0_init 70 = .ok (.aload_n 0, 1) := by decide +kernel
theorem dX0_init_71 : decode cX0_init 71 = .ok (.bipush 20, 2) := by decide +kernel
theorem dX0_init_73 : decode cX0_init 73 = .ok (.bipush 41, 2) := by decide +kernel
theorem dX0_init_75 : decode cX0_init 75 = .ok (.multianewarray 15 2, 4) := by decide +kernel
theorem dX0_init_79 : decode cX0_init 79 = .ok (.putfield 39, 3) := by decide +kernel
theorem dX0_init_82 : decode cX0_init 82 = .ok (.aload_n 0, 1) := by decide +kernel
theorem dX0_init_83 : decode cX0_init 83 = .ok (.bipush 20, 2) := by decide +kernel
theorem dX0_init_85 : decode cX0_init 85 = .ok (.newarray .int, 2) := by decide +kernel
theorem dX0_init_87 : decode cX0_init 87 = .ok (.putfield 42, 3) := by decide +kernel
theorem dX0_init_90 : decode cX0_init 90 = .ok (.aload_n 0, 1) := by decide +kernel
theorem dX0_init_91 : decode cX0_init 91 = .ok (.bipush 6, 2) := by decide +kernel
theorem dX0_init_93 : decode cX0_init 93 = .ok (.newarray .int, 2) := by decide +kernel
theorem dX0_init_95 : decode cX0_init 95 = .ok (.putfield 45, 3) := by decide +kernel
theorem dX0_init_98 : decode cX0_init 98 = .ok (.aload_n 0, 1) := by decide +kernel
theorem dX0_init_99 : decode cX0_init 99 = .ok (.bipush 6, 2) := by decide +kernel
theorem dX0_init_101 : decode cX0_init 101 = .ok (.newarray .int, 2) := by decide +kernel
theorem dX0_init_103 : decode cX0_init 103 = .ok (.putfield 48, 3) := by decide +kernel
theorem dX0_init_106 : decode cX0_init 106 = .ok (.aload_n 0, 1) := by decide +kernel
theorem dX0_init_107 : decode cX0_init 107 = .ok (.bipush 41, 2) := by decide +kernel
theorem dX0_init_109 : decode cX0_init 109 = .ok (.newarray .int, 2) := by decide +kernel
theorem dX0_init_111 : decode cX0_init 111 = .ok (.putfield 51, 3) := by decide +kernel
theorem dX0_init_114 : decode cX0_init 114 = .ok (.aload_n 0, 1) := by decide +kernel
theorem dX0_init_115 : decode cX0_init 115 = .ok (.bipush 41, 2) := by decide +kernel
theorem dX0_init_117 : decode cX0_init 117 = .ok (.newarray .int, 2) := by decide +kernel
theorem dX0_init_119 : decode cX0_init 119 = .ok (.putfield 54, 3) := by decide +kernel
theorem dX0_init_122 : decode cX0_init 122 = .ok (.aload_n 0, 1) := by decide +kernel
theorem dX0_init_123 : decode cX0_init 123 = .ok (.iconst 0, 1) := by decide +kernel
theorem dX0_init_124 : decode cX0_init 124 = .ok (.putfield 57, 3) := by decide +kernel
theorem dX0_init_127 : decode cX0_init 127 = .ok (.aload_n 0, 1) := by decide +kernel
theorem dX0_init_128 : decode cX0_init 128 = .ok (.iconst 0, 1) := by decide +kernel
theorem dX0_init_129 : decode cX0_init 129 = .ok (.putfield 61, 3) := by decide +kernel
theorem dX0_init_132 : decode cX0_init 132 = .ok (.aload_n 0, 1) := by decide +kernel
theorem dX0_init_133 : decode cX0_init 133 = .ok (.getfield 9, 3) := by decide +kernel
theorem dX0_init_136 : decode cX0_init 136 = .ok (.bipush (-9), 2) := by decide +kernel
theorem dX0_init_138 : decode cX0_init 138 = .ok (.invokestatic 64, 3) := by decide +kernel
theorem dX0_init_141 : decode cX0_init 141 = .ok (.return_, 1) := by decide +kernel
theorem dX0_serveNothing_0 : decode cX0_serveNothing 0 = .ok (.aload_n 0, 1) := by decide +kernel
theorem dX0_serveNothing_1 : decode cX0_serveNothing 1 = .ok (.getfield 9, 3) := by decide +kernel
theorem dX0_serveNothing_4 : decode cX0_serveNothing 4 = .ok (.iload_n 1, 1) := by decide +kernel
theorem dX0_serveNothing_5 : decode cX0_serveNothing 5 = .ok (.bipush (-9), 2) := by decide +kernel
theorem dX0_serveNothing_7 : decode cX0_serveNothing 7 = .ok (.iastore, 1) := by decide +kernel
theorem dX0_serveNothing_8 : decode cX0_serveNothing 8 = .ok (.aload_n 0, 1) := by decide +kernel
theorem dX0_serveNothing_9 : decode cX0_serveNothing 9 = .ok (.iconst 0, 1) := by decide +kernel
theorem dX0_serveNothing_10 : decode cX0_serveNothing 10 = .ok (.putfield 57, 3) := by decide +kernel
theorem dX0_serveNothing_13 : decode cX0_serveNothing 13 = .ok (.return_, 1) := by decide +kernel
theorem dX0_serveBy_0 : decode cX0_serveBy 0 = .ok (.aload_n 0, 1) := by decide +kernel
theorem dX0_serveBy_1 : decode cX0_serveBy 1 = .ok (.getfield 9, 3) := by decide +kernel
theorem dX0_serveBy_4 : decode cX0_serveBy 4 = .ok (.iload_n 1, 1) := by decide +kernel
theorem dX0_serveBy_5 : decode cX0_serveBy 5 = .ok (.iload_n 2, 1) := by decide +kernel
theorem dX0_serveBy_6 : decode cX0_serveBy 6 = .ok (.iastore, 1) := by decide +kernel
theorem dX0_serveBy_7 : decode cX0_serveBy 7 = .ok (.aload_n 3, 1) := by decide +kernel
theorem dX0_serveBy_8 : decode cX0_serveBy 8 = .ok (.aload_n 0, 1) := by decide +kernel
theorem dX0_serveBy_9 : decode cX0_serveBy 9 = .ok (.getfield 17, 3) := by decide +kernel
theorem dX0_serveBy_12 : decode cX0_serveBy 12 = .ok (.iload_n 1, 1) := by decide +kernel
theorem dX0_serveBy_13 : decode cX0_serveBy 13 = .ok (.aaload, 1) := by decide +kernel
theorem dX0_serveBy_14 : decode cX0_serveBy 14 = .ok (.invokestatic 70, 3) := by decide +kernel
theorem dX0_serveBy_17 : decode cX0_serveBy 17 = .ok (.aload_n 0, 1) := by decide +kernel
theorem dX0_serveBy_18 : decode cX0_serveBy 18 = .ok (.iconst 0, 1) := by decide +kernel
theorem dX0_serveBy_19 : decode cX0_serveBy 19 = .ok (.putfield 57, 3) := by decide +kernel
theorem dX0_serveBy_22 : decode cX0_serveBy 22 = .ok (.return_, 1) := by decide +kernel
theorem dX0_ruleBy_0 : decode cX0_ruleBy 0 = .ok (.aload_n 0, 1) := by decide +kernel
theorem dX0_ruleBy_1 : decode cX0_ruleBy 1 = .ok (.iload_n 1, 1) := by decide +kernel
theorem dX0_ruleBy_2 : decode cX0_ruleBy 2 = .ok (.putfield 33, 3) := by decide +kernel
theorem dX0_ruleBy_5 : decode cX0_ruleBy 5 = .ok (.aload_n 0, 1) := by decide +kernel
theorem dX0_ruleBy_6 : decode cX0_ruleBy 6 = .ok (.iconst 0, 1) := by decide +kernel
theorem dX0_ruleBy_7 : decode cX0_ruleBy 7 = .ok (.putfield 57, 3) := by decide +kernel
theorem dX0_ruleBy_10 : decode cX0_ruleBy 10 = .ok (.return_, 1) := by decide +kernel
theorem dX0_isFull_0 : decode cX0_isFull 0 = .ok (.aload_n 0, 1) := by decide +kernel
theorem dX0_isFull_1 : decode cX0_isFull 1 = .ok (.getfield 29, 3) := by decide +kernel
theorem dX0_isFull_4 : decode cX0_isFull 4 = .ok (.iconst 5, 1) := by decide +kernel
theorem dX0_isFull_5 : decode cX0_isFull 5 = .ok (.if_icmp .lt 7, 3) := by decide +kernel
theorem dX0_isFull_8 : decode cX0_isFull 8 = .ok (.iconst 1, 1) := by decide +kernel
theorem dX0_isFull_9 : decode cX0_isFull 9 = .ok (.goto 4, 3) := by decide +kernel
theorem dX0_isFull_12 : decode cX0_isFull 12 = .ok (.iconst 0, 1) := by decide +kernel
theorem dX0_isFull_13 : decode cX0_isFull 13 = .ok (.ireturn, 1) := by decide +kernel
theorem dX0_addFlow_0 : decode cX0_addFlow 0 = .ok (.aload_n 0, 1) := by decide +kernel
theorem dX0_addFlow_1 : decode cX0_addFlow 1 = .ok (.getfield 29, 3) := by decide +kernel
theorem dX0_addFlow_4 : decode cX0_addFlow 4 = .ok (.istore 5, 2) := by decide +kernel
theorem dX0_addFlow_6 : decode cX0_addFlow 6 = .ok (.aload_n 0, 1) := by decide +kernel
theorem dX0_addFlow_7 : decode cX0_addFlow 7 = .ok (.getfield 20, 3) := by decide +kernel
theorem dX0_addFlow_10 : decode cX0_addFlow 10 = .ok (.iload 5, 2) := by decide +kernel
theorem dX0_addFlow_12 : decode cX0_addFlow 12 = .ok (.iload_n 1, 1) := by decide +kernel
theorem dX0_addFlow_13 : decode cX0_addFlow 13 = .ok (.iastore, 1) := by decide +kernel
theorem dX0_addFlow_14 : decode cX0_addFlow 14 = .ok (.aload_n 0, 1) := by decide +kernel
theorem dX0_addFlow_15 : decode cX0_addFlow 15 = .ok (.getfield 23, 3) := by decide +kernel
theorem dX0_addFlow_18 : decode cX0_addFlow 18 = .ok (.iload 5, 2) := by decide +kernel
theorem dX0_addFlow_20 : decode cX0_addFlow 20 = .ok (.iload 4, 2) := by decide +kernel
theorem dX0_addFlow_22 : decode cX0_addFlow 22 = .ok (.iastore, 1) := by decide +kernel
theorem dX0_addFlow_23 : decode cX0_addFlow 23 = .ok (.aload_n 3, 1) := by decide +kernel
theorem dX0_addFlow_24 : decode cX0_addFlow 24 = .ok (.iconst 0, 1) := by decide +kernel
theorem dX0_addFlow_25 : decode cX0_addFlow 25 = .ok (.aload_n 0, 1) := by decide +kernel
theorem dX0_addFlow_26 : decode cX0_addFlow 26 = .ok (.getfield 26, 3) := by decide +kernel
theorem dX0_addFlow_29 : decode cX0_addFlow 29 = .ok (.iload 5, 2) := by decide +kernel
theorem dX0_addFlow_31 : decode cX0_addFlow 31 = .ok (.aaload, 1) := by decide +kernel
theorem dX0_addFlow_32 : decode cX0_addFlow 32 = .ok (.iconst 0, 1) := by decide +kernel
theorem dX0_addFlow_33 : decode cX0_addFlow 33 = .ok (.iload 4, 2) := by decide +kernel
theorem dX0_addFlow_35 : decode cX0_addFlow 35 = .ok (.invokestatic 76, 3) := by decide +kernel
theorem dX0_addFlow_38 : decode cX0_addFlow 38 = .ok (.aload_n 2, 1) := by decide +kernel
theorem dX0_addFlow_39 : decode cX0_addFlow 39 = .ok (.aload_n 0, 1) := by decide +kernel
theorem dX0_addFlow_40 : decode cX0_addFlow 40 = .ok (.iload 5, 2) := by decide +kernel
theorem dX0_addFlow_42 : decode cX0_addFlow 42 = .ok (.iconst 0, 1) := by decide +kernel
theorem dX0_addFlow_43 : decode cX0_addFlow 43 = .ok (.invokevirtual 82, 3) := by decide +kernel
theorem dX0_addFlow_46 : decode cX0_addFlow 46 = .ok (.invokestatic 70, 3) := by decide +kernel
theorem dX0_addFlow_49 : decode cX0_addFlow 49 = .ok (.aload_n 0, 1) := by decide +kernel
theorem dX0_addFlow_50 : decode cX0_addFlow 50 = .ok (.dup, 1) := by decide +kernel
theorem dX0_addFlow_51 : decode cX0_addFlow 51 = .ok (.getfield 29, 3) := by decide +kernel
theorem dX0_addFlow_54 : decode cX0_addFlow 54 = .ok (.iconst 1, 1) := by decide +kernel
theorem dX0_addFlow_55 : decode cX0_addFlow 55 = .ok (.iadd, 1) := by decide +kernel
theorem dX0_addFlow_56 : decode cX0_addFlow 56 = .ok (.putfield 29, 3) := by decide +kernel
theorem dX0_addFlow_59 : decode cX0_addFlow 59 = .ok (.aload_n 0, 1) := by decide +kernel
theorem dX0_addFlow_60 : decode cX0_addFlow 60 = .ok (.iconst 0, 1) := by decide +kernel
theorem dX0_addFlow_61 : decode cX0_addFlow 61 = .ok (.putfield 57, 3) := by decide +kernel
theorem dX0_addFlow_64 : decode cX0_addFlow 64 = .ok (.iload 5, 2) := by decide +kernel
theorem dX0_addFlow_66 : decode cX0_addFlow 66 = .ok (.ireturn, 1) := by decide +kernel
theorem dX0_hasFlow_0 : decode cX0_hasFlow 0 = .ok (.iload_n 1, 1) := by decide +kernel
theorem dX0_hasFlow_1 : decode cX0_hasFlow 1 = .ok (.ifCond .lt 15, 3) := by decide +kernel
theorem dX0_hasFlow_4 : decode cX0_hasFlow 4 = .ok (.iload_n 1, 1) := by decide +kernel
theorem dX0_hasFlow_5 : decode cX0_hasFlow 5 = .ok (.aload_n 0, 1) := by decide +kernel
theorem dX0_hasFlow_6 : decode cX0_hasFlow 6 = .ok (.getfield 29, 3) := by decide +kernel
theorem dX0_hasFlow_9 : decode cX0_hasFlow 9 = .ok (.if_icmp .ge 7, 3) := by decide +kernel
theorem dX0_hasFlow_12 : decode cX0_hasFlow 12 = .ok (.iconst 1, 1) := by decide +kernel
theorem dX0_hasFlow_13 : decode cX0_hasFlow 13 = .ok (.goto 4, 3) := by decide +kernel
theorem dX0_hasFlow_16 : decode cX0_hasFlow 16 = .ok (.iconst 0, 1) := by decide +kernel
theorem dX0_hasFlow_17 : decode cX0_hasFlow 17 = .ok (.ireturn, 1) := by decide +kernel
theorem dX0_hasPlace_0 : decode cX0_hasPlace 0 = .ok (.aload_n 0, 1) := by decide +kernel
theorem dX0_hasPlace_1 : decode cX0_hasPlace 1 = .ok (.iload_n 1, 1) := by decide +kernel
theorem dX0_hasPlace_2 : decode cX0_hasPlace 2 = .ok (.invokevirtual 86, 3) := by decide +kernel
theorem dX0_hasPlace_5 : decode cX0_hasPlace 5 = .ok (.ifCond .eq 21, 3) := by decide +kernel
theorem dX0_hasPlace_8 : decode cX0_hasPlace 8 = .ok (.iload_n 2, 1) := by decide +kernel
theorem dX0_hasPlace_9 : decode cX0_hasPlace 9 = .ok (.ifCond .lt 17, 3) := by decide +kernel
theorem dX0_hasPlace_12 : decode cX0_hasPlace 12 = .ok (.iload_n 2, 1) := by decide +kernel
theorem dX0_hasPlace_13 : decode cX0_hasPlace 13 = .ok (.aload_n 0, 1) := by decide +kernel
theorem dX0_hasPlace_14 : decode cX0_hasPlace 14 = .ok (.getfield 23, 3) := by decide +kernel
theorem dX0_hasPlace_17 : decode cX0_hasPlace 17 = .ok (.iload_n 1, 1) := by decide +kernel
theorem dX0_hasPlace_18 : decode cX0_hasPlace 18 = .ok (.iaload, 1) := by decide +kernel
theorem dX0_hasPlace_19 : decode cX0_hasPlace 19 = .ok (.if_icmp .ge 7, 3) := by decide +kernel
theorem dX0_hasPlace_22 : decode cX0_hasPlace 22 = .ok (.iconst 1, 1) := by decide +kernel
theorem dX0_hasPlace_23 : decode cX0_hasPlace 23 = .ok (.goto 4, 3) := by decide +kernel
theorem dX0_hasPlace_26 : decode cX0_hasPlace 26 = .ok (.iconst 0, 1) := by decide +kernel
theorem dX0_hasPlace_27 : decode cX0_hasPlace 27 = .ok (.ireturn, 1) := by decide +kernel
theorem dX0_servingNodes_0 : decode cX0_servingNodes 0 = .ok (.iconst 0, 1) := by decide +kernel
theorem dX0_servingNodes_1 : decode cX0_servingNodes 1 = .ok (.istore_n 1, 1) := by decide +kernel
theorem dX0_servingNodes_2 : decode cX0_servingNodes 2 = .ok (.iconst 0, 1) := by decide +kernel
theorem dX0_servingNodes_3 : decode cX0_servingNodes 3 = .ok (.istore_n 2, 1) := by decide +kernel
theorem dX0_servingNodes_4 : decode cX0_servingNodes 4 = .ok (.iload_n 2, 1) := by decide +kernel
theorem dX0_servingNodes_5 : decode cX0_servingNodes 5 = .ok (.bipush 6, 2) := by decide +kernel
theorem dX0_servingNodes_7 : decode cX0_servingNodes 7 = .ok (.if_icmp .ge 23, 3) := by decide +kernel
theorem dX0_servingNodes_10 : decode cX0_servingNodes 10 = .ok (.aload_n 0, 1) := by decide +kernel
theorem dX0_servingNodes_11 : decode cX0_servingNodes 11 = .ok (.getfield 9, 3) := by decide +kernel
theorem dX0_servingNodes_14 : decode cX0_servingNodes 14 = .ok (.iload_n 2, 1) := by decide +kernel
theorem dX0_servingNodes_15 : decode cX0_servingNodes 15 = .ok (.iaload, 1) := by decide +kernel
theorem dX0_servingNodes_16 : decode cX0_servingNodes 16 = .ok (.bipush (-9), 2) := by decide +kernel
theorem dX0_servingNodes_18 : decode cX0_servingNodes 18 = .ok (.if_icmp .eq 6, 3) := by decide +kernel
theorem dX0_servingNodes_21 : decode cX0_servingNodes 21 = .ok (.iinc 1 1, 3) := by decide +kernel
theorem dX0_servingNodes_24 : decode cX0_servingNodes 24 = .ok (.iinc 2 1, 3) := by decide +kernel
theorem dX0_servingNodes_27 : decode cX0_servingNodes 27 = .ok (.goto (-23), 3) := by decide +kernel
theorem dX0_servingNodes_30 : decode cX0_servingNodes 30 = .ok (.iload_n 1, 1) := by decide +kernel
theorem dX0_servingNodes_31 : decode cX0_servingNodes 31 = .ok (.ireturn, 1) := by decide +kernel
theorem dX0_hasRing_0 : decode cX0_hasRing 0 = .ok (.aload_n 0, 1) := by decide +kernel
theorem dX0_hasRing_1 : decode cX0_hasRing 1 = .ok (.invokevirtual 90, 3) := by decide +kernel
theorem dX0_hasRing_4 : decode cX0_hasRing 4 = .ok (.bipush 6, 2) := by decide +kernel
theorem dX0_hasRing_6 : decode cX0_hasRing 6 = .ok (.if_icmp .ge 7, 3) := by decide +kernel
theorem dX0_hasRing_9 : decode cX0_hasRing 9 = .ok (.iconst 1, 1) := by decide +kernel
theorem dX0_hasRing_10 : decode cX0_hasRing 10 = .ok (.goto 4, 3) := by decide +kernel
theorem dX0_hasRing_13 : decode cX0_hasRing 13 = .ok (.iconst 0, 1) := by decide +kernel
theorem dX0_hasRing_14 : decode cX0_hasRing 14 = .ok (.ireturn, 1) := by decide +kernel
theorem dX0_orderNodes_0 : decode cX0_orderNodes 0 = .ok (.aload_n 0, 1) := by decide +kernel
theorem dX0_orderNodes_1 : decode cX0_orderNodes 1 = .ok (.invokevirtual 94, 3) := by decide +kernel
theorem dX0_orderNodes_4 : decode cX0_orderNodes 4 = .ok (.iconst 0, 1) := by decide +kernel
theorem dX0_orderNodes_5 : decode cX0_orderNodes 5 = .ok (.istore_n 1, 1) := by decide +kernel
theorem dX0_orderNodes_6 : decode cX0_orderNodes 6 = .ok (.iconst 0, 1) := by decide +kernel
theorem dX0_orderNodes_7 : decode cX0_orderNodes 7 = .ok (.istore_n 2, 1) := by decide +kernel
theorem dX0_orderNodes_8 : decode cX0_orderNodes 8 = .ok (.iconst 0, 1) := by decide +kernel
theorem dX0_orderNodes_9 : decode cX0_orderNodes 9 = .ok (.istore_n 3, 1) := by decide +kernel
theorem dX0_orderNodes_10 : decode cX0_orderNodes 10 = .ok (.iload_n 3, 1) := by decide +kernel
theorem dX0_orderNodes_11 : decode cX0_orderNodes 11 = .ok (.bipush 6, 2) := by decide +kernel
theorem dX0_orderNodes_13 : decode cX0_orderNodes 13 = .ok (.if_icmp .ge 79, 3) := by decide +kernel
theorem dX0_orderNodes_16 : decode cX0_orderNodes 16 = .ok (.iconst 0, 1) := by decide +kernel
theorem dX0_orderNodes_17 : decode cX0_orderNodes 17 = .ok (.istore 4, 2) := by decide +kernel
theorem dX0_orderNodes_19 : decode cX0_orderNodes 19 = .ok (.iload 4, 2) := by decide +kernel
theorem dX0_orderNodes_21 : decode cX0_orderNodes 21 = .ok (.bipush 6, 2) := by decide +kernel
theorem dX0_orderNodes_23 : decode cX0_orderNodes 23 = .ok (.if_icmp .ge 63, 3) := by decide +kernel
theorem dX0_orderNodes_26 : decode cX0_orderNodes 26 = .ok (.iload_n 1, 1) := by decide +kernel
theorem dX0_orderNodes_27 : decode cX0_orderNodes 27 = .ok (.iload 4, 2) := by decide +kernel
theorem dX0_orderNodes_29 : decode cX0_orderNodes 29 = .ok (.ishr, 1) := by decide +kernel
theorem dX0_orderNodes_30 : decode cX0_orderNodes 30 = .ok (.iconst 1, 1) := by decide +kernel
theorem dX0_orderNodes_31 : decode cX0_orderNodes 31 = .ok (.iand, 1) := by decide +kernel
theorem dX0_orderNodes_32 : decode cX0_orderNodes 32 = .ok (.iconst 1, 1) := by decide +kernel
theorem dX0_orderNodes_33 : decode cX0_orderNodes 33 = .ok (.if_icmp .ne 7, 3) := by decide +kernel
theorem dX0_orderNodes_36 : decode cX0_orderNodes 36 = .ok (.iconst 1, 1) := by decide +kernel
theorem dX0_orderNodes_37 : decode cX0_orderNodes 37 = .ok (.goto 4, 3) := by decide +kernel
theorem dX0_orderNodes_40 : decode cX0_orderNodes 40 = .ok (.iconst 0, 1) := by decide +kernel
theorem dX0_orderNodes_41 : decode cX0_orderNodes 41 = .ok (.istore 5, 2) := by decide +kernel
theorem dX0_orderNodes_43 : decode cX0_orderNodes 43 = .ok (.iload 5, 2) := by decide +kernel
theorem dX0_orderNodes_45 : decode cX0_orderNodes 45 = .ok (.ifCond .ne 35, 3) := by decide +kernel
theorem dX0_orderNodes_48 : decode cX0_orderNodes 48 = .ok (.aload_n 0, 1) := by decide +kernel
theorem dX0_orderNodes_49 : decode cX0_orderNodes 49 = .ok (.getfield 45, 3) := by decide +kernel
theorem dX0_orderNodes_52 : decode cX0_orderNodes 52 = .ok (.iload 4, 2) := by decide +kernel
theorem dX0_orderNodes_54 : decode cX0_orderNodes 54 = .ok (.iaload, 1) := by decide +kernel
theorem dX0_orderNodes_55 : decode cX0_orderNodes 55 = .ok (.iload_n 1, 1) := by decide +kernel
theorem dX0_orderNodes_56 : decode cX0_orderNodes 56 = .ok (.iconst (-1), 1) := by decide +kernel
theorem dX0_orderNodes_57 : decode cX0_orderNodes 57 = .ok (.ixor, 1) := by decide +kernel
theorem dX0_orderNodes_58 : decode cX0_orderNodes 58 = .ok (.iand, 1) := by decide +kernel
theorem dX0_orderNodes_59 : decode cX0_orderNodes 59 = .ok (.ifCond .ne 21, 3) := by decide +kernel
theorem dX0_orderNodes_62 : decode cX0_orderNodes 62 = .ok (.aload_n 0, 1) := by decide +kernel
theorem dX0_orderNodes_63 : decode cX0_orderNodes 63 = .ok (.getfield 48, 3) := by decide +kernel
theorem dX0_orderNodes_66 : decode cX0_orderNodes 66 = .ok (.iload_n 2, 1) := by decide +kernel
theorem dX0_orderNodes_67 : decode cX0_orderNodes 67 = .ok (.iload 4, 2) := by decide +kernel
theorem dX0_orderNodes_69 : decode cX0_orderNodes 69 = .ok (.iastore, 1) := by decide +kernel
theorem dX0_orderNodes_70 : decode cX0_orderNodes 70 = .ok (.iinc 2 1, 3) := by decide +kernel
theorem dX0_orderNodes_73 : decode cX0_orderNodes 73 = .ok (.iload_n 1, 1) := by decide +kernel
theorem dX0_orderNodes_74 : decode cX0_orderNodes 74 = .ok (.iconst 1, 1) := by decide +kernel
theorem dX0_orderNodes_75 : decode cX0_orderNodes 75 = .ok (.iload 4, 2) := by decide +kernel
theorem dX0_orderNodes_77 : decode cX0_orderNodes 77 = .ok (.ishl, 1) := by decide +kernel
theorem dX0_orderNodes_78 : decode cX0_orderNodes 78 = .ok (.ior, 1) := by decide +kernel
theorem dX0_orderNodes_79 : decode cX0_orderNodes 79 = .ok (.istore_n 1, 1) := by decide +kernel
theorem dX0_orderNodes_80 : decode cX0_orderNodes 80 = .ok (.iinc 4 1, 3) := by decide +kernel
theorem dX0_orderNodes_83 : decode cX0_orderNodes 83 = .ok (.goto (-64), 3) := by decide +kernel
theorem dX0_orderNodes_86 : decode cX0_orderNodes 86 = .ok (.iinc 3 1, 3) := by decide +kernel
theorem dX0_orderNodes_89 : decode cX0_orderNodes 89 = .ok (.goto (-79), 3) := by decide +kernel
theorem dX0_orderNodes_92 : decode cX0_orderNodes 92 = .ok (.iload_n 2, 1) := by decide +kernel
theorem dX0_orderNodes_93 : decode cX0_orderNodes 93 = .ok (.ireturn, 1) := by decide +kernel
theorem dX0_noteAhead_0 : decode cX0_noteAhead 0 = .ok (.aload_n 0, 1) := by decide +kernel
theorem dX0_noteAhead_1 : decode cX0_noteAhead 1 = .ok (.getfield 45, 3) := by decide +kernel
theorem dX0_noteAhead_4 : decode cX0_noteAhead 4 = .ok (.iconst 0, 1) := by decide +kernel
theorem dX0_noteAhead_5 : decode cX0_noteAhead 5 = .ok (.invokestatic 64, 3) := by decide +kernel
theorem dX0_noteAhead_8 : decode cX0_noteAhead 8 = .ok (.iconst 0, 1) := by decide +kernel
theorem dX0_noteAhead_9 : decode cX0_noteAhead 9 = .ok (.istore_n 1, 1) := by decide +kernel
theorem dX0_noteAhead_10 : decode cX0_noteAhead 10 = .ok (.iload_n 1, 1) := by decide +kernel
theorem dX0_noteAhead_11 : decode cX0_noteAhead 11 = .ok (.aload_n 0, 1) := by decide +kernel
theorem dX0_noteAhead_12 : decode cX0_noteAhead 12 = .ok (.getfield 29, 3) := by decide +kernel
theorem dX0_noteAhead_15 : decode cX0_noteAhead 15 = .ok (.if_icmp .ge 55, 3) := by decide +kernel
theorem dX0_noteAhead_18 : decode cX0_noteAhead 18 = .ok (.iconst 1, 1) := by decide +kernel
theorem dX0_noteAhead_19 : decode cX0_noteAhead 19 = .ok (.istore_n 2, 1) := by decide +kernel
theorem dX0_noteAhead_20 : decode cX0_noteAhead 20 = .ok (.iload_n 2, 1) := by decide +kernel
theorem dX0_noteAhead_21 : decode cX0_noteAhead 21 = .ok (.aload_n 0, 1) := by decide +kernel
theorem dX0_noteAhead_22 : decode cX0_noteAhead 22 = .ok (.getfield 23, 3) := by decide +kernel
theorem dX0_noteAhead_25 : decode cX0_noteAhead 25 = .ok (.iload_n 1, 1) := by decide +kernel
theorem dX0_noteAhead_26 : decode cX0_noteAhead 26 = .ok (.iaload, 1) := by decide +kernel
theorem dX0_noteAhead_27 : decode cX0_noteAhead 27 = .ok (.if_icmp .ge 37, 3) := by decide +kernel
theorem dX0_noteAhead_30 : decode cX0_noteAhead 30 = .ok (.aload_n 0, 1) := by decide +kernel
theorem dX0_noteAhead_31 : decode cX0_noteAhead 31 = .ok (.getfield 45, 3) := by decide +kernel
theorem dX0_noteAhead_34 : decode cX0_noteAhead 34 = .ok (.aload_n 0, 1) := by decide +kernel
theorem dX0_noteAhead_35 : decode cX0_noteAhead 35 = .ok (.getfield 26, 3) := by decide +kernel
theorem dX0_noteAhead_38 : decode cX0_noteAhead 38 = .ok (.iload_n 1, 1) := by decide +kernel
theorem dX0_noteAhead_39 : decode cX0_noteAhead 39 = .ok (.aaload, 1) := by decide +kernel
theorem dX0_noteAhead_40 : decode cX0_noteAhead 40 = .ok (.iload_n 2, 1) := by decide +kernel
theorem dX0_noteAhead_41 : decode cX0_noteAhead 41 = .ok (.iaload, 1) := by decide +kernel
theorem dX0_noteAhead_42 : decode cX0_noteAhead 42 = .ok (.dup2, 1) := by decide +kernel
theorem dX0_noteAhead_43 : decode cX0_noteAhead 43 = .ok (.iaload, 1) := by decide +kernel
theorem dX0_noteAhead_44 : decode cX0_noteAhead 44 = .ok (.iconst 1, 1) := by decide +kernel
theorem dX0_noteAhead_45 : decode cX0_noteAhead 45 = .ok (.aload_n 0, 1) := by decide +kernel
theorem dX0_noteAhead_46 : decode cX0_noteAhead 46 = .ok (.getfield 26, 3) := by decide +kernel
theorem dX0_noteAhead_49 : decode cX0_noteAhead 49 = .ok (.iload_n 1, 1) := by decide +kernel
theorem dX0_noteAhead_50 : decode cX0_noteAhead 50 = .ok (.aaload, 1) := by decide +kernel
theorem dX0_noteAhead_51 : decode cX0_noteAhead 51 = .ok (.iload_n 2, 1) := by decide +kernel
theorem dX0_noteAhead_52 : decode cX0_noteAhead 52 = .ok (.iconst 1, 1) := by decide +kernel
theorem dX0_noteAhead_53 : decode cX0_noteAhead 53 = .ok (.isub, 1) := by decide +kernel
theorem dX0_noteAhead_54 : decode cX0_noteAhead 54 = .ok (.iaload, 1) := by decide +kernel
theorem dX0_noteAhead_55 : decode cX0_noteAhead 55 = .ok (.ishl, 1) := by decide +kernel
theorem dX0_noteAhead_56 : decode cX0_noteAhead 56 = .ok (.ior, 1) := by decide +kernel
theorem dX0_noteAhead_57 : decode cX0_noteAhead 57 = .ok (.iastore, 1) := by decide +kernel
theorem dX0_noteAhead_58 : decode cX0_noteAhead 58 = .ok (.iinc 2 1, 3) := by decide +kernel
theorem dX0_noteAhead_61 : decode cX0_noteAhead 61 = .ok (.goto (-41), 3) := by decide +kernel
theorem dX0_noteAhead_64 : decode cX0_noteAhead 64 = .ok (.iinc 1 1, 3) := by decide +kernel
theorem dX0_noteAhead_67 : decode cX0_noteAhead 67 = .ok (.goto (-57), 3) := by decide +kernel
theorem dX0_noteAhead_70 : decode cX0_noteAhead 70 = .ok (.return_, 1) := by decide +kernel
theorem dX0_isBounded_0 : decode cX0_isBounded 0 = .ok (.aload_n 0, 1) := by decide +kernel
theorem dX0_isBounded_1 : decode cX0_isBounded 1 = .ok (.getfield 57, 3) := by decide +kernel
theorem dX0_isBounded_4 : decode cX0_isBounded 4 = .ok (.ifCond .ne 40, 3) := by decide +kernel
theorem dX0_isBounded_7 : decode cX0_isBounded 7 = .ok (.aload_n 0, 1) := by decide +kernel
theorem dX0_isBounded_8 : decode cX0_isBounded 8 = .ok (.aload_n 0, 1) := by decide +kernel
theorem dX0_isBounded_9 : decode cX0_isBounded 9 = .ok (.invokevirtual 90, 3) := by decide +kernel
theorem dX0_isBounded_12 : decode cX0_isBounded 12 = .ok (.bipush 6, 2) := by decide +kernel
theorem dX0_isBounded_14 : decode cX0_isBounded 14 = .ok (.if_icmp .ne 21, 3) := by decide +kernel
theorem dX0_isBounded_17 : decode cX0_isBounded 17 = .ok (.aload_n 0, 1) := by decide +kernel
theorem dX0_isBounded_18 : decode cX0_isBounded 18 = .ok (.invokevirtual 97, 3) := by decide +kernel
theorem dX0_isBounded_21 : decode cX0_isBounded 21 = .ok (.ifCond .eq 14, 3) := by decide +kernel
theorem dX0_isBounded_24 : decode cX0_isBounded 24 = .ok (.aload_n 0, 1) := by decide +kernel
theorem dX0_isBounded_25 : decode cX0_isBounded 25 = .ok (.invokevirtual 101, 3) := by decide +kernel
theorem dX0_isBounded_28 : decode cX0_isBounded 28 = .ok (.ifCond .eq 7, 3) := by decide +kernel
theorem dX0_isBounded_31 : decode cX0_isBounded 31 = .ok (.iconst 1, 1) := by decide +kernel
theorem dX0_isBounded_32 : decode cX0_isBounded 32 = .ok (.goto 4, 3) := by decide +kernel
theorem dX0_isBounded_35 : decode cX0_isBounded 35 = .ok (.iconst 0, 1) := by decide +kernel
theorem dX0_isBounded_36 : decode cX0_isBounded 36 = .ok (.putfield 61, 3) := by decide +kernel
theorem dX0_isBounded_39 : decode cX0_isBounded 39 = .ok (.aload_n 0, 1) := by decide +kernel
theorem dX0_isBounded_40 : decode cX0_isBounded 40 = .ok (.iconst 1, 1) := by decide +kernel
theorem dX0_isBounded_41 : decode cX0_isBounded 41 = .ok (.putfield 57, 3) := by decide +kernel
theorem dX0_isBounded_44 : decode cX0_isBounded 44 = .ok (.aload_n 0, 1) := by decide +kernel
theorem dX0_isBounded_45 : decode cX0_isBounded 45 = .ok (.getfield 61, 3) := by decide +kernel
theorem dX0_isBounded_48 : decode cX0_isBounded 48 = .ok (.ireturn, 1) := by decide +kernel
theorem dX0_isServedOnWays_0 : decode cX0_isServedOnWays 0 = .ok (.iconst 0, 1) := by decide +kernel
theorem dX0_isServedOnWays_1 : decode cX0_isServedOnWays 1 = .ok (.istore_n 1, 1) := by decide +kernel
theorem dX0_isServedOnWays_2 : decode cX0_isServedOnWays 2 = .ok (.iload_n 1, 1) := by decide +kernel
theorem dX0_isServedOnWays_3 : decode cX0_isServedOnWays 3 = .ok (.aload_n 0, 1) := by decide +kernel
theorem dX0_isServedOnWays_4 : decode cX0_isServedOnWays 4 = .ok (.getfield 29, 3) := by decide +kernel
theorem dX0_isServedOnWays_7 : decode cX0_isServedOnWays 7 = .ok (.if_icmp .ge 47, 3) := by decide +kernel
theorem dX0_isServedOnWays_10 : decode cX0_isServedOnWays 10 = .ok (.iconst 0, 1) := by decide +kernel
theorem dX0_isServedOnWays_11 : decode cX0_isServedOnWays 11 = .ok (.istore_n 2, 1) := by decide +kernel
theorem dX0_isServedOnWays_12 : decode cX0_isServedOnWays 12 = .ok (.iload_n 2, 1) := by decide +kernel
theorem dX0_isServedOnWays_13 : decode cX0_isServedOnWays 13 = .ok (.aload_n 0, 1) := by decide +kernel
theorem dX0_isServedOnWays_14 : decode cX0_isServedOnWays 14 = .ok (.getfield 23, 3) := by decide +kernel
theorem dX0_isServedOnWays_17 : decode cX0_isServedOnWays 17 = .ok (.iload_n 1, 1) := by decide +kernel
theorem dX0_isServedOnWays_18 : decode cX0_isServedOnWays 18 = .ok (.iaload, 1) := by decide +kernel
theorem dX0_isServedOnWays_19 : decode cX0_isServedOnWays 19 = .ok (.if_icmp .ge 29, 3) := by decide +kernel
theorem dX0_isServedOnWays_22 : decode cX0_isServedOnWays 22 = .ok (.aload_n 0, 1) := by decide +kernel
theorem dX0_isServedOnWays_23 : decode cX0_isServedOnWays 23 = .ok (.getfield 9, 3) := by decide +kernel
theorem dX0_isServedOnWays_26 : decode cX0_isServedOnWays 26 = .ok (.aload_n 0, 1) := by decide +kernel
theorem dX0_isServedOnWays_27 : decode cX0_isServedOnWays 27 = .ok (.getfield 26, 3) := by decide +kernel
theorem dX0_isServedOnWays_30 : decode cX0_isServedOnWays 30 = .ok (.iload_n 1, 1) := by decide +kernel
theorem dX0_isServedOnWays_31 : decode cX0_isServedOnWays 31 = .ok (.aaload, 1) := by decide +kernel
theorem dX0_isServedOnWays_32 : decode cX0_isServedOnWays 32 = .ok (.iload_n 2, 1) := by decide +kernel
theorem dX0_isServedOnWays_33 : decode cX0_isServedOnWays 33 = .ok (.iaload, 1) := by decide +kernel
theorem dX0_isServedOnWays_34 : decode cX0_isServedOnWays 34 = .ok (.iaload, 1) := by decide +kernel
theorem dX0_isServedOnWays_35 : decode cX0_isServedOnWays 35 = .ok (.bipush (-9), 2) := by decide +kernel
theorem dX0_isServedOnWays_37 : decode cX0_isServedOnWays 37 = .ok (.if_icmp .ne 5, 3) := by decide +kernel
theorem dX0_isServedOnWays_40 : decode cX0_isServedOnWays 40 = .ok (.iconst 0, 1) := by decide +kernel
theorem dX0_isServedOnWays_41 : decode cX0_isServedOnWays 41 = .ok (.ireturn, 1) := by decide +kernel
theorem dX0_isServedOnWays_42 : decode cX0_isServedOnWays 42 = .ok (.iinc 2 1, 3) := by decide +kernel
theorem dX0_isServedOnWays_45 : decode cX0_isServedOnWays 45 = .ok (.goto (-33), 3) := by decide +kernel
theorem dX0_isServedOnWays_48 : decode cX0_isServedOnWays 48 = .ok (.iinc 1 1, 3) := by decide +kernel
theorem dX0_isServedOnWays_51 : decode cX0_isServedOnWays 51 = .ok (.goto (-49), 3) := by decide +kernel
theorem dX0_isServedOnWays_54 : decode cX0_isServedOnWays 54 = .ok (.iconst 1, 1) := by decide +kernel
theorem dX0_isServedOnWays_55 : decode cX0_isServedOnWays 55 = .ok (.ireturn, 1) := by decide +kernel
theorem dX0_workOut_0 : decode cX0_workOut 0 = .ok (.iconst 0, 1) := by decide +kernel
theorem dX0_workOut_1 : decode cX0_workOut 1 = .ok (.istore_n 1, 1) := by decide +kernel
theorem dX0_workOut_2 : decode cX0_workOut 2 = .ok (.iload_n 1, 1) := by decide +kernel
theorem dX0_workOut_3 : decode cX0_workOut 3 = .ok (.bipush 6, 2) := by decide +kernel
theorem dX0_workOut_5 : decode cX0_workOut 5 = .ok (.if_icmp .ge 52, 3) := by decide +kernel
theorem dX0_workOut_8 : decode cX0_workOut 8 = .ok (.iconst 0, 1) := by decide +kernel
theorem dX0_workOut_9 : decode cX0_workOut 9 = .ok (.istore_n 2, 1) := by decide +kernel
theorem dX0_workOut_10 : decode cX0_workOut 10 = .ok (.iload_n 2, 1) := by decide +kernel
theorem dX0_workOut_11 : decode cX0_workOut 11 = .ok (.aload_n 0, 1) := by decide +kernel
theorem dX0_workOut_12 : decode cX0_workOut 12 = .ok (.getfield 29, 3) := by decide +kernel
theorem dX0_workOut_15 : decode cX0_workOut 15 = .ok (.if_icmp .ge 36, 3) := by decide +kernel
theorem dX0_workOut_18 : decode cX0_workOut 18 = .ok (.aload_n 0, 1) := by decide +kernel
theorem dX0_workOut_19 : decode cX0_workOut 19 = .ok (.iload_n 2, 1) := by decide +kernel
theorem dX0_workOut_20 : decode cX0_workOut 20 = .ok (.aload_n 0, 1) := by decide +kernel
theorem dX0_workOut_21 : decode cX0_workOut 21 = .ok (.getfield 48, 3) := by decide +kernel
theorem dX0_workOut_24 : decode cX0_workOut 24 = .ok (.iload_n 1, 1) := by decide +kernel
theorem dX0_workOut_25 : decode cX0_workOut 25 = .ok (.iaload, 1) := by decide +kernel
theorem dX0_workOut_26 : decode cX0_workOut 26 = .ok (.invokevirtual 104, 3) := by decide +kernel
theorem dX0_workOut_29 : decode cX0_workOut 29 = .ok (.istore_n 3, 1) := by decide +kernel
theorem dX0_workOut_30 : decode cX0_workOut 30 = .ok (.iload_n 3, 1) := by decide +kernel
theorem dX0_workOut_31 : decode cX0_workOut 31 = .ok (.ifCond .lt 14, 3) := by decide +kernel
theorem dX0_workOut_34 : decode cX0_workOut 34 = .ok (.aload_n 0, 1) := by decide +kernel
theorem dX0_workOut_35 : decode cX0_workOut 35 = .ok (.iload_n 2, 1) := by decide +kernel
theorem dX0_workOut_36 : decode cX0_workOut 36 = .ok (.iload_n 3, 1) := by decide +kernel
theorem dX0_workOut_37 : decode cX0_workOut 37 = .ok (.invokevirtual 108, 3) := by decide +kernel
theorem dX0_workOut_40 : decode cX0_workOut 40 = .ok (.ifCond .ne 5, 3) := by decide +kernel
theorem dX0_workOut_43 : decode cX0_workOut 43 = .ok (.iconst 0, 1) := by decide +kernel
theorem dX0_workOut_44 : decode cX0_workOut 44 = .ok (.ireturn, 1) := by decide +kernel
theorem dX0_workOut_45 : decode cX0_workOut 45 = .ok (.iinc 2 1, 3) := by decide +kernel
theorem dX0_workOut_48 : decode cX0_workOut 48 = .ok (.goto (-38), 3) := by decide +kernel
theorem dX0_workOut_51 : decode cX0_workOut 51 = .ok (.iinc 1 1, 3) := by decide +kernel
theorem dX0_workOut_54 : decode cX0_workOut 54 = .ok (.goto (-52), 3) := by decide +kernel
theorem dX0_workOut_57 : decode cX0_workOut 57 = .ok (.iconst 1, 1) := by decide +kernel
theorem dX0_workOut_58 : decode cX0_workOut 58 = .ok (.ireturn, 1) := by decide +kernel
theorem dX0_workOutAt_0 : decode cX0_workOutAt 0 = .ok (.aload_n 0, 1) := by decide +kernel
theorem dX0_workOutAt_1 : decode cX0_workOutAt 1 = .ok (.getfield 26, 3) := by decide +kernel
theorem dX0_workOutAt_4 : decode cX0_workOutAt 4 = .ok (.iload_n 1, 1) := by decide +kernel
theorem dX0_workOutAt_5 : decode cX0_workOutAt 5 = .ok (.aaload, 1) := by decide +kernel
theorem dX0_workOutAt_6 : decode cX0_workOutAt 6 = .ok (.iload_n 2, 1) := by decide +kernel
theorem dX0_workOutAt_7 : decode cX0_workOutAt 7 = .ok (.iaload, 1) := by decide +kernel
theorem dX0_workOutAt_8 : decode cX0_workOutAt 8 = .ok (.istore_n 3, 1) := by decide +kernel
theorem dX0_workOutAt_9 : decode cX0_workOutAt 9 = .ok (.aload_n 0, 1) := by decide +kernel
theorem dX0_workOutAt_10 : decode cX0_workOutAt 10 = .ok (.getfield 33, 3) := by decide +kernel
theorem dX0_workOutAt_13 : decode cX0_workOutAt 13 = .ok (.iconst 2, 1) := by decide +kernel
theorem dX0_workOutAt_14 : decode cX0_workOutAt 14 = .ok (.if_icmp .ne 49, 3) := by decide +kernel
theorem dX0_workOutAt_17 : decode cX0_workOutAt 17 = .ok (.aload_n 0, 1) := by decide +kernel
theorem dX0_workOutAt_18 : decode cX0_workOutAt 18 = .ok (.iload_n 3, 1) := by decide +kernel
theorem dX0_workOutAt_19 : decode cX0_workOutAt 19 = .ok (.aload_n 0, 1) := by decide +kernel
theorem dX0_workOutAt_20 : decode cX0_workOutAt 20 = .ok (.getfield 29, 3) := by decide +kernel
theorem dX0_workOutAt_23 : decode cX0_workOutAt 23 = .ok (.bipush (-9), 2) := by decide +kernel
theorem dX0_workOutAt_25 : decode cX0_workOutAt 25 = .ok (.invokevirtual 112, 3) := by decide +kernel
theorem dX0_workOutAt_28 : decode cX0_workOutAt 28 = .ok (.aload_n 0, 1) := by decide +kernel
theorem dX0_workOutAt_29 : decode cX0_workOutAt 29 = .ok (.getfield 17, 3) := by decide +kernel
theorem dX0_workOutAt_32 : decode cX0_workOutAt 32 = .ok (.iload_n 3, 1) := by decide +kernel
theorem dX0_workOutAt_33 : decode cX0_workOutAt 33 = .ok (.aaload, 1) := by decide +kernel
theorem dX0_workOutAt_34 : decode cX0_workOutAt 34 = .ok (.aload_n 0, 1) := by decide +kernel
theorem dX0_workOutAt_35 : decode cX0_workOutAt 35 = .ok (.iload_n 1, 1) := by decide +kernel
theorem dX0_workOutAt_36 : decode cX0_workOutAt 36 = .ok (.iload_n 2, 1) := by decide +kernel
theorem dX0_workOutAt_37 : decode cX0_workOutAt 37 = .ok (.invokevirtual 116, 3) := by decide +kernel
theorem dX0_workOutAt_40 : decode cX0_workOutAt 40 = .ok (.invokestatic 70, 3) := by decide +kernel
theorem dX0_workOutAt_43 : decode cX0_workOutAt 43 = .ok (.aload_n 0, 1) := by decide +kernel
theorem dX0_workOutAt_44 : decode cX0_workOutAt 44 = .ok (.getfield 51, 3) := by decide +kernel
theorem dX0_workOutAt_47 : decode cX0_workOutAt 47 = .ok (.aload_n 0, 1) := by decide +kernel
theorem dX0_workOutAt_48 : decode cX0_workOutAt 48 = .ok (.getfield 17, 3) := by decide +kernel
theorem dX0_workOutAt_51 : decode cX0_workOutAt 51 = .ok (.iload_n 3, 1) := by decide +kernel
theorem dX0_workOutAt_52 : decode cX0_workOutAt 52 = .ok (.aaload, 1) := by decide +kernel
theorem dX0_workOutAt_53 : decode cX0_workOutAt 53 = .ok (.bipush 20, 2) := by decide +kernel
theorem dX0_workOutAt_55 : decode cX0_workOutAt 55 = .ok (.invokestatic 119, 3) := by decide +kernel
theorem dX0_workOutAt_58 : decode cX0_workOutAt 58 = .ok (.istore 4, 2) := by decide +kernel
theorem dX0_workOutAt_60 : decode cX0_workOutAt 60 = .ok (.goto 62, 3) := by decide +kernel
theorem dX0_workOutAt_63 : decode cX0_workOutAt 63 = .ok (.aload_n 0, 1) := by decide +kernel
theorem dX0_workOutAt_64 : decode cX0_workOutAt 64 = .ok (.iload_n 3, 1) := by decide +kernel
theorem dX0_workOutAt_65 : decode cX0_workOutAt 65 = .ok (.aload_n 0, 1) := by decide +kernel
theorem dX0_workOutAt_66 : decode cX0_workOutAt 66 = .ok (.getfield 33, 3) := by decide +kernel
theorem dX0_workOutAt_69 : decode cX0_workOutAt 69 = .ok (.ifCond .ne 7, 3) := by decide +kernel
theorem dX0_workOutAt_72 : decode cX0_workOutAt 72 = .ok (.iload_n 1, 1) := by decide +kernel
theorem dX0_workOutAt_73 : decode cX0_workOutAt 73 = .ok (.goto 7, 3) := by decide +kernel
theorem dX0_workOutAt_76 : decode cX0_workOutAt 76 = .ok (.aload_n 0, 1) := by decide +kernel
theorem dX0_workOutAt_77 : decode cX0_workOutAt 77 = .ok (.getfield 29, 3) := by decide +kernel
theorem dX0_workOutAt_80 : decode cX0_workOutAt 80 = .ok (.iload_n 1, 1) := by decide +kernel
theorem dX0_workOutAt_81 : decode cX0_workOutAt 81 = .ok (.invokevirtual 112, 3) := by decide +kernel
theorem dX0_workOutAt_84 : decode cX0_workOutAt 84 = .ok (.aload_n 0, 1) := by decide +kernel
theorem dX0_workOutAt_85 : decode cX0_workOutAt 85 = .ok (.getfield 17, 3) := by decide +kernel
theorem dX0_workOutAt_88 : decode cX0_workOutAt 88 = .ok (.iload_n 3, 1) := by decide +kernel
theorem dX0_workOutAt_89 : decode cX0_workOutAt 89 = .ok (.aaload, 1) := by decide +kernel
theorem dX0_workOutAt_90 : decode cX0_workOutAt 90 = .ok (.aload_n 0, 1) := by decide +kernel
theorem dX0_workOutAt_91 : decode cX0_workOutAt 91 = .ok (.getfield 51, 3) := by decide +kernel
theorem dX0_workOutAt_94 : decode cX0_workOutAt 94 = .ok (.aload_n 0, 1) := by decide +kernel
theorem dX0_workOutAt_95 : decode cX0_workOutAt 95 = .ok (.iload_n 1, 1) := by decide +kernel
theorem dX0_workOutAt_96 : decode cX0_workOutAt 96 = .ok (.iload_n 2, 1) := by decide +kernel
theorem dX0_workOutAt_97 : decode cX0_workOutAt 97 = .ok (.invokevirtual 116, 3) := by decide +kernel
theorem dX0_workOutAt_100 : decode cX0_workOutAt 100 = .ok (.invokestatic 123, 3) := by decide +kernel
theorem dX0_workOutAt_103 : decode cX0_workOutAt 103 = .ok (.aload_n 0, 1) := by decide +kernel
theorem dX0_workOutAt_104 : decode cX0_workOutAt 104 = .ok (.iload_n 1, 1) := by decide +kernel
theorem dX0_workOutAt_105 : decode cX0_workOutAt 105 = .ok (.iload_n 2, 1) := by decide +kernel
theorem dX0_workOutAt_106 : decode cX0_workOutAt 106 = .ok (.invokevirtual 82, 3) := by decide +kernel
theorem dX0_workOutAt_109 : decode cX0_workOutAt 109 = .ok (.aload_n 0, 1) := by decide +kernel
theorem dX0_workOutAt_110 : decode cX0_workOutAt 110 = .ok (.iload_n 1, 1) := by decide +kernel
theorem dX0_workOutAt_111 : decode cX0_workOutAt 111 = .ok (.iload_n 2, 1) := by decide +kernel
theorem dX0_workOutAt_112 : decode cX0_workOutAt 112 = .ok (.invokevirtual 116, 3) := by decide +kernel
theorem dX0_workOutAt_115 : decode cX0_workOutAt 115 = .ok (.bipush 20, 2) := by decide +kernel
theorem dX0_workOutAt_117 : decode cX0_workOutAt 117 = .ok (.invokestatic 119, 3) := by decide +kernel
theorem dX0_workOutAt_120 : decode cX0_workOutAt 120 = .ok (.istore 4, 2) := by decide +kernel
theorem dX0_workOutAt_122 : decode cX0_workOutAt 122 = .ok (.iload 4, 2) := by decide +kernel
theorem dX0_workOutAt_124 : decode cX0_workOutAt 124 = .ok (.bipush (-9), 2) := by decide +kernel
theorem dX0_workOutAt_126 : decode cX0_workOutAt 126 = .ok (.if_icmp .ne 5, 3) := by decide +kernel
theorem dX0_workOutAt_129 : decode cX0_workOutAt 129 = .ok (.iconst 0, 1) := by decide +kernel
theorem dX0_workOutAt_130 : decode cX0_workOutAt 130 = .ok (.ireturn, 1) := by decide +kernel
theorem dX0_workOutAt_131 : decode cX0_workOutAt 131 = .ok (.aload_n 0, 1) := by decide +kernel
theorem dX0_workOutAt_132 : decode cX0_workOutAt 132 = .ok (.getfield 42, 3) := by decide +kernel
theorem dX0_workOutAt_135 : decode cX0_workOutAt 135 = .ok (.iload_n 1, 1) := by decide +kernel
theorem dX0_workOutAt_136 : decode cX0_workOutAt 136 = .ok (.iconst 4, 1) := by decide +kernel
theorem dX0_workOutAt_137 : decode cX0_workOutAt 137 = .ok (.imul, 1) := by decide +kernel
theorem dX0_workOutAt_138 : decode cX0_workOutAt 138 = .ok (.iload_n 2, 1) := by decide +kernel
theorem dX0_workOutAt_139 : decode cX0_workOutAt 139 = .ok (.iadd, 1) := by decide +kernel
theorem dX0_workOutAt_140 : decode cX0_workOutAt 140 = .ok (.iload 4, 2) := by decide +kernel
theorem dX0_workOutAt_142 : decode cX0_workOutAt 142 = .ok (.iastore, 1) := by decide +kernel
theorem dX0_workOutAt_143 : decode cX0_workOutAt 143 = .ok (.aload_n 0, 1) := by decide +kernel
theorem dX0_workOutAt_144 : decode cX0_workOutAt 144 = .ok (.getfield 33, 3) := by decide +kernel
theorem dX0_workOutAt_147 : decode cX0_workOutAt 147 = .ok (.iconst 2, 1) := by decide +kernel
theorem dX0_workOutAt_148 : decode cX0_workOutAt 148 = .ok (.if_icmp .ne 23, 3) := by decide +kernel
theorem dX0_workOutAt_151 : decode cX0_workOutAt 151 = .ok (.aload_n 0, 1) := by decide +kernel
theorem dX0_workOutAt_152 : decode cX0_workOutAt 152 = .ok (.iload_n 1, 1) := by decide +kernel
theorem dX0_workOutAt_153 : decode cX0_workOutAt 153 = .ok (.iload_n 2, 1) := by decide +kernel
theorem dX0_workOutAt_154 : decode cX0_workOutAt 154 = .ok (.invokevirtual 82, 3) := by decide +kernel
theorem dX0_workOutAt_157 : decode cX0_workOutAt 157 = .ok (.iload 4, 2) := by decide +kernel
theorem dX0_workOutAt_159 : decode cX0_workOutAt 159 = .ok (.aload_n 0, 1) := by decide +kernel
theorem dX0_workOutAt_160 : decode cX0_workOutAt 160 = .ok (.iload_n 1, 1) := by decide +kernel
theorem dX0_workOutAt_161 : decode cX0_workOutAt 161 = .ok (.iload_n 2, 1) := by decide +kernel
theorem dX0_workOutAt_162 : decode cX0_workOutAt 162 = .ok (.invokevirtual 127, 3) := by decide +kernel
theorem dX0_workOutAt_165 : decode cX0_workOutAt 165 = .ok (.invokestatic 130, 3) := by decide +kernel
theorem dX0_workOutAt_168 : decode cX0_workOutAt 168 = .ok (.goto 24, 3) := by decide +kernel
theorem dX0_workOutAt_171 : decode cX0_workOutAt 171 = .ok (.aload_n 0, 1) := by decide +kernel
theorem dX0_workOutAt_172 : decode cX0_workOutAt 172 = .ok (.iload_n 1, 1) := by decide +kernel
theorem dX0_workOutAt_173 : decode cX0_workOutAt 173 = .ok (.iload_n 2, 1) := by decide +kernel
theorem dX0_workOutAt_174 : decode cX0_workOutAt 174 = .ok (.invokevirtual 82, 3) := by decide +kernel
theorem dX0_workOutAt_177 : decode cX0_workOutAt 177 = .ok (.aload_n 0, 1) := by decide +kernel
theorem dX0_workOutAt_178 : decode cX0_workOutAt 178 = .ok (.iload_n 1, 1) := by decide +kernel
theorem dX0_workOutAt_179 : decode cX0_workOutAt 179 = .ok (.iload_n 2, 1) := by decide +kernel
theorem dX0_workOutAt_180 : decode cX0_workOutAt 180 = .ok (.invokevirtual 116, 3) := by decide +kernel
theorem dX0_workOutAt_183 : decode cX0_workOutAt 183 = .ok (.aload_n 0, 1) := by decide +kernel
theorem dX0_workOutAt_184 : decode cX0_workOutAt 184 = .ok (.iload_n 1, 1) := by decide +kernel
theorem dX0_workOutAt_185 : decode cX0_workOutAt 185 = .ok (.iload_n 2, 1) := by decide +kernel
theorem dX0_workOutAt_186 : decode cX0_workOutAt 186 = .ok (.invokevirtual 127, 3) := by decide +kernel
theorem dX0_workOutAt_189 : decode cX0_workOutAt 189 = .ok (.invokestatic 134, 3) := by decide +kernel
theorem dX0_workOutAt_192 : decode cX0_workOutAt 192 = .ok (.iconst 1, 1) := by decide +kernel
theorem dX0_workOutAt_193 : decode cX0_workOutAt 193 = .ok (.ireturn, 1) := by decide +kernel
theorem dX0_sumComing_0 : decode cX0_sumComing 0 = .ok (.aload_n 0, 1) := by decide +kernel
theorem dX0_sumComing_1 : decode cX0_sumComing 1 = .ok (.getfield 51, 3) := by decide +kernel
theorem dX0_sumComing_4 : decode cX0_sumComing 4 = .ok (.iconst 0, 1) := by decide +kernel
theorem dX0_sumComing_5 : decode cX0_sumComing 5 = .ok (.invokestatic 64, 3) := by decide +kernel
theorem dX0_sumComing_8 : decode cX0_sumComing 8 = .ok (.iconst 0, 1) := by decide +kernel
theorem dX0_sumComing_9 : decode cX0_sumComing 9 = .ok (.istore 4, 2) := by decide +kernel
theorem dX0_sumComing_11 : decode cX0_sumComing 11 = .ok (.iload 4, 2) := by decide +kernel
theorem dX0_sumComing_13 : decode cX0_sumComing 13 = .ok (.iload_n 2, 1) := by decide +kernel
theorem dX0_sumComing_14 : decode cX0_sumComing 14 = .ok (.if_icmp .ge 48, 3) := by decide +kernel
theorem dX0_sumComing_17 : decode cX0_sumComing 17 = .ok (.aload_n 0, 1) := by decide +kernel
theorem dX0_sumComing_18 : decode cX0_sumComing 18 = .ok (.iload 4, 2) := by decide +kernel
theorem dX0_sumComing_20 : decode cX0_sumComing 20 = .ok (.iload_n 1, 1) := by decide +kernel
theorem dX0_sumComing_21 : decode cX0_sumComing 21 = .ok (.invokevirtual 104, 3) := by decide +kernel
theorem dX0_sumComing_24 : decode cX0_sumComing 24 = .ok (.istore 5, 2) := by decide +kernel
theorem dX0_sumComing_26 : decode cX0_sumComing 26 = .ok (.iload 5, 2) := by decide +kernel
theorem dX0_sumComing_28 : decode cX0_sumComing 28 = .ok (.ifCond .lt 28, 3) := by decide +kernel
theorem dX0_sumComing_31 : decode cX0_sumComing 31 = .ok (.iload 4, 2) := by decide +kernel
theorem dX0_sumComing_33 : decode cX0_sumComing 33 = .ok (.iload_n 3, 1) := by decide +kernel
theorem dX0_sumComing_34 : decode cX0_sumComing 34 = .ok (.if_icmp .eq 22, 3) := by decide +kernel
theorem dX0_sumComing_37 : decode cX0_sumComing 37 = .ok (.aload_n 0, 1) := by decide +kernel
theorem dX0_sumComing_38 : decode cX0_sumComing 38 = .ok (.getfield 51, 3) := by decide +kernel
theorem dX0_sumComing_41 : decode cX0_sumComing 41 = .ok (.aload_n 0, 1) := by decide +kernel
theorem dX0_sumComing_42 : decode cX0_sumComing 42 = .ok (.iload 4, 2) := by decide +kernel
theorem dX0_sumComing_44 : decode cX0_sumComing 44 = .ok (.iload 5, 2) := by decide +kernel
theorem dX0_sumComing_46 : decode cX0_sumComing 46 = .ok (.invokevirtual 82, 3) := by decide +kernel
theorem dX0_sumComing_49 : decode cX0_sumComing 49 = .ok (.aload_n 0, 1) := by decide +kernel
theorem dX0_sumComing_50 : decode cX0_sumComing 50 = .ok (.getfield 51, 3) := by decide +kernel
theorem dX0_sumComing_53 : decode cX0_sumComing 53 = .ok (.invokestatic 137, 3) := by decide +kernel
theorem dX0_sumComing_56 : decode cX0_sumComing 56 = .ok (.iinc 4 1, 3) := by decide +kernel
theorem dX0_sumComing_59 : decode cX0_sumComing 59 = .ok (.goto (-48), 3) := by decide +kernel
theorem dX0_sumComing_62 : decode cX0_sumComing 62 = .ok (.return_, 1) := by decide +kernel
theorem dX0_placeOn_0 : decode cX0_placeOn 0 = .ok (.iconst 0, 1) := by decide +kernel
theorem dX0_placeOn_1 : decode cX0_placeOn 1 = .ok (.istore_n 3, 1) := by decide +kernel
theorem dX0_placeOn_2 : decode cX0_placeOn 2 = .ok (.iload_n 3, 1) := by decide +kernel
theorem dX0_placeOn_3 : decode cX0_placeOn 3 = .ok (.aload_n 0, 1) := by decide +kernel
theorem dX0_placeOn_4 : decode cX0_placeOn 4 = .ok (.getfield 23, 3) := by decide +kernel
theorem dX0_placeOn_7 : decode cX0_placeOn 7 = .ok (.iload_n 1, 1) := by decide +kernel
theorem dX0_placeOn_8 : decode cX0_placeOn 8 = .ok (.iaload, 1) := by decide +kernel
theorem dX0_placeOn_9 : decode cX0_placeOn 9 = .ok (.if_icmp .ge 23, 3) := by decide +kernel
theorem dX0_placeOn_12 : decode cX0_placeOn 12 = .ok (.aload_n 0, 1) := by decide +kernel
theorem dX0_placeOn_13 : decode cX0_placeOn 13 = .ok (.getfield 26, 3) := by decide +kernel
theorem dX0_placeOn_16 : decode cX0_placeOn 16 = .ok (.iload_n 1, 1) := by decide +kernel
theorem dX0_placeOn_17 : decode cX0_placeOn 17 = .ok (.aaload, 1) := by decide +kernel
theorem dX0_placeOn_18 : decode cX0_placeOn 18 = .ok (.iload_n 3, 1) := by decide +kernel
theorem dX0_placeOn_19 : decode cX0_placeOn 19 = .ok (.iaload, 1) := by decide +kernel
theorem dX0_placeOn_20 : decode cX0_placeOn 20 = .ok (.iload_n 2, 1) := by decide +kernel
theorem dX0_placeOn_21 : decode cX0_placeOn 21 = .ok (.if_icmp .ne 5, 3) := by decide +kernel
theorem dX0_placeOn_24 : decode cX0_placeOn 24 = .ok (.iload_n 3, 1) := by decide +kernel
theorem dX0_placeOn_25 : decode cX0_placeOn 25 = .ok (.ireturn, 1) := by decide +kernel
theorem dX0_placeOn_26 : decode cX0_placeOn 26 = .ok (.iinc 3 1, 3) := by decide +kernel
theorem dX0_placeOn_29 : decode cX0_placeOn 29 = .ok (.goto (-27), 3) := by decide +kernel
theorem dX0_placeOn_32 : decode cX0_placeOn 32 = .ok (.iconst (-1), 1) := by decide +kernel
theorem dX0_placeOn_33 : decode cX0_placeOn 33 = .ok (.ireturn, 1) := by decide +kernel
theorem dX0_comesAt_0 : decode cX0_comesAt 0 = .ok (.aload_n 0, 1) := by decide +kernel
theorem dX0_comesAt_1 : decode cX0_comesAt 1 = .ok (.getfield 36, 3) := by decide +kernel
theorem dX0_comesAt_4 : decode cX0_comesAt 4 = .ok (.iload_n 1, 1) := by decide +kernel
theorem dX0_comesAt_5 : decode cX0_comesAt 5 = .ok (.iconst 5, 1) := by decide +kernel
theorem dX0_comesAt_6 : decode cX0_comesAt 6 = .ok (.imul, 1) := by decide +kernel
theorem dX0_comesAt_7 : decode cX0_comesAt 7 = .ok (.iload_n 2, 1) := by decide +kernel
theorem dX0_comesAt_8 : decode cX0_comesAt 8 = .ok (.iadd, 1) := by decide +kernel
theorem dX0_comesAt_9 : decode cX0_comesAt 9 = .ok (.aaload, 1) := by decide +kernel
theorem dX0_comesAt_10 : decode cX0_comesAt 10 = .ok (.areturn, 1) := by decide +kernel
theorem dX0_goesOnFrom_0 : decode cX0_goesOnFrom 0 = .ok (.aload_n 0, 1) := by decide +kernel
theorem dX0_goesOnFrom_1 : decode cX0_goesOnFrom 1 = .ok (.getfield 36, 3) := by decide +kernel
theorem dX0_goesOnFrom_4 : decode cX0_goesOnFrom 4 = .ok (.iload_n 1, 1) := by decide +kernel
theorem dX0_goesOnFrom_5 : decode cX0_goesOnFrom 5 = .ok (.iconst 5, 1) := by decide +kernel
theorem dX0_goesOnFrom_6 : decode cX0_goesOnFrom 6 = .ok (.imul, 1) := by decide +kernel
theorem dX0_goesOnFrom_7 : decode cX0_goesOnFrom 7 = .ok (.iload_n 2, 1) := by decide +kernel
theorem dX0_goesOnFrom_8 : decode cX0_goesOnFrom 8 = .ok (.iadd, 1) := by decide +kernel
theorem dX0_goesOnFrom_9 : decode cX0_goesOnFrom 9 = .ok (.iconst 1, 1) := by decide +kernel
theorem dX0_goesOnFrom_10 : decode cX0_goesOnFrom 10 = .ok (.iadd, 1) := by decide +kernel
theorem dX0_goesOnFrom_11 : decode cX0_goesOnFrom 11 = .ok (.aaload, 1) := by decide +kernel
theorem dX0_goesOnFrom_12 : decode cX0_goesOnFrom 12 = .ok (.areturn, 1) := by decide +kernel
theorem dX0_hasAt_0 : decode cX0_hasAt 0 = .ok (.aload_n 0, 1) := by decide +kernel
theorem dX0_hasAt_1 : decode cX0_hasAt 1 = .ok (.getfield 39, 3) := by decide +kernel
theorem dX0_hasAt_4 : decode cX0_hasAt 4 = .ok (.iload_n 1, 1) := by decide +kernel
theorem dX0_hasAt_5 : decode cX0_hasAt 5 = .ok (.iconst 4, 1) := by decide +kernel
theorem dX0_hasAt_6 : decode cX0_hasAt 6 = .ok (.imul, 1) := by decide +kernel
theorem dX0_hasAt_7 : decode cX0_hasAt 7 = .ok (.iload_n 2, 1) := by decide +kernel
theorem dX0_hasAt_8 : decode cX0_hasAt 8 = .ok (.iadd, 1) := by decide +kernel
theorem dX0_hasAt_9 : decode cX0_hasAt 9 = .ok (.aaload, 1) := by decide +kernel
theorem dX0_hasAt_10 : decode cX0_hasAt 10 = .ok (.areturn, 1) := by decide +kernel
theorem dX0_latestAt_0 : decode cX0_latestAt 0 = .ok (.aload_n 0, 1) := by decide +kernel
theorem dX0_latestAt_1 : decode cX0_latestAt 1 = .ok (.getfield 42, 3) := by decide +kernel
theorem dX0_latestAt_4 : decode cX0_latestAt 4 = .ok (.iload_n 1, 1) := by decide +kernel
theorem dX0_latestAt_5 : decode cX0_latestAt 5 = .ok (.iconst 4, 1) := by decide +kernel
theorem dX0_latestAt_6 : decode cX0_latestAt 6 = .ok (.imul, 1) := by decide +kernel
theorem dX0_latestAt_7 : decode cX0_latestAt 7 = .ok (.iload_n 2, 1) := by decide +kernel
theorem dX0_latestAt_8 : decode cX0_latestAt 8 = .ok (.iadd, 1) := by decide +kernel
theorem dX0_latestAt_9 : decode cX0_latestAt 9 = .ok (.iaload, 1) := by decide +kernel
theorem dX0_latestAt_10 : decode cX0_latestAt 10 = .ok (.ireturn, 1) := by decide +kernel
theorem dX0_greatestHeapIn_0 : decode cX0_greatestHeapIn 0 = .ok (.aload_n 0, 1) := by decide +kernel
theorem dX0_greatestHeapIn_1 : decode cX0_greatestHeapIn 1 = .ok (.iload_n 1, 1) := by decide +kernel
theorem dX0_greatestHeapIn_2 : decode cX0_greatestHeapIn 2 = .ok (.aload_n 0, 1) := by decide +kernel
theorem dX0_greatestHeapIn_3 : decode cX0_greatestHeapIn 3 = .ok (.getfield 29, 3) := by decide +kernel
theorem dX0_greatestHeapIn_6 : decode cX0_greatestHeapIn 6 = .ok (.bipush (-9), 2) := by decide +kernel
theorem dX0_greatestHeapIn_8 : decode cX0_greatestHeapIn 8 = .ok (.invokevirtual 112, 3) := by decide +kernel
theorem dX0_greatestHeapIn_11 : decode cX0_greatestHeapIn 11 = .ok (.aload_n 0, 1) := by decide +kernel
theorem dX0_greatestHeapIn_12 : decode cX0_greatestHeapIn 12 = .ok (.getfield 51, 3) := by decide +kernel
theorem dX0_greatestHeapIn_15 : decode cX0_greatestHeapIn 15 = .ok (.aload_n 0, 1) := by decide +kernel
theorem dX0_greatestHeapIn_16 : decode cX0_greatestHeapIn 16 = .ok (.getfield 17, 3) := by decide +kernel
theorem dX0_greatestHeapIn_19 : decode cX0_greatestHeapIn 19 = .ok (.iload_n 1, 1) := by decide +kernel
theorem dX0_greatestHeapIn_20 : decode cX0_greatestHeapIn 20 = .ok (.aaload, 1) := by decide +kernel
theorem dX0_greatestHeapIn_21 : decode cX0_greatestHeapIn 21 = .ok (.invokestatic 140, 3) := by decide +kernel
theorem dX0_greatestHeapIn_24 : decode cX0_greatestHeapIn 24 = .ok (.ireturn, 1) := by decide +kernel
theorem dX0_waitByNodes_0 : decode cX0_waitByNodes 0 = .ok (.iconst 0, 1) := by decide +kernel
theorem dX0_waitByNodes_1 : decode cX0_waitByNodes 1 = .ok (.istore_n 2, 1) := by decide +kernel
theorem dX0_waitByNodes_2 : decode cX0_waitByNodes 2 = .ok (.iconst 0, 1) := by decide +kernel
theorem dX0_waitByNodes_3 : decode cX0_waitByNodes 3 = .ok (.istore_n 3, 1) := by decide +kernel
theorem dX0_waitByNodes_4 : decode cX0_waitByNodes 4 = .ok (.iload_n 3, 1) := by decide +kernel
theorem dX0_waitByNodes_5 : decode cX0_waitByNodes 5 = .ok (.aload_n 0, 1) := by decide +kernel
theorem dX0_waitByNodes_6 : decode cX0_waitByNodes 6 = .ok (.getfield 23, 3) := by decide +kernel
theorem dX0_waitByNodes_9 : decode cX0_waitByNodes 9 = .ok (.iload_n 1, 1) := by decide +kernel
theorem dX0_waitByNodes_10 : decode cX0_waitByNodes 10 = .ok (.iaload, 1) := by decide +kernel
theorem dX0_waitByNodes_11 : decode cX0_waitByNodes 11 = .ok (.if_icmp .ge 18, 3) := by decide +kernel
theorem dX0_waitByNodes_14 : decode cX0_waitByNodes 14 = .ok (.iload_n 2, 1) := by decide +kernel
theorem dX0_waitByNodes_15 : decode cX0_waitByNodes 15 = .ok (.aload_n 0, 1) := by decide +kernel
theorem dX0_waitByNodes_16 : decode cX0_waitByNodes 16 = .ok (.iload_n 1, 1) := by decide +kernel
theorem dX0_waitByNodes_17 : decode cX0_waitByNodes 17 = .ok (.iload_n 3, 1) := by decide +kernel
theorem dX0_waitByNodes_18 : decode cX0_waitByNodes 18 = .ok (.invokevirtual 144, 3) := by decide +kernel
theorem dX0_waitByNodes_21 : decode cX0_waitByNodes 21 = .ok (.iadd, 1) := by decide +kernel
theorem dX0_waitByNodes_22 : decode cX0_waitByNodes 22 = .ok (.istore_n 2, 1) := by decide +kernel
theorem dX0_waitByNodes_23 : decode cX0_waitByNodes 23 = .ok (.iinc 3 1, 3) := by decide +kernel
theorem dX0_waitByNodes_26 : decode cX0_waitByNodes 26 = .ok (.goto (-22), 3) := by decide +kernel
theorem dX0_waitByNodes_29 : decode cX0_waitByNodes 29 = .ok (.iload_n 2, 1) := by decide +kernel
theorem dX0_waitByNodes_30 : decode cX0_waitByNodes 30 = .ok (.ireturn, 1) := by decide +kernel
theorem dX0_waitAtOnce_0 : decode cX0_waitAtOnce 0 = .ok (.aload_n 0, 1) := by decide +kernel
theorem dX0_waitAtOnce_1 : decode cX0_waitAtOnce 1 = .ok (.iload_n 1, 1) := by decide +kernel
theorem dX0_waitAtOnce_2 : decode cX0_waitAtOnce 2 = .ok (.iconst 0, 1) := by decide +kernel
theorem dX0_waitAtOnce_3 : decode cX0_waitAtOnce 3 = .ok (.invokevirtual 116, 3) := by decide +kernel
theorem dX0_waitAtOnce_6 : decode cX0_waitAtOnce 6 = .ok (.aload_n 0, 1) := by decide +kernel
theorem dX0_waitAtOnce_7 : decode cX0_waitAtOnce 7 = .ok (.getfield 54, 3) := by decide +kernel
theorem dX0_waitAtOnce_10 : decode cX0_waitAtOnce 10 = .ok (.invokestatic 70, 3) := by decide +kernel
theorem dX0_waitAtOnce_13 : decode cX0_waitAtOnce 13 = .ok (.iconst 1, 1) := by decide +kernel
theorem dX0_waitAtOnce_14 : decode cX0_waitAtOnce 14 = .ok (.istore_n 2, 1) := by decide +kernel
theorem dX0_waitAtOnce_15 : decode cX0_waitAtOnce 15 = .ok (.iload_n 2, 1) := by decide +kernel
theorem dX0_waitAtOnce_16 : decode cX0_waitAtOnce 16 = .ok (.aload_n 0, 1) := by decide +kernel
theorem dX0_waitAtOnce_17 : decode cX0_waitAtOnce 17 = .ok (.getfield 23, 3) := by decide +kernel
theorem dX0_waitAtOnce_20 : decode cX0_waitAtOnce 20 = .ok (.iload_n 1, 1) := by decide +kernel
theorem dX0_waitAtOnce_21 : decode cX0_waitAtOnce 21 = .ok (.iaload, 1) := by decide +kernel
theorem dX0_waitAtOnce_22 : decode cX0_waitAtOnce 22 = .ok (.if_icmp .ge 37, 3) := by decide +kernel
theorem dX0_waitAtOnce_25 : decode cX0_waitAtOnce 25 = .ok (.aload_n 0, 1) := by decide +kernel
theorem dX0_waitAtOnce_26 : decode cX0_waitAtOnce 26 = .ok (.getfield 54, 3) := by decide +kernel
theorem dX0_waitAtOnce_29 : decode cX0_waitAtOnce 29 = .ok (.aload_n 0, 1) := by decide +kernel
theorem dX0_waitAtOnce_30 : decode cX0_waitAtOnce 30 = .ok (.iload_n 1, 1) := by decide +kernel
theorem dX0_waitAtOnce_31 : decode cX0_waitAtOnce 31 = .ok (.iload_n 2, 1) := by decide +kernel
theorem dX0_waitAtOnce_32 : decode cX0_waitAtOnce 32 = .ok (.invokevirtual 116, 3) := by decide +kernel
theorem dX0_waitAtOnce_35 : decode cX0_waitAtOnce 35 = .ok (.aload_n 0, 1) := by decide +kernel
theorem dX0_waitAtOnce_36 : decode cX0_waitAtOnce 36 = .ok (.getfield 51, 3) := by decide +kernel
theorem dX0_waitAtOnce_39 : decode cX0_waitAtOnce 39 = .ok (.invokestatic 147, 3) := by decide +kernel
theorem dX0_waitAtOnce_42 : decode cX0_waitAtOnce 42 = .ok (.aload_n 0, 1) := by decide +kernel
theorem dX0_waitAtOnce_43 : decode cX0_waitAtOnce 43 = .ok (.getfield 51, 3) := by decide +kernel
theorem dX0_waitAtOnce_46 : decode cX0_waitAtOnce 46 = .ok (.aload_n 0, 1) := by decide +kernel
theorem dX0_waitAtOnce_47 : decode cX0_waitAtOnce 47 = .ok (.getfield 54, 3) := by decide +kernel
theorem dX0_waitAtOnce_50 : decode cX0_waitAtOnce 50 = .ok (.invokestatic 70, 3) := by decide +kernel
theorem dX0_waitAtOnce_53 : decode cX0_waitAtOnce 53 = .ok (.iinc 2 1, 3) := by decide +kernel
theorem dX0_waitAtOnce_56 : decode cX0_waitAtOnce 56 = .ok (.goto (-41), 3) := by decide +kernel
theorem dX0_waitAtOnce_59 : decode cX0_waitAtOnce 59 = .ok (.aload_n 0, 1) := by decide +kernel
theorem dX0_waitAtOnce_60 : decode cX0_waitAtOnce 60 = .ok (.iload_n 1, 1) := by decide +kernel
theorem dX0_waitAtOnce_61 : decode cX0_waitAtOnce 61 = .ok (.iconst 0, 1) := by decide +kernel
theorem dX0_waitAtOnce_62 : decode cX0_waitAtOnce 62 = .ok (.invokevirtual 82, 3) := by decide +kernel
theorem dX0_waitAtOnce_65 : decode cX0_waitAtOnce 65 = .ok (.aload_n 0, 1) := by decide +kernel
theorem dX0_waitAtOnce_66 : decode cX0_waitAtOnce 66 = .ok (.getfield 54, 3) := by decide +kernel
theorem dX0_waitAtOnce_69 : decode cX0_waitAtOnce 69 = .ok (.bipush 20, 2) := by decide +kernel
theorem dX0_waitAtOnce_71 : decode cX0_waitAtOnce 71 = .ok (.invokestatic 119, 3) := by decide +kernel
theorem dX0_waitAtOnce_74 : decode cX0_waitAtOnce 74 = .ok (.ireturn, 1) := by decide +kernel
theorem dX1_fillSteps_0 : decode cX1_fillSteps 0 = .ok (.aload_n 2, 1) := by decide +kernel
theorem dX1_fillSteps_1 : decode cX1_fillSteps 1 = .ok (.iconst 0, 1) := by decide +kernel
theorem dX1_fillSteps_2 : decode cX1_fillSteps 2 = .ok (.iconst 0, 1) := by decide +kernel
theorem dX1_fillSteps_3 : decode cX1_fillSteps 3 = .ok (.iastore, 1) := by decide +kernel
theorem dX1_fillSteps_4 : decode cX1_fillSteps 4 = .ok (.iconst 1, 1) := by decide +kernel
theorem dX1_fillSteps_5 : decode cX1_fillSteps 5 = .ok (.istore_n 3, 1) := by decide +kernel
theorem dX1_fillSteps_6 : decode cX1_fillSteps 6 = .ok (.iload_n 3, 1) := by decide +kernel
theorem dX1_fillSteps_7 : decode cX1_fillSteps 7 = .ok (.bipush 40, 2) := by decide +kernel
theorem dX1_fillSteps_9 : decode cX1_fillSteps 9 = .ok (.if_icmp .gt 32, 3) := by decide +kernel
theorem dX1_fillSteps_12 : decode cX1_fillSteps 12 = .ok (.aload_n 2, 1) := by decide +kernel
theorem dX1_fillSteps_13 : decode cX1_fillSteps 13 = .ok (.iload_n 3, 1) := by decide +kernel
theorem dX1_fillSteps_14 : decode cX1_fillSteps 14 = .ok (.aload_n 2, 1) := by decide +kernel
theorem dX1_fillSteps_15 : decode cX1_fillSteps 15 = .ok (.iload_n 3, 1) := by decide +kernel
theorem dX1_fillSteps_16 : decode cX1_fillSteps 16 = .ok (.iconst 1, 1) := by decide +kernel
theorem dX1_fillSteps_17 : decode cX1_fillSteps 17 = .ok (.isub, 1) := by decide +kernel
theorem dX1_fillSteps_18 : decode cX1_fillSteps 18 = .ok (.iaload, 1) := by decide +kernel
theorem dX1_fillSteps_19 : decode cX1_fillSteps 19 = .ok (.aload_n 0, 1) := by decide +kernel
theorem dX1_fillSteps_20 : decode cX1_fillSteps 20 = .ok (.iload_n 3, 1) := by decide +kernel
theorem dX1_fillSteps_21 : decode cX1_fillSteps 21 = .ok (.iload_n 1, 1) := by decide +kernel
theorem dX1_fillSteps_22 : decode cX1_fillSteps 22 = .ok (.invokestatic 9, 3) := by decide +kernel
theorem dX1_fillSteps_25 : decode cX1_fillSteps 25 = .ok (.iconst 1, 1) := by decide +kernel
theorem dX1_fillSteps_26 : decode cX1_fillSteps 26 = .ok (.isub, 1) := by decide +kernel
theorem dX1_fillSteps_27 : decode cX1_fillSteps 27 = .ok (.iaload, 1) := by decide +kernel
theorem dX1_fillSteps_28 : decode cX1_fillSteps 28 = .ok (.iadd, 1) := by decide +kernel
theorem dX1_fillSteps_29 : decode cX1_fillSteps 29 = .ok (.ldc 15, 2) := by decide +kernel
theorem dX1_fillSteps_31 : decode cX1_fillSteps 31 = .ok (.invokestatic 9, 3) := by decide +kernel
theorem dX1_fillSteps_34 : decode cX1_fillSteps 34 = .ok (.iastore, 1) := by decide +kernel
theorem dX1_fillSteps_35 : decode cX1_fillSteps 35 = .ok (.iinc 3 1, 3) := by decide +kernel
theorem dX1_fillSteps_38 : decode cX1_fillSteps 38 = .ok (.goto (-32), 3) := by decide +kernel
theorem dX1_fillSteps_41 : decode cX1_fillSteps 41 = .ok (.return_, 1) := by decide +kernel
theorem dX1_fillBucket_0 : decode cX1_fillBucket 0 = .ok (.aload_n 2, 1) := by decide +kernel
theorem dX1_fillBucket_1 : decode cX1_fillBucket 1 = .ok (.iconst 0, 1) := by decide +kernel
theorem dX1_fillBucket_2 : decode cX1_fillBucket 2 = .ok (.iconst 0, 1) := by decide +kernel
theorem dX1_fillBucket_3 : decode cX1_fillBucket 3 = .ok (.iastore, 1) := by decide +kernel
theorem dX1_fillBucket_4 : decode cX1_fillBucket 4 = .ok (.iconst 1, 1) := by decide +kernel
theorem dX1_fillBucket_5 : decode cX1_fillBucket 5 = .ok (.istore_n 3, 1) := by decide +kernel
theorem dX1_fillBucket_6 : decode cX1_fillBucket 6 = .ok (.iload_n 3, 1) := by decide +kernel
theorem dX1_fillBucket_7 : decode cX1_fillBucket 7 = .ok (.bipush 40, 2) := by decide +kernel
theorem dX1_fillBucket_9 : decode cX1_fillBucket 9 = .ok (.if_icmp .gt 22, 3) := by decide +kernel
theorem dX1_fillBucket_12 : decode cX1_fillBucket 12 = .ok (.aload_n 2, 1) := by decide +kernel
theorem dX1_fillBucket_13 : decode cX1_fillBucket 13 = .ok (.iload_n 3, 1) := by decide +kernel
theorem dX1_fillBucket_14 : decode cX1_fillBucket 14 = .ok (.iload_n 0, 1) := by decide +kernel
theorem dX1_fillBucket_15 : decode cX1_fillBucket 15 = .ok (.iload_n 1, 1) := by decide +kernel
theorem dX1_fillBucket_16 : decode cX1_fillBucket 16 = .ok (.iload_n 3, 1) := by decide +kernel
theorem dX1_fillBucket_17 : decode cX1_fillBucket 17 = .ok (.imul, 1) := by decide +kernel
theorem dX1_fillBucket_18 : decode cX1_fillBucket 18 = .ok (.iadd, 1) := by decide +kernel
theorem dX1_fillBucket_19 : decode cX1_fillBucket 19 = .ok (.ldc 15, 2) := by decide +kernel
theorem dX1_fillBucket_21 : decode cX1_fillBucket 21 = .ok (.invokestatic 9, 3) := by decide +kernel
theorem dX1_fillBucket_24 : decode cX1_fillBucket 24 = .ok (.iastore, 1) := by decide +kernel
theorem dX1_fillBucket_25 : decode cX1_fillBucket 25 = .ok (.iinc 3 1, 3) := by decide +kernel
theorem dX1_fillBucket_28 : decode cX1_fillBucket 28 = .ok (.goto (-22), 3) := by decide +kernel
theorem dX1_fillBucket_31 : decode cX1_fillBucket 31 = .ok (.return_, 1) := by decide +kernel
theorem dX1_fillLate_0 : decode cX1_fillLate 0 = .ok (.iconst 0, 1) := by decide +kernel
theorem dX1_fillLate_1 : decode cX1_fillLate 1 = .ok (.istore_n 3, 1) := by decide +kernel
theorem dX1_fillLate_2 : decode cX1_fillLate 2 = .ok (.iload_n 3, 1) := by decide +kernel
theorem dX1_fillLate_3 : decode cX1_fillLate 3 = .ok (.bipush 40, 2) := by decide +kernel
theorem dX1_fillLate_5 : decode cX1_fillLate 5 = .ok (.if_icmp .gt 26, 3) := by decide +kernel
theorem dX1_fillLate_8 : decode cX1_fillLate 8 = .ok (.aload_n 2, 1) := by decide +kernel
theorem dX1_fillLate_9 : decode cX1_fillLate 9 = .ok (.iload_n 3, 1) := by decide +kernel
theorem dX1_fillLate_10 : decode cX1_fillLate 10 = .ok (.iload_n 3, 1) := by decide +kernel
theorem dX1_fillLate_11 : decode cX1_fillLate 11 = .ok (.iload_n 0, 1) := by decide +kernel
theorem dX1_fillLate_12 : decode cX1_fillLate 12 = .ok (.if_icmp .gt 7, 3) := by decide +kernel
theorem dX1_fillLate_15 : decode cX1_fillLate 15 = .ok (.iconst 0, 1) := by decide +kernel
theorem dX1_fillLate_16 : decode cX1_fillLate 16 = .ok (.goto 8, 3) := by decide +kernel
theorem dX1_fillLate_19 : decode cX1_fillLate 19 = .ok (.iload_n 1, 1) := by decide +kernel
theorem dX1_fillLate_20 : decode cX1_fillLate 20 = .ok (.iload_n 3, 1) := by decide +kernel
theorem dX1_fillLate_21 : decode cX1_fillLate 21 = .ok (.iload_n 0, 1) := by decide +kernel
theorem dX1_fillLate_22 : decode cX1_fillLate 22 = .ok (.isub, 1) := by decide +kernel
theorem dX1_fillLate_23 : decode cX1_fillLate 23 = .ok (.imul, 1) := by decide +kernel
theorem dX1_fillLate_24 : decode cX1_fillLate 24 = .ok (.iastore, 1) := by decide +kernel
theorem dX1_fillLate_25 : decode cX1_fillLate 25 = .ok (.iinc 3 1, 3) := by decide +kernel
theorem dX1_fillLate_28 : decode cX1_fillLate 28 = .ok (.goto (-26), 3) := by decide +kernel
theorem dX1_fillLate_31 : decode cX1_fillLate 31 = .ok (.return_, 1) := by decide +kernel
theorem dX1_fillSame_0 : decode cX1_fillSame 0 = .ok (.aload_n 0, 1) := by decide +kernel
theorem dX1_fillSame_1 : decode cX1_fillSame 1 = .ok (.iconst 0, 1) := by decide +kernel
theorem dX1_fillSame_2 : decode cX1_fillSame 2 = .ok (.aload_n 1, 1) := by decide +kernel
theorem dX1_fillSame_3 : decode cX1_fillSame 3 = .ok (.iconst 0, 1) := by decide +kernel
theorem dX1_fillSame_4 : decode cX1_fillSame 4 = .ok (.bipush 41, 2) := by decide +kernel
theorem dX1_fillSame_6 : decode cX1_fillSame 6 = .ok (.invokestatic 16, 3) := by decide +kernel
theorem dX1_fillSame_9 : decode cX1_fillSame 9 = .ok (.return_, 1) := by decide +kernel
theorem dX1_fillMade_0 : decode cX1_fillMade 0 = .ok (.iload_n 0, 1) := by decide +kernel
theorem dX1_fillMade_1 : decode cX1_fillMade 1 = .ok (.tableswitch 67 0 3 #[31, 40, 49, 58], 31) := by decide +kernel
theorem dX1_fillMade_32 : decode cX1_fillMade 32 = .ok (.aload_n 1, 1) := by decide +kernel
theorem dX1_fillMade_33 : decode cX1_fillMade 33 = .ok (.aload_n 2, 1) := by decide +kernel
theorem dX1_fillMade_34 : decode cX1_fillMade 34 = .ok (.aload_n 3, 1) := by decide +kernel
theorem dX1_fillMade_35 : decode cX1_fillMade 35 = .ok (.invokestatic 22, 3) := by decide +kernel
theorem dX1_fillMade_38 : decode cX1_fillMade 38 = .ok (.goto 36, 3) := by decide +kernel
theorem dX1_fillMade_41 : decode cX1_fillMade 41 = .ok (.aload_n 1, 1) := by decide +kernel
theorem dX1_fillMade_42 : decode cX1_fillMade 42 = .ok (.aload_n 2, 1) := by decide +kernel
theorem dX1_fillMade_43 : decode cX1_fillMade 43 = .ok (.aload_n 3, 1) := by decide +kernel
theorem dX1_fillMade_44 : decode cX1_fillMade 44 = .ok (.invokestatic 28, 3) := by decide +kernel
theorem dX1_fillMade_47 : decode cX1_fillMade 47 = .ok (.goto 27, 3) := by decide +kernel
theorem dX1_fillMade_50 : decode cX1_fillMade 50 = .ok (.aload_n 1, 1) := by decide +kernel
theorem dX1_fillMade_51 : decode cX1_fillMade 51 = .ok (.aload_n 2, 1) := by decide +kernel
theorem dX1_fillMade_52 : decode cX1_fillMade 52 = .ok (.aload_n 3, 1) := by decide +kernel
theorem dX1_fillMade_53 : decode cX1_fillMade 53 = .ok (.invokestatic 31, 3) := by decide +kernel
theorem dX1_fillMade_56 : decode cX1_fillMade 56 = .ok (.goto 18, 3) := by decide +kernel
theorem dX1_fillMade_59 : decode cX1_fillMade 59 = .ok (.aload_n 1, 1) := by decide +kernel
theorem dX1_fillMade_60 : decode cX1_fillMade 60 = .ok (.aload_n 2, 1) := by decide +kernel
theorem dX1_fillMade_61 : decode cX1_fillMade 61 = .ok (.aload_n 3, 1) := by decide +kernel
theorem dX1_fillMade_62 : decode cX1_fillMade 62 = .ok (.invokestatic 34, 3) := by decide +kernel
theorem dX1_fillMade_65 : decode cX1_fillMade 65 = .ok (.goto 9, 3) := by decide +kernel
theorem dX1_fillMade_68 : decode cX1_fillMade 68 = .ok (.aload_n 1, 1) := by decide +kernel
theorem dX1_fillMade_69 : decode cX1_fillMade 69 = .ok (.aload_n 2, 1) := by decide +kernel
theorem dX1_fillMade_70 : decode cX1_fillMade 70 = .ok (.aload_n 3, 1) := by decide +kernel
theorem dX1_fillMade_71 : decode cX1_fillMade 71 = .ok (.invokestatic 37, 3) := by decide +kernel
theorem dX1_fillMade_74 : decode cX1_fillMade 74 = .ok (.return_, 1) := by decide +kernel
theorem dX1_fillLeast_0 : decode cX1_fillLeast 0 = .ok (.iconst 0, 1) := by decide +kernel
theorem dX1_fillLeast_1 : decode cX1_fillLeast 1 = .ok (.istore_n 3, 1) := by decide +kernel
theorem dX1_fillLeast_2 : decode cX1_fillLeast 2 = .ok (.iload_n 3, 1) := by decide +kernel
theorem dX1_fillLeast_3 : decode cX1_fillLeast 3 = .ok (.bipush 40, 2) := by decide +kernel
theorem dX1_fillLeast_5 : decode cX1_fillLeast 5 = .ok (.if_icmp .gt 21, 3) := by decide +kernel
theorem dX1_fillLeast_8 : decode cX1_fillLeast 8 = .ok (.aload_n 2, 1) := by decide +kernel
theorem dX1_fillLeast_9 : decode cX1_fillLeast 9 = .ok (.iload_n 3, 1) := by decide +kernel
theorem dX1_fillLeast_10 : decode cX1_fillLeast 10 = .ok (.aload_n 0, 1) := by decide +kernel
theorem dX1_fillLeast_11 : decode cX1_fillLeast 11 = .ok (.iload_n 3, 1) := by decide +kernel
theorem dX1_fillLeast_12 : decode cX1_fillLeast 12 = .ok (.iaload, 1) := by decide +kernel
theorem dX1_fillLeast_13 : decode cX1_fillLeast 13 = .ok (.aload_n 1, 1) := by decide +kernel
theorem dX1_fillLeast_14 : decode cX1_fillLeast 14 = .ok (.iload_n 3, 1) := by decide +kernel
theorem dX1_fillLeast_15 : decode cX1_fillLeast 15 = .ok (.iaload, 1) := by decide +kernel
theorem dX1_fillLeast_16 : decode cX1_fillLeast 16 = .ok (.invokestatic 9, 3) := by decide +kernel
theorem dX1_fillLeast_19 : decode cX1_fillLeast 19 = .ok (.iastore, 1) := by decide +kernel
theorem dX1_fillLeast_20 : decode cX1_fillLeast 20 = .ok (.iinc 3 1, 3) := by decide +kernel
theorem dX1_fillLeast_23 : decode cX1_fillLeast 23 = .ok (.goto (-21), 3) := by decide +kernel
theorem dX1_fillLeast_26 : decode cX1_fillLeast 26 = .ok (.return_, 1) := by decide +kernel
theorem dX1_fillSum_0 : decode cX1_fillSum 0 = .ok (.iconst 0, 1) := by decide +kernel
theorem dX1_fillSum_1 : decode cX1_fillSum 1 = .ok (.istore_n 3, 1) := by decide +kernel
theorem dX1_fillSum_2 : decode cX1_fillSum 2 = .ok (.iload_n 3, 1) := by decide +kernel
theorem dX1_fillSum_3 : decode cX1_fillSum 3 = .ok (.bipush 40, 2) := by decide +kernel
theorem dX1_fillSum_5 : decode cX1_fillSum 5 = .ok (.if_icmp .gt 24, 3) := by decide +kernel
theorem dX1_fillSum_8 : decode cX1_fillSum 8 = .ok (.aload_n 2, 1) := by decide +kernel
theorem dX1_fillSum_9 : decode cX1_fillSum 9 = .ok (.iload_n 3, 1) := by decide +kernel
theorem dX1_fillSum_10 : decode cX1_fillSum 10 = .ok (.aload_n 0, 1) := by decide +kernel
theorem dX1_fillSum_11 : decode cX1_fillSum 11 = .ok (.iload_n 3, 1) := by decide +kernel
theorem dX1_fillSum_12 : decode cX1_fillSum 12 = .ok (.iaload, 1) := by decide +kernel
theorem dX1_fillSum_13 : decode cX1_fillSum 13 = .ok (.aload_n 1, 1) := by decide +kernel
theorem dX1_fillSum_14 : decode cX1_fillSum 14 = .ok (.iload_n 3, 1) := by decide +kernel
theorem dX1_fillSum_15 : decode cX1_fillSum 15 = .ok (.iaload, 1) := by decide +kernel
theorem dX1_fillSum_16 : decode cX1_fillSum 16 = .ok (.iadd, 1) := by decide +kernel
theorem dX1_fillSum_17 : decode cX1_fillSum 17 = .ok (.ldc 15, 2) := by decide +kernel
theorem dX1_fillSum_19 : decode cX1_fillSum 19 = .ok (.invokestatic 9, 3) := by decide +kernel
theorem dX1_fillSum_22 : decode cX1_fillSum 22 = .ok (.iastore, 1) := by decide +kernel
theorem dX1_fillSum_23 : decode cX1_fillSum 23 = .ok (.iinc 3 1, 3) := by decide +kernel
theorem dX1_fillSum_26 : decode cX1_fillSum 26 = .ok (.goto (-24), 3) := by decide +kernel
theorem dX1_fillSum_29 : decode cX1_fillSum 29 = .ok (.return_, 1) := by decide +kernel
theorem dX1_fillAlong_0 : decode cX1_fillAlong 0 = .ok (.iconst 0, 1) := by decide +kernel
theorem dX1_fillAlong_1 : decode cX1_fillAlong 1 = .ok (.istore_n 3, 1) := by decide +kernel
theorem dX1_fillAlong_2 : decode cX1_fillAlong 2 = .ok (.iload_n 3, 1) := by decide +kernel
theorem dX1_fillAlong_3 : decode cX1_fillAlong 3 = .ok (.bipush 40, 2) := by decide +kernel
theorem dX1_fillAlong_5 : decode cX1_fillAlong 5 = .ok (.if_icmp .gt 51, 3) := by decide +kernel
theorem dX1_fillAlong_8 : decode cX1_fillAlong 8 = .ok (.ldc 15, 2) := by decide +kernel
theorem dX1_fillAlong_10 : decode cX1_fillAlong 10 = .ok (.istore 4, 2) := by decide +kernel
theorem dX1_fillAlong_12 : decode cX1_fillAlong 12 = .ok (.iconst 0, 1) := by decide +kernel
theorem dX1_fillAlong_13 : decode cX1_fillAlong 13 = .ok (.istore 5, 2) := by decide +kernel
theorem dX1_fillAlong_15 : decode cX1_fillAlong 15 = .ok (.iload 5, 2) := by decide +kernel
theorem dX1_fillAlong_17 : decode cX1_fillAlong 17 = .ok (.iload_n 3, 1) := by decide +kernel
theorem dX1_fillAlong_18 : decode cX1_fillAlong 18 = .ok (.if_icmp .gt 27, 3) := by decide +kernel
theorem dX1_fillAlong_21 : decode cX1_fillAlong 21 = .ok (.iload 4, 2) := by decide +kernel
theorem dX1_fillAlong_23 : decode cX1_fillAlong 23 = .ok (.aload_n 0, 1) := by decide +kernel
theorem dX1_fillAlong_24 : decode cX1_fillAlong 24 = .ok (.iload 5, 2) := by decide +kernel
theorem dX1_fillAlong_26 : decode cX1_fillAlong 26 = .ok (.iaload, 1) := by decide +kernel
theorem dX1_fillAlong_27 : decode cX1_fillAlong 27 = .ok (.aload_n 1, 1) := by decide +kernel
theorem dX1_fillAlong_28 : decode cX1_fillAlong 28 = .ok (.iload_n 3, 1) := by decide +kernel
theorem dX1_fillAlong_29 : decode cX1_fillAlong 29 = .ok (.iload 5, 2) := by decide +kernel
theorem dX1_fillAlong_31 : decode cX1_fillAlong 31 = .ok (.isub, 1) := by decide +kernel
theorem dX1_fillAlong_32 : decode cX1_fillAlong 32 = .ok (.iaload, 1) := by decide +kernel
theorem dX1_fillAlong_33 : decode cX1_fillAlong 33 = .ok (.iadd, 1) := by decide +kernel
theorem dX1_fillAlong_34 : decode cX1_fillAlong 34 = .ok (.invokestatic 9, 3) := by decide +kernel
theorem dX1_fillAlong_37 : decode cX1_fillAlong 37 = .ok (.istore 4, 2) := by decide +kernel
theorem dX1_fillAlong_39 : decode cX1_fillAlong 39 = .ok (.iinc 5 1, 3) := by decide +kernel
theorem dX1_fillAlong_42 : decode cX1_fillAlong 42 = .ok (.goto (-27), 3) := by decide +kernel
theorem dX1_fillAlong_45 : decode cX1_fillAlong 45 = .ok (.aload_n 2, 1) := by decide +kernel
theorem dX1_fillAlong_46 : decode cX1_fillAlong 46 = .ok (.iload_n 3, 1) := by decide +kernel
theorem dX1_fillAlong_47 : decode cX1_fillAlong 47 = .ok (.iload 4, 2) := by decide +kernel
theorem dX1_fillAlong_49 : decode cX1_fillAlong 49 = .ok (.iastore, 1) := by decide +kernel
theorem dX1_fillAlong_50 : decode cX1_fillAlong 50 = .ok (.iinc 3 1, 3) := by decide +kernel
theorem dX1_fillAlong_53 : decode cX1_fillAlong 53 = .ok (.goto (-51), 3) := by decide +kernel
theorem dX1_fillAlong_56 : decode cX1_fillAlong 56 = .ok (.return_, 1) := by decide +kernel
theorem dX1_fillOut_0 : decode cX1_fillOut 0 = .ok (.aload_n 2, 1) := by decide +kernel
theorem dX1_fillOut_1 : decode cX1_fillOut 1 = .ok (.iconst 0, 1) := by decide +kernel
theorem dX1_fillOut_2 : decode cX1_fillOut 2 = .ok (.iconst 0, 1) := by decide +kernel
theorem dX1_fillOut_3 : decode cX1_fillOut 3 = .ok (.iastore, 1) := by decide +kernel
theorem dX1_fillOut_4 : decode cX1_fillOut 4 = .ok (.iconst 1, 1) := by decide +kernel
theorem dX1_fillOut_5 : decode cX1_fillOut 5 = .ok (.istore_n 3, 1) := by decide +kernel
theorem dX1_fillOut_6 : decode cX1_fillOut 6 = .ok (.iload_n 3, 1) := by decide +kernel
theorem dX1_fillOut_7 : decode cX1_fillOut 7 = .ok (.bipush 40, 2) := by decide +kernel
theorem dX1_fillOut_9 : decode cX1_fillOut 9 = .ok (.if_icmp .gt 57, 3) := by decide +kernel
theorem dX1_fillOut_12 : decode cX1_fillOut 12 = .ok (.aload_n 2, 1) := by decide +kernel
theorem dX1_fillOut_13 : decode cX1_fillOut 13 = .ok (.iload_n 3, 1) := by decide +kernel
theorem dX1_fillOut_14 : decode cX1_fillOut 14 = .ok (.iconst 1, 1) := by decide +kernel
theorem dX1_fillOut_15 : decode cX1_fillOut 15 = .ok (.isub, 1) := by decide +kernel
theorem dX1_fillOut_16 : decode cX1_fillOut 16 = .ok (.iaload, 1) := by decide +kernel
theorem dX1_fillOut_17 : decode cX1_fillOut 17 = .ok (.istore 4, 2) := by decide +kernel
theorem dX1_fillOut_19 : decode cX1_fillOut 19 = .ok (.iconst 0, 1) := by decide +kernel
theorem dX1_fillOut_20 : decode cX1_fillOut 20 = .ok (.istore 5, 2) := by decide +kernel
theorem dX1_fillOut_22 : decode cX1_fillOut 22 = .ok (.iload 5, 2) := by decide +kernel
theorem dX1_fillOut_24 : decode cX1_fillOut 24 = .ok (.bipush 40, 2) := by decide +kernel
theorem dX1_fillOut_26 : decode cX1_fillOut 26 = .ok (.iload_n 3, 1) := by decide +kernel
theorem dX1_fillOut_27 : decode cX1_fillOut 27 = .ok (.isub, 1) := by decide +kernel
theorem dX1_fillOut_28 : decode cX1_fillOut 28 = .ok (.if_icmp .gt 27, 3) := by decide +kernel
theorem dX1_fillOut_31 : decode cX1_fillOut 31 = .ok (.iload 4, 2) := by decide +kernel
theorem dX1_fillOut_33 : decode cX1_fillOut 33 = .ok (.aload_n 0, 1) := by decide +kernel
theorem dX1_fillOut_34 : decode cX1_fillOut 34 = .ok (.iload_n 3, 1) := by decide +kernel
theorem dX1_fillOut_35 : decode cX1_fillOut 35 = .ok (.iload 5, 2) := by decide +kernel
theorem dX1_fillOut_37 : decode cX1_fillOut 37 = .ok (.iadd, 1) := by decide +kernel
theorem dX1_fillOut_38 : decode cX1_fillOut 38 = .ok (.iaload, 1) := by decide +kernel
theorem dX1_fillOut_39 : decode cX1_fillOut 39 = .ok (.aload_n 1, 1) := by decide +kernel
theorem dX1_fillOut_40 : decode cX1_fillOut 40 = .ok (.iload 5, 2) := by decide +kernel
theorem dX1_fillOut_42 : decode cX1_fillOut 42 = .ok (.iaload, 1) := by decide +kernel
theorem dX1_fillOut_43 : decode cX1_fillOut 43 = .ok (.isub, 1) := by decide +kernel
theorem dX1_fillOut_44 : decode cX1_fillOut 44 = .ok (.invokestatic 40, 3) := by decide +kernel
theorem dX1_fillOut_47 : decode cX1_fillOut 47 = .ok (.istore 4, 2) := by decide +kernel
theorem dX1_fillOut_49 : decode cX1_fillOut 49 = .ok (.iinc 5 1, 3) := by decide +kernel
theorem dX1_fillOut_52 : decode cX1_fillOut 52 = .ok (.goto (-30), 3) := by decide +kernel
theorem dX1_fillOut_55 : decode cX1_fillOut 55 = .ok (.aload_n 2, 1) := by decide +kernel
theorem dX1_fillOut_56 : decode cX1_fillOut 56 = .ok (.iload_n 3, 1) := by decide +kernel
theorem dX1_fillOut_57 : decode cX1_fillOut 57 = .ok (.iload 4, 2) := by decide +kernel
theorem dX1_fillOut_59 : decode cX1_fillOut 59 = .ok (.iastore, 1) := by decide +kernel
theorem dX1_fillOut_60 : decode cX1_fillOut 60 = .ok (.iinc 3 1, 3) := by decide +kernel
theorem dX1_fillOut_63 : decode cX1_fillOut 63 = .ok (.goto (-57), 3) := by decide +kernel
theorem dX1_fillOut_66 : decode cX1_fillOut 66 = .ok (.return_, 1) := by decide +kernel
theorem dX1_fillLeft_0 : decode cX1_fillLeft 0 = .ok (.iconst 0, 1) := by decide +kernel
theorem dX1_fillLeft_1 : decode cX1_fillLeft 1 = .ok (.istore_n 3, 1) := by decide +kernel
theorem dX1_fillLeft_2 : decode cX1_fillLeft 2 = .ok (.iconst 0, 1) := by decide +kernel
theorem dX1_fillLeft_3 : decode cX1_fillLeft 3 = .ok (.istore 4, 2) := by decide +kernel
theorem dX1_fillLeft_5 : decode cX1_fillLeft 5 = .ok (.iload 4, 2) := by decide +kernel
theorem dX1_fillLeft_7 : decode cX1_fillLeft 7 = .ok (.bipush 40, 2) := by decide +kernel
theorem dX1_fillLeft_9 : decode cX1_fillLeft 9 = .ok (.if_icmp .gt 28, 3) := by decide +kernel
theorem dX1_fillLeft_12 : decode cX1_fillLeft 12 = .ok (.iload_n 3, 1) := by decide +kernel
theorem dX1_fillLeft_13 : decode cX1_fillLeft 13 = .ok (.aload_n 0, 1) := by decide +kernel
theorem dX1_fillLeft_14 : decode cX1_fillLeft 14 = .ok (.iload 4, 2) := by decide +kernel
theorem dX1_fillLeft_16 : decode cX1_fillLeft 16 = .ok (.iaload, 1) := by decide +kernel
theorem dX1_fillLeft_17 : decode cX1_fillLeft 17 = .ok (.aload_n 1, 1) := by decide +kernel
theorem dX1_fillLeft_18 : decode cX1_fillLeft 18 = .ok (.iload 4, 2) := by decide +kernel
theorem dX1_fillLeft_20 : decode cX1_fillLeft 20 = .ok (.iaload, 1) := by decide +kernel
theorem dX1_fillLeft_21 : decode cX1_fillLeft 21 = .ok (.isub, 1) := by decide +kernel
theorem dX1_fillLeft_22 : decode cX1_fillLeft 22 = .ok (.invokestatic 40, 3) := by decide +kernel
theorem dX1_fillLeft_25 : decode cX1_fillLeft 25 = .ok (.istore_n 3, 1) := by decide +kernel
theorem dX1_fillLeft_26 : decode cX1_fillLeft 26 = .ok (.aload_n 2, 1) := by decide +kernel
theorem dX1_fillLeft_27 : decode cX1_fillLeft 27 = .ok (.iload 4, 2) := by decide +kernel
theorem dX1_fillLeft_29 : decode cX1_fillLeft 29 = .ok (.iload_n 3, 1) := by decide +kernel
theorem dX1_fillLeft_30 : decode cX1_fillLeft 30 = .ok (.iastore, 1) := by decide +kernel
theorem dX1_fillLeft_31 : decode cX1_fillLeft 31 = .ok (.iinc 4 1, 3) := by decide +kernel
theorem dX1_fillLeft_34 : decode cX1_fillLeft 34 = .ok (.goto (-29), 3) := by decide +kernel
theorem dX1_fillLeft_37 : decode cX1_fillLeft 37 = .ok (.return_, 1) := by decide +kernel
theorem dX1_fillHeldBack_0 : decode cX1_fillHeldBack 0 = .ok (.iconst 0, 1) := by decide +kernel
theorem dX1_fillHeldBack_1 : decode cX1_fillHeldBack 1 = .ok (.istore_n 3, 1) := by decide +kernel
theorem dX1_fillHeldBack_2 : decode cX1_fillHeldBack 2 = .ok (.iload_n 3, 1) := by decide +kernel
theorem dX1_fillHeldBack_3 : decode cX1_fillHeldBack 3 = .ok (.bipush 40, 2) := by decide +kernel
theorem dX1_fillHeldBack_5 : decode cX1_fillHeldBack 5 = .ok (.if_icmp .gt 26, 3) := by decide +kernel
theorem dX1_fillHeldBack_8 : decode cX1_fillHeldBack 8 = .ok (.aload_n 2, 1) := by decide +kernel
theorem dX1_fillHeldBack_9 : decode cX1_fillHeldBack 9 = .ok (.iload_n 3, 1) := by decide +kernel
theorem dX1_fillHeldBack_10 : decode cX1_fillHeldBack 10 = .ok (.iload_n 3, 1) := by decide +kernel
theorem dX1_fillHeldBack_11 : decode cX1_fillHeldBack 11 = .ok (.iload_n 1, 1) := by decide +kernel
theorem dX1_fillHeldBack_12 : decode cX1_fillHeldBack 12 = .ok (.if_icmp .ge 7, 3) := by decide +kernel
theorem dX1_fillHeldBack_15 : decode cX1_fillHeldBack 15 = .ok (.iconst 0, 1) := by decide +kernel
theorem dX1_fillHeldBack_16 : decode cX1_fillHeldBack 16 = .ok (.goto 8, 3) := by decide +kernel
theorem dX1_fillHeldBack_19 : decode cX1_fillHeldBack 19 = .ok (.aload_n 0, 1) := by decide +kernel
theorem dX1_fillHeldBack_20 : decode cX1_fillHeldBack 20 = .ok (.iload_n 3, 1) := by decide +kernel
theorem dX1_fillHeldBack_21 : decode cX1_fillHeldBack 21 = .ok (.iload_n 1, 1) := by decide +kernel
theorem dX1_fillHeldBack_22 : decode cX1_fillHeldBack 22 = .ok (.isub, 1) := by decide +kernel
theorem dX1_fillHeldBack_23 : decode cX1_fillHeldBack 23 = .ok (.iaload, 1) := by decide +kernel
theorem dX1_fillHeldBack_24 : decode cX1_fillHeldBack 24 = .ok (.iastore, 1) := by decide +kernel
theorem dX1_fillHeldBack_25 : decode cX1_fillHeldBack 25 = .ok (.iinc 3 1, 3) := by decide +kernel
theorem dX1_fillHeldBack_28 : decode cX1_fillHeldBack 28 = .ok (.goto (-26), 3) := by decide +kernel
theorem dX1_fillHeldBack_31 : decode cX1_fillHeldBack 31 = .ok (.return_, 1) := by decide +kernel
theorem dX1_fillAhead_0 : decode cX1_fillAhead 0 = .ok (.aload_n 2, 1) := by decide +kernel
theorem dX1_fillAhead_1 : decode cX1_fillAhead 1 = .ok (.iconst 0, 1) := by decide +kernel
theorem dX1_fillAhead_2 : decode cX1_fillAhead 2 = .ok (.iconst 0, 1) := by decide +kernel
theorem dX1_fillAhead_3 : decode cX1_fillAhead 3 = .ok (.iastore, 1) := by decide +kernel
theorem dX1_fillAhead_4 : decode cX1_fillAhead 4 = .ok (.iconst 1, 1) := by decide +kernel
theorem dX1_fillAhead_5 : decode cX1_fillAhead 5 = .ok (.istore_n 3, 1) := by decide +kernel
theorem dX1_fillAhead_6 : decode cX1_fillAhead 6 = .ok (.iload_n 3, 1) := by decide +kernel
theorem dX1_fillAhead_7 : decode cX1_fillAhead 7 = .ok (.bipush 40, 2) := by decide +kernel
theorem dX1_fillAhead_9 : decode cX1_fillAhead 9 = .ok (.if_icmp .gt 22, 3) := by decide +kernel
theorem dX1_fillAhead_12 : decode cX1_fillAhead 12 = .ok (.aload_n 2, 1) := by decide +kernel
theorem dX1_fillAhead_13 : decode cX1_fillAhead 13 = .ok (.iload_n 3, 1) := by decide +kernel
theorem dX1_fillAhead_14 : decode cX1_fillAhead 14 = .ok (.aload_n 0, 1) := by decide +kernel
theorem dX1_fillAhead_15 : decode cX1_fillAhead 15 = .ok (.iload_n 3, 1) := by decide +kernel
theorem dX1_fillAhead_16 : decode cX1_fillAhead 16 = .ok (.iload_n 1, 1) := by decide +kernel
theorem dX1_fillAhead_17 : decode cX1_fillAhead 17 = .ok (.iadd, 1) := by decide +kernel
theorem dX1_fillAhead_18 : decode cX1_fillAhead 18 = .ok (.bipush 40, 2) := by decide +kernel
theorem dX1_fillAhead_20 : decode cX1_fillAhead 20 = .ok (.invokestatic 9, 3) := by decide +kernel
theorem dX1_fillAhead_23 : decode cX1_fillAhead 23 = .ok (.iaload, 1) := by decide +kernel
theorem dX1_fillAhead_24 : decode cX1_fillAhead 24 = .ok (.iastore, 1) := by decide +kernel
theorem dX1_fillAhead_25 : decode cX1_fillAhead 25 = .ok (.iinc 3 1, 3) := by decide +kernel
theorem dX1_fillAhead_28 : decode cX1_fillAhead 28 = .ok (.goto (-22), 3) := by decide +kernel
theorem dX1_fillAhead_31 : decode cX1_fillAhead 31 = .ok (.return_, 1) := by decide +kernel
theorem dX1_longestWait_0 : decode cX1_longestWait 0 = .ok (.iconst 0, 1) := by decide +kernel
theorem dX1_longestWait_1 : decode cX1_longestWait 1 = .ok (.istore_n 3, 1) := by decide +kernel
theorem dX1_longestWait_2 : decode cX1_longestWait 2 = .ok (.iconst 0, 1) := by decide +kernel
theorem dX1_longestWait_3 : decode cX1_longestWait 3 = .ok (.istore 4, 2) := by decide +kernel
theorem dX1_longestWait_5 : decode cX1_longestWait 5 = .ok (.iconst 0, 1) := by decide +kernel
theorem dX1_longestWait_6 : decode cX1_longestWait 6 = .ok (.istore 5, 2) := by decide +kernel
theorem dX1_longestWait_8 : decode cX1_longestWait 8 = .ok (.iload 5, 2) := by decide +kernel
theorem dX1_longestWait_10 : decode cX1_longestWait 10 = .ok (.iload_n 2, 1) := by decide +kernel
theorem dX1_longestWait_11 : decode cX1_longestWait 11 = .ok (.if_icmp .gt 62, 3) := by decide +kernel
theorem dX1_longestWait_14 : decode cX1_longestWait 14 = .ok (.iload 4, 2) := by decide +kernel
theorem dX1_longestWait_16 : decode cX1_longestWait 16 = .ok (.iload 5, 2) := by decide +kernel
theorem dX1_longestWait_18 : decode cX1_longestWait 18 = .ok (.invokestatic 40, 3) := by decide +kernel
theorem dX1_longestWait_21 : decode cX1_longestWait 21 = .ok (.istore 4, 2) := by decide +kernel
theorem dX1_longestWait_23 : decode cX1_longestWait 23 = .ok (.iload 4, 2) := by decide +kernel
theorem dX1_longestWait_25 : decode cX1_longestWait 25 = .ok (.bipush 40, 2) := by decide +kernel
theorem dX1_longestWait_27 : decode cX1_longestWait 27 = .ok (.if_icmp .gt 20, 3) := by decide +kernel
theorem dX1_longestWait_30 : decode cX1_longestWait 30 = .ok (.aload_n 1, 1) := by decide +kernel
theorem dX1_longestWait_31 : decode cX1_longestWait 31 = .ok (.iload 4, 2) := by decide +kernel
theorem dX1_longestWait_33 : decode cX1_longestWait 33 = .ok (.iaload, 1) := by decide +kernel
theorem dX1_longestWait_34 : decode cX1_longestWait 34 = .ok (.aload_n 0, 1) := by decide +kernel
theorem dX1_longestWait_35 : decode cX1_longestWait 35 = .ok (.iload 5, 2) := by decide +kernel
theorem dX1_longestWait_37 : decode cX1_longestWait 37 = .ok (.iaload, 1) := by decide +kernel
theorem dX1_longestWait_38 : decode cX1_longestWait 38 = .ok (.if_icmp .ge 9, 3) := by decide +kernel
theorem dX1_longestWait_41 : decode cX1_longestWait 41 = .ok (.iinc 4 1, 3) := by decide +kernel
theorem dX1_longestWait_44 : decode cX1_longestWait 44 = .ok (.goto (-21), 3) := by decide +kernel
theorem dX1_longestWait_47 : decode cX1_longestWait 47 = .ok (.iload 4, 2) := by decide +kernel
theorem dX1_longestWait_49 : decode cX1_longestWait 49 = .ok (.bipush 40, 2) := by decide +kernel
theorem dX1_longestWait_51 : decode cX1_longestWait 51 = .ok (.if_icmp .le 6, 3) := by decide +kernel
theorem dX1_longestWait_54 : decode cX1_longestWait 54 = .ok (.bipush (-9), 2) := by decide +kernel
theorem dX1_longestWait_56 : decode cX1_longestWait 56 = .ok (.ireturn, 1) := by decide +kernel
theorem dX1_longestWait_57 : decode cX1_longestWait 57 = .ok (.iload_n 3, 1) := by decide +kernel
theorem dX1_longestWait_58 : decode cX1_longestWait 58 = .ok (.iload 4, 2) := by decide +kernel
theorem dX1_longestWait_60 : decode cX1_longestWait 60 = .ok (.iload 5, 2) := by decide +kernel
theorem dX1_longestWait_62 : decode cX1_longestWait 62 = .ok (.isub, 1) := by decide +kernel
theorem dX1_longestWait_63 : decode cX1_longestWait 63 = .ok (.invokestatic 40, 3) := by decide +kernel
theorem dX1_longestWait_66 : decode cX1_longestWait 66 = .ok (.istore_n 3, 1) := by decide +kernel
theorem dX1_longestWait_67 : decode cX1_longestWait 67 = .ok (.iinc 5 1, 3) := by decide +kernel
theorem dX1_longestWait_70 : decode cX1_longestWait 70 = .ok (.goto (-62), 3) := by decide +kernel
theorem dX1_longestWait_73 : decode cX1_longestWait 73 = .ok (.iload_n 3, 1) := by decide +kernel
theorem dX1_longestWait_74 : decode cX1_longestWait 74 = .ok (.ireturn, 1) := by decide +kernel
theorem dX1_greatestHeap_0 : decode cX1_greatestHeap 0 = .ok (.iconst 0, 1) := by decide +kernel
theorem dX1_greatestHeap_1 : decode cX1_greatestHeap 1 = .ok (.istore_n 2, 1) := by decide +kernel
theorem dX1_greatestHeap_2 : decode cX1_greatestHeap 2 = .ok (.iconst 0, 1) := by decide +kernel
theorem dX1_greatestHeap_3 : decode cX1_greatestHeap 3 = .ok (.istore_n 3, 1) := by decide +kernel
theorem dX1_greatestHeap_4 : decode cX1_greatestHeap 4 = .ok (.iload_n 3, 1) := by decide +kernel
theorem dX1_greatestHeap_5 : decode cX1_greatestHeap 5 = .ok (.bipush 40, 2) := by decide +kernel
theorem dX1_greatestHeap_7 : decode cX1_greatestHeap 7 = .ok (.if_icmp .gt 21, 3) := by decide +kernel
theorem dX1_greatestHeap_10 : decode cX1_greatestHeap 10 = .ok (.iload_n 2, 1) := by decide +kernel
theorem dX1_greatestHeap_11 : decode cX1_greatestHeap 11 = .ok (.aload_n 0, 1) := by decide +kernel
theorem dX1_greatestHeap_12 : decode cX1_greatestHeap 12 = .ok (.iload_n 3, 1) := by decide +kernel
theorem dX1_greatestHeap_13 : decode cX1_greatestHeap 13 = .ok (.iaload, 1) := by decide +kernel
theorem dX1_greatestHeap_14 : decode cX1_greatestHeap 14 = .ok (.aload_n 1, 1) := by decide +kernel
theorem dX1_greatestHeap_15 : decode cX1_greatestHeap 15 = .ok (.iload_n 3, 1) := by decide +kernel
theorem dX1_greatestHeap_16 : decode cX1_greatestHeap 16 = .ok (.iaload, 1) := by decide +kernel
theorem dX1_greatestHeap_17 : decode cX1_greatestHeap 17 = .ok (.isub, 1) := by decide +kernel
theorem dX1_greatestHeap_18 : decode cX1_greatestHeap 18 = .ok (.invokestatic 40, 3) := by decide +kernel
theorem dX1_greatestHeap_21 : decode cX1_greatestHeap 21 = .ok (.istore_n 2, 1) := by decide +kernel
theorem dX1_greatestHeap_22 : decode cX1_greatestHeap 22 = .ok (.iinc 3 1, 3) := by decide +kernel
theorem dX1_greatestHeap_25 : decode cX1_greatestHeap 25 = .ok (.goto (-21), 3) := by decide +kernel
theorem dX1_greatestHeap_28 : decode cX1_greatestHeap 28 = .ok (.iload_n 2, 1) := by decide +kernel
theorem dX1_greatestHeap_29 : decode cX1_greatestHeap 29 = .ok (.ireturn, 1) := by decide +kernel
theorem dX2_init_0 : decode cX2_init 0 = .ok (.aload_n 0, 1) := by decide +kernel
theorem dX2_init_1 : decode cX2_init 1 = .ok (.invokespecial 3, 3) := by decide +kernel
theorem dX2_init_4 : decode cX2_init 4 = .ok (.aload_n 0, 1) := by decide +kernel
theorem dX2_init_5 : decode cX2_init 5 = .ok (.bipush 41, 2) := by decide +kernel
theorem dX2_init_7 : decode cX2_init 7 = .ok (.newarray .int, 2) := by decide +kernel
theorem dX2_init_9 : decode cX2_init 9 = .ok (.putfield 9, 3) := by decide +kernel
theorem dX2_init_12 : decode cX2_init 12 = .ok (.aload_n 0, 1) := by decide +kernel
theorem dX2_init_13 : decode cX2_init 13 = .ok (.bipush 41, 2) := by decide +kernel
theorem dX2_init_15 : decode cX2_init 15 = .ok (.newarray .int, 2) := by decide +kernel
theorem dX2_init_17 : decode cX2_init 17 = .ok (.putfield 15, 3) := by decide +kernel
theorem dX2_init_20 : decode cX2_init 20 = .ok (.aload_n 0, 1) := by decide +kernel
theorem dX2_init_21 : decode cX2_init 21 = .ok (.iconst 0, 1) := by decide +kernel
theorem dX2_init_22 : decode cX2_init 22 = .ok (.putfield 18, 3) := by decide +kernel
theorem dX2_init_25 : decode cX2_init 25 = .ok (.return_, 1) := by decide +kernel
theorem dX2_replaceBy_0 : decode cX2_replaceBy 0 = .ok (.aload_n 0, 1) := by decide +kernel
theorem dX2_replaceBy_1 : decode cX2_replaceBy 1 = .ok (.iload_n 2, 1) := by decide +kernel
theorem dX2_replaceBy_2 : decode cX2_replaceBy 2 = .ok (.putfield 18, 3) := by decide +kernel
theorem dX2_replaceBy_5 : decode cX2_replaceBy 5 = .ok (.aload_n 0, 1) := by decide +kernel
theorem dX2_replaceBy_6 : decode cX2_replaceBy 6 = .ok (.getfield 9, 3) := by decide +kernel
theorem dX2_replaceBy_9 : decode cX2_replaceBy 9 = .ok (.iconst 0, 1) := by decide +kernel
theorem dX2_replaceBy_10 : decode cX2_replaceBy 10 = .ok (.iconst 0, 1) := by decide +kernel
theorem dX2_replaceBy_11 : decode cX2_replaceBy 11 = .ok (.iastore, 1) := by decide +kernel
theorem dX2_replaceBy_12 : decode cX2_replaceBy 12 = .ok (.iconst 1, 1) := by decide +kernel
theorem dX2_replaceBy_13 : decode cX2_replaceBy 13 = .ok (.istore_n 3, 1) := by decide +kernel
theorem dX2_replaceBy_14 : decode cX2_replaceBy 14 = .ok (.iload_n 3, 1) := by decide +kernel
theorem dX2_replaceBy_15 : decode cX2_replaceBy 15 = .ok (.bipush 40, 2) := by decide +kernel
theorem dX2_replaceBy_17 : decode cX2_replaceBy 17 = .ok (.if_icmp .gt 38, 3) := by decide +kernel
theorem dX2_replaceBy_20 : decode cX2_replaceBy 20 = .ok (.aload_n 0, 1) := by decide +kernel
theorem dX2_replaceBy_21 : decode cX2_replaceBy 21 = .ok (.getfield 9, 3) := by decide +kernel
theorem dX2_replaceBy_24 : decode cX2_replaceBy 24 = .ok (.iload_n 3, 1) := by decide +kernel
theorem dX2_replaceBy_25 : decode cX2_replaceBy 25 = .ok (.aload_n 0, 1) := by decide +kernel
theorem dX2_replaceBy_26 : decode cX2_replaceBy 26 = .ok (.getfield 9, 3) := by decide +kernel
theorem dX2_replaceBy_29 : decode cX2_replaceBy 29 = .ok (.iload_n 3, 1) := by decide +kernel
theorem dX2_replaceBy_30 : decode cX2_replaceBy 30 = .ok (.iconst 1, 1) := by decide +kernel
theorem dX2_replaceBy_31 : decode cX2_replaceBy 31 = .ok (.isub, 1) := by decide +kernel
theorem dX2_replaceBy_32 : decode cX2_replaceBy 32 = .ok (.iaload, 1) := by decide +kernel
theorem dX2_replaceBy_33 : decode cX2_replaceBy 33 = .ok (.iload_n 3, 1) := by decide +kernel
theorem dX2_replaceBy_34 : decode cX2_replaceBy 34 = .ok (.iload_n 2, 1) := by decide +kernel
theorem dX2_replaceBy_35 : decode cX2_replaceBy 35 = .ok (.if_icmp .gt 11, 3) := by decide +kernel
theorem dX2_replaceBy_38 : decode cX2_replaceBy 38 = .ok (.aload_n 1, 1) := by decide +kernel
theorem dX2_replaceBy_39 : decode cX2_replaceBy 39 = .ok (.iload_n 3, 1) := by decide +kernel
theorem dX2_replaceBy_40 : decode cX2_replaceBy 40 = .ok (.iconst 1, 1) := by decide +kernel
theorem dX2_replaceBy_41 : decode cX2_replaceBy 41 = .ok (.isub, 1) := by decide +kernel
theorem dX2_replaceBy_42 : decode cX2_replaceBy 42 = .ok (.iaload, 1) := by decide +kernel
theorem dX2_replaceBy_43 : decode cX2_replaceBy 43 = .ok (.goto 4, 3) := by decide +kernel
theorem dX2_replaceBy_46 : decode cX2_replaceBy 46 = .ok (.iconst 0, 1) := by decide +kernel
theorem dX2_replaceBy_47 : decode cX2_replaceBy 47 = .ok (.iadd, 1) := by decide +kernel
theorem dX2_replaceBy_48 : decode cX2_replaceBy 48 = .ok (.iastore, 1) := by decide +kernel
theorem dX2_replaceBy_49 : decode cX2_replaceBy 49 = .ok (.iinc 3 1, 3) := by decide +kernel
theorem dX2_replaceBy_52 : decode cX2_replaceBy 52 = .ok (.goto (-38), 3) := by decide +kernel
theorem dX2_replaceBy_55 : decode cX2_replaceBy 55 = .ok (.return_, 1) := by decide +kernel
theorem dX2_firstBreak_0 : decode cX2_firstBreak 0 = .ok (.iconst 1, 1) := by decide +kernel
theorem dX2_firstBreak_1 : decode cX2_firstBreak 1 = .ok (.istore_n 2, 1) := by decide +kernel
theorem dX2_firstBreak_2 : decode cX2_firstBreak 2 = .ok (.iload_n 2, 1) := by decide +kernel
theorem dX2_firstBreak_3 : decode cX2_firstBreak 3 = .ok (.aload_n 0, 1) := by decide +kernel
theorem dX2_firstBreak_4 : decode cX2_firstBreak 4 = .ok (.getfield 18, 3) := by decide +kernel
theorem dX2_firstBreak_7 : decode cX2_firstBreak 7 = .ok (.if_icmp .gt 51, 3) := by decide +kernel
theorem dX2_firstBreak_10 : decode cX2_firstBreak 10 = .ok (.iload_n 2, 1) := by decide +kernel
theorem dX2_firstBreak_11 : decode cX2_firstBreak 11 = .ok (.iconst 1, 1) := by decide +kernel
theorem dX2_firstBreak_12 : decode cX2_firstBreak 12 = .ok (.isub, 1) := by decide +kernel
theorem dX2_firstBreak_13 : decode cX2_firstBreak 13 = .ok (.istore_n 3, 1) := by decide +kernel
theorem dX2_firstBreak_14 : decode cX2_firstBreak 14 = .ok (.iload_n 3, 1) := by decide +kernel
theorem dX2_firstBreak_15 : decode cX2_firstBreak 15 = .ok (.ifCond .lt 37, 3) := by decide +kernel
theorem dX2_firstBreak_18 : decode cX2_firstBreak 18 = .ok (.aload_n 0, 1) := by decide +kernel
theorem dX2_firstBreak_19 : decode cX2_firstBreak 19 = .ok (.getfield 9, 3) := by decide +kernel
theorem dX2_firstBreak_22 : decode cX2_firstBreak 22 = .ok (.iload_n 2, 1) := by decide +kernel
theorem dX2_firstBreak_23 : decode cX2_firstBreak 23 = .ok (.iaload, 1) := by decide +kernel
theorem dX2_firstBreak_24 : decode cX2_firstBreak 24 = .ok (.aload_n 0, 1) := by decide +kernel
theorem dX2_firstBreak_25 : decode cX2_firstBreak 25 = .ok (.getfield 9, 3) := by decide +kernel
theorem dX2_firstBreak_28 : decode cX2_firstBreak 28 = .ok (.iload_n 3, 1) := by decide +kernel
theorem dX2_firstBreak_29 : decode cX2_firstBreak 29 = .ok (.iaload, 1) := by decide +kernel
theorem dX2_firstBreak_30 : decode cX2_firstBreak 30 = .ok (.isub, 1) := by decide +kernel
theorem dX2_firstBreak_31 : decode cX2_firstBreak 31 = .ok (.aload_n 1, 1) := by decide +kernel
theorem dX2_firstBreak_32 : decode cX2_firstBreak 32 = .ok (.iload_n 2, 1) := by decide +kernel
theorem dX2_firstBreak_33 : decode cX2_firstBreak 33 = .ok (.iload_n 3, 1) := by decide +kernel
theorem dX2_firstBreak_34 : decode cX2_firstBreak 34 = .ok (.isub, 1) := by decide +kernel
theorem dX2_firstBreak_35 : decode cX2_firstBreak 35 = .ok (.iaload, 1) := by decide +kernel
theorem dX2_firstBreak_36 : decode cX2_firstBreak 36 = .ok (.if_icmp .le 10, 3) := by decide +kernel
theorem dX2_firstBreak_39 : decode cX2_firstBreak 39 = .ok (.bipush 100, 2) := by decide +kernel
theorem dX2_firstBreak_41 : decode cX2_firstBreak 41 = .ok (.iload_n 2, 1) := by decide +kernel
theorem dX2_firstBreak_42 : decode cX2_firstBreak 42 = .ok (.imul, 1) := by decide +kernel
theorem dX2_firstBreak_43 : decode cX2_firstBreak 43 = .ok (.iload_n 3, 1) := by decide +kernel
theorem dX2_firstBreak_44 : decode cX2_firstBreak 44 = .ok (.iadd, 1) := by decide +kernel
theorem dX2_firstBreak_45 : decode cX2_firstBreak 45 = .ok (.ireturn, 1) := by decide +kernel
theorem dX2_firstBreak_46 : decode cX2_firstBreak 46 = .ok (.iinc 3 (-1), 3) := by decide +kernel
theorem dX2_firstBreak_49 : decode cX2_firstBreak 49 = .ok (.goto (-35), 3) := by decide +kernel
theorem dX2_firstBreak_52 : decode cX2_firstBreak 52 = .ok (.iinc 2 1, 3) := by decide +kernel
theorem dX2_firstBreak_55 : decode cX2_firstBreak 55 = .ok (.goto (-53), 3) := by decide +kernel
theorem dX2_firstBreak_58 : decode cX2_firstBreak 58 = .ok (.bipush (-9), 2) := by decide +kernel
theorem dX2_firstBreak_60 : decode cX2_firstBreak 60 = .ok (.ireturn, 1) := by decide +kernel
theorem dX2_leastBurst_0 : decode cX2_leastBurst 0 = .ok (.iconst 0, 1) := by decide +kernel
theorem dX2_leastBurst_1 : decode cX2_leastBurst 1 = .ok (.istore_n 2, 1) := by decide +kernel
theorem dX2_leastBurst_2 : decode cX2_leastBurst 2 = .ok (.iconst 0, 1) := by decide +kernel
theorem dX2_leastBurst_3 : decode cX2_leastBurst 3 = .ok (.istore_n 3, 1) := by decide +kernel
theorem dX2_leastBurst_4 : decode cX2_leastBurst 4 = .ok (.iconst 1, 1) := by decide +kernel
theorem dX2_leastBurst_5 : decode cX2_leastBurst 5 = .ok (.istore 4, 2) := by decide +kernel
theorem dX2_leastBurst_7 : decode cX2_leastBurst 7 = .ok (.iload 4, 2) := by decide +kernel
theorem dX2_leastBurst_9 : decode cX2_leastBurst 9 = .ok (.aload_n 0, 1) := by decide +kernel
theorem dX2_leastBurst_10 : decode cX2_leastBurst 10 = .ok (.getfield 18, 3) := by decide +kernel
theorem dX2_leastBurst_13 : decode cX2_leastBurst 13 = .ok (.if_icmp .gt 39, 3) := by decide +kernel
theorem dX2_leastBurst_16 : decode cX2_leastBurst 16 = .ok (.aload_n 0, 1) := by decide +kernel
theorem dX2_leastBurst_17 : decode cX2_leastBurst 17 = .ok (.getfield 9, 3) := by decide +kernel
theorem dX2_leastBurst_20 : decode cX2_leastBurst 20 = .ok (.iload 4, 2) := by decide +kernel
theorem dX2_leastBurst_22 : decode cX2_leastBurst 22 = .ok (.iaload, 1) := by decide +kernel
theorem dX2_leastBurst_23 : decode cX2_leastBurst 23 = .ok (.iload_n 1, 1) := by decide +kernel
theorem dX2_leastBurst_24 : decode cX2_leastBurst 24 = .ok (.iload 4, 2) := by decide +kernel
theorem dX2_leastBurst_26 : decode cX2_leastBurst 26 = .ok (.imul, 1) := by decide +kernel
theorem dX2_leastBurst_27 : decode cX2_leastBurst 27 = .ok (.isub, 1) := by decide +kernel
theorem dX2_leastBurst_28 : decode cX2_leastBurst 28 = .ok (.istore 5, 2) := by decide +kernel
theorem dX2_leastBurst_30 : decode cX2_leastBurst 30 = .ok (.iload_n 2, 1) := by decide +kernel
theorem dX2_leastBurst_31 : decode cX2_leastBurst 31 = .ok (.iload 5, 2) := by decide +kernel
theorem dX2_leastBurst_33 : decode cX2_leastBurst 33 = .ok (.iload_n 3, 1) := by decide +kernel
theorem dX2_leastBurst_34 : decode cX2_leastBurst 34 = .ok (.isub, 1) := by decide +kernel
theorem dX2_leastBurst_35 : decode cX2_leastBurst 35 = .ok (.invokestatic 22, 3) := by decide +kernel
theorem dX2_leastBurst_38 : decode cX2_leastBurst 38 = .ok (.istore_n 2, 1) := by decide +kernel
theorem dX2_leastBurst_39 : decode cX2_leastBurst 39 = .ok (.iload_n 3, 1) := by decide +kernel
theorem dX2_leastBurst_40 : decode cX2_leastBurst 40 = .ok (.iload 5, 2) := by decide +kernel
theorem dX2_leastBurst_42 : decode cX2_leastBurst 42 = .ok (.invokestatic 28, 3) := by decide +kernel
theorem dX2_leastBurst_45 : decode cX2_leastBurst 45 = .ok (.istore_n 3, 1) := by decide +kernel
theorem dX2_leastBurst_46 : decode cX2_leastBurst 46 = .ok (.iinc 4 1, 3) := by decide +kernel
theorem dX2_leastBurst_49 : decode cX2_leastBurst 49 = .ok (.goto (-42), 3) := by decide +kernel
theorem dX2_leastBurst_52 : decode cX2_leastBurst 52 = .ok (.iload_n 2, 1) := by decide +kernel
theorem dX2_leastBurst_53 : decode cX2_leastBurst 53 = .ok (.ireturn, 1) := by decide +kernel
theorem dX2_shapeBy_0 : decode cX2_shapeBy 0 = .ok (.aload_n 0, 1) := by decide +kernel
theorem dX2_shapeBy_1 : decode cX2_shapeBy 1 = .ok (.getfield 9, 3) := by decide +kernel
theorem dX2_shapeBy_4 : decode cX2_shapeBy 4 = .ok (.aload_n 1, 1) := by decide +kernel
theorem dX2_shapeBy_5 : decode cX2_shapeBy 5 = .ok (.aload_n 0, 1) := by decide +kernel
theorem dX2_shapeBy_6 : decode cX2_shapeBy 6 = .ok (.getfield 15, 3) := by decide +kernel
theorem dX2_shapeBy_9 : decode cX2_shapeBy 9 = .ok (.invokestatic 31, 3) := by decide +kernel
theorem dX2_shapeBy_12 : decode cX2_shapeBy 12 = .ok (.return_, 1) := by decide +kernel
theorem dX2_mostHeld_0 : decode cX2_mostHeld 0 = .ok (.aload_n 0, 1) := by decide +kernel
theorem dX2_mostHeld_1 : decode cX2_mostHeld 1 = .ok (.getfield 9, 3) := by decide +kernel
theorem dX2_mostHeld_4 : decode cX2_mostHeld 4 = .ok (.aload_n 0, 1) := by decide +kernel
theorem dX2_mostHeld_5 : decode cX2_mostHeld 5 = .ok (.getfield 15, 3) := by decide +kernel
theorem dX2_mostHeld_8 : decode cX2_mostHeld 8 = .ok (.invokestatic 37, 3) := by decide +kernel
theorem dX2_mostHeld_11 : decode cX2_mostHeld 11 = .ok (.ireturn, 1) := by decide +kernel
theorem dX2_latestOfShaped_0 : decode cX2_latestOfShaped 0 = .ok (.aload_n 0, 1) := by decide +kernel
theorem dX2_latestOfShaped_1 : decode cX2_latestOfShaped 1 = .ok (.getfield 9, 3) := by decide +kernel
theorem dX2_latestOfShaped_4 : decode cX2_latestOfShaped 4 = .ok (.aload_n 0, 1) := by decide +kernel
theorem dX2_latestOfShaped_5 : decode cX2_latestOfShaped 5 = .ok (.getfield 15, 3) := by decide +kernel
theorem dX2_latestOfShaped_8 : decode cX2_latestOfShaped 8 = .ok (.bipush 40, 2) := by decide +kernel
theorem dX2_latestOfShaped_10 : decode cX2_latestOfShaped 10 = .ok (.invokestatic 41, 3) := by decide +kernel
theorem dX2_latestOfShaped_13 : decode cX2_latestOfShaped 13 = .ok (.ireturn, 1) := by decide +kernel
theorem dX3_init_0 : decode cX3_init 0 = .ok (.aload_n 0, 1) := by decide +kernel
theorem dX3_init_1 : decode cX3_init 1 = .ok (.invokespecial 3, 3) := by decide +kernel
theorem dX3_init_4 : decode cX3_init 4 = .ok (.aload_n 0, 1) := by decide +kernel
theorem dX3_init_5 : decode cX3_init 5 = .ok (.iconst 4, 1) := by decide +kernel
theorem dX3_init_6 : decode cX3_init 6 = .ok (.bipush 60, 2) := by decide +kernel
theorem dX3_init_8 : decode cX3_init 8 = .ok (.multianewarray 9 2, 4) := by decide +kernel
theorem dX3_init_12 : decode cX3_init 12 = .ok (.putfield 11, 3) := by decide +kernel
theorem dX3_init_15 : decode cX3_init 15 = .ok (.aload_n 0, 1) := by decide +kernel
theorem dX3_init_16 : decode cX3_init 16 = .ok (.iconst 4, 1) := by decide +kernel
theorem dX3_init_17 : decode cX3_init 17 = .ok (.newarray .int, 2) := by decide +kernel
theorem dX3_init_19 : decode cX3_init 19 = .ok (.putfield 16, 3) := by decide +kernel
theorem dX3_init_22 : decode cX3_init 22 = .ok (.aload_n 0, 1) := by decide +kernel
theorem dX3_init_23 : decode cX3_init 23 = .ok (.iconst 4, 1) := by decide +kernel
theorem dX3_init_24 : decode cX3_init 24 = .ok (.newarray .int, 2) := by decide +kernel
theorem dX3_init_26 : decode cX3_init 26 = .ok (.putfield 20, 3) := by decide +kernel
theorem dX3_init_29 : decode cX3_init 29 = .ok (.aload_n 0, 1) := by decide +kernel
theorem dX3_init_30 : decode cX3_init 30 = .ok (.getfield 16, 3) := by decide +kernel
theorem dX3_init_33 : decode cX3_init 33 = .ok (.iconst (-1), 1) := by decide +kernel
theorem dX3_init_34 : decode cX3_init 34 = .ok (.invokestatic 23, 3) := by decide +kernel
theorem dX3_init_37 : decode cX3_init 37 = .ok (.return_, 1) := by decide +kernel
theorem dX3_has_0 : decode cX3_has 0 = .ok (.iload_n 1, 1) := by decide +kernel
theorem dX3_has_1 : decode cX3_has 1 = .ok (.ifCond .lt 12, 3) := by decide +kernel
theorem dX3_has_4 : decode cX3_has 4 = .ok (.iload_n 1, 1) := by decide +kernel
theorem dX3_has_5 : decode cX3_has 5 = .ok (.iconst 4, 1) := by decide +kernel
theorem dX3_has_6 : decode cX3_has 6 = .ok (.if_icmp .ge 7, 3) := by decide +kernel
theorem dX3_has_9 : decode cX3_has 9 = .ok (.iconst 1, 1) := by decide +kernel
theorem dX3_has_10 : decode cX3_has 10 = .ok (.goto 4, 3) := by decide +kernel
theorem dX3_has_13 : decode cX3_has 13 = .ok (.iconst 0, 1) := by decide +kernel
theorem dX3_has_14 : decode cX3_has 14 = .ok (.ireturn, 1) := by decide +kernel
theorem dX3_isLane_0 : decode cX3_isLane 0 = .ok (.iload_n 1, 1) := by decide +kernel
theorem dX3_isLane_1 : decode cX3_isLane 1 = .ok (.ifCond .lt 12, 3) := by decide +kernel
theorem dX3_isLane_4 : decode cX3_isLane 4 = .ok (.iload_n 1, 1) := by decide +kernel
theorem dX3_isLane_5 : decode cX3_isLane 5 = .ok (.iconst 3, 1) := by decide +kernel
theorem dX3_isLane_6 : decode cX3_isLane 6 = .ok (.if_icmp .ge 7, 3) := by decide +kernel
theorem dX3_isLane_9 : decode cX3_isLane 9 = .ok (.iconst 1, 1) := by decide +kernel
theorem dX3_isLane_10 : decode cX3_isLane 10 = .ok (.goto 4, 3) := by decide +kernel
theorem dX3_isLane_13 : decode cX3_isLane 13 = .ok (.iconst 0, 1) := by decide +kernel
theorem dX3_isLane_14 : decode cX3_isLane 14 = .ok (.ireturn, 1) := by decide +kernel
theorem dX3_renew_0 : decode cX3_renew 0 = .ok (.aload_n 0, 1) := by decide +kernel
theorem dX3_renew_1 : decode cX3_renew 1 = .ok (.iload_n 1, 1) := by decide +kernel
theorem dX3_renew_2 : decode cX3_renew 2 = .ok (.invokevirtual 29, 3) := by decide +kernel
theorem dX3_renew_5 : decode cX3_renew 5 = .ok (.ifCond .ne 5, 3) := by decide +kernel
theorem dX3_renew_8 : decode cX3_renew 8 = .ok (.iconst (-1), 1) := by decide +kernel
theorem dX3_renew_9 : decode cX3_renew 9 = .ok (.ireturn, 1) := by decide +kernel
theorem dX3_renew_10 : decode cX3_renew 10 = .ok (.aload_n 0, 1) := by decide +kernel
theorem dX3_renew_11 : decode cX3_renew 11 = .ok (.iload_n 2, 1) := by decide +kernel
theorem dX3_renew_12 : decode cX3_renew 12 = .ok (.invokevirtual 33, 3) := by decide +kernel
theorem dX3_renew_15 : decode cX3_renew 15 = .ok (.ifCond .eq 9, 3) := by decide +kernel
theorem dX3_renew_18 : decode cX3_renew 18 = .ok (.iload_n 3, 1) := by decide +kernel
theorem dX3_renew_19 : decode cX3_renew 19 = .ok (.bipush 60, 2) := by decide +kernel
theorem dX3_renew_21 : decode cX3_renew 21 = .ok (.if_icmp .le 6, 3) := by decide +kernel
theorem dX3_renew_24 : decode cX3_renew 24 = .ok (.bipush (-2), 2) := by decide +kernel
theorem dX3_renew_26 : decode cX3_renew 26 = .ok (.ireturn, 1) := by decide +kernel
theorem dX3_renew_27 : decode cX3_renew 27 = .ok (.iload_n 3, 1) := by decide +kernel
theorem dX3_renew_28 : decode cX3_renew 28 = .ok (.ifCond .ge 6, 3) := by decide +kernel
theorem dX3_renew_31 : decode cX3_renew 31 = .ok (.bipush (-14), 2) := by decide +kernel
theorem dX3_renew_33 : decode cX3_renew 33 = .ok (.ireturn, 1) := by decide +kernel
theorem dX3_renew_34 : decode cX3_renew 34 = .ok (.aload_n 0, 1) := by decide +kernel
theorem dX3_renew_35 : decode cX3_renew 35 = .ok (.getfield 11, 3) := by decide +kernel
theorem dX3_renew_38 : decode cX3_renew 38 = .ok (.iload_n 1, 1) := by decide +kernel
theorem dX3_renew_39 : decode cX3_renew 39 = .ok (.aaload, 1) := by decide +kernel
theorem dX3_renew_40 : decode cX3_renew 40 = .ok (.iconst 0, 1) := by decide +kernel
theorem dX3_renew_41 : decode cX3_renew 41 = .ok (.invokestatic 23, 3) := by decide +kernel
theorem dX3_renew_44 : decode cX3_renew 44 = .ok (.aload_n 0, 1) := by decide +kernel
theorem dX3_renew_45 : decode cX3_renew 45 = .ok (.getfield 16, 3) := by decide +kernel
theorem dX3_renew_48 : decode cX3_renew 48 = .ok (.iload_n 1, 1) := by decide +kernel
theorem dX3_renew_49 : decode cX3_renew 49 = .ok (.iload_n 3, 1) := by decide +kernel
theorem dX3_renew_50 : decode cX3_renew 50 = .ok (.iastore, 1) := by decide +kernel
theorem dX3_renew_51 : decode cX3_renew 51 = .ok (.aload_n 0, 1) := by decide +kernel
theorem dX3_renew_52 : decode cX3_renew 52 = .ok (.getfield 20, 3) := by decide +kernel
theorem dX3_renew_55 : decode cX3_renew 55 = .ok (.iload_n 1, 1) := by decide +kernel
theorem dX3_renew_56 : decode cX3_renew 56 = .ok (.iload_n 2, 1) := by decide +kernel
theorem dX3_renew_57 : decode cX3_renew 57 = .ok (.iastore, 1) := by decide +kernel
theorem dX3_renew_58 : decode cX3_renew 58 = .ok (.iconst 1, 1) := by decide +kernel
theorem dX3_renew_59 : decode cX3_renew 59 = .ok (.ireturn, 1) := by decide +kernel
theorem dX3_drop_0 : decode cX3_drop 0 = .ok (.aload_n 0, 1) := by decide +kernel
theorem dX3_drop_1 : decode cX3_drop 1 = .ok (.getfield 16, 3) := by decide +kernel
theorem dX3_drop_4 : decode cX3_drop 4 = .ok (.iload_n 1, 1) := by decide +kernel
theorem dX3_drop_5 : decode cX3_drop 5 = .ok (.iaload, 1) := by decide +kernel
theorem dX3_drop_6 : decode cX3_drop 6 = .ok (.iconst (-1), 1) := by decide +kernel
theorem dX3_drop_7 : decode cX3_drop 7 = .ok (.if_icmp .ne 7, 3) := by decide +kernel
theorem dX3_drop_10 : decode cX3_drop 10 = .ok (.iconst 0, 1) := by decide +kernel
theorem dX3_drop_11 : decode cX3_drop 11 = .ok (.goto 4, 3) := by decide +kernel
theorem dX3_drop_14 : decode cX3_drop 14 = .ok (.iconst 1, 1) := by decide +kernel
theorem dX3_drop_15 : decode cX3_drop 15 = .ok (.istore_n 2, 1) := by decide +kernel
theorem dX3_drop_16 : decode cX3_drop 16 = .ok (.aload_n 0, 1) := by decide +kernel
theorem dX3_drop_17 : decode cX3_drop 17 = .ok (.getfield 16, 3) := by decide +kernel
theorem dX3_drop_20 : decode cX3_drop 20 = .ok (.iload_n 1, 1) := by decide +kernel
theorem dX3_drop_21 : decode cX3_drop 21 = .ok (.iconst (-1), 1) := by decide +kernel
theorem dX3_drop_22 : decode cX3_drop 22 = .ok (.iastore, 1) := by decide +kernel
theorem dX3_drop_23 : decode cX3_drop 23 = .ok (.iload_n 2, 1) := by decide +kernel
theorem dX3_drop_24 : decode cX3_drop 24 = .ok (.ireturn, 1) := by decide +kernel
theorem dX3_write_0 : decode cX3_write 0 = .ok (.aload_n 0, 1) := by decide +kernel
theorem dX3_write_1 : decode cX3_write 1 = .ok (.iload_n 1, 1) := by decide +kernel
theorem dX3_write_2 : decode cX3_write 2 = .ok (.invokevirtual 29, 3) := by decide +kernel
theorem dX3_write_5 : decode cX3_write 5 = .ok (.ifCond .ne 5, 3) := by decide +kernel
theorem dX3_write_8 : decode cX3_write 8 = .ok (.iconst (-1), 1) := by decide +kernel
theorem dX3_write_9 : decode cX3_write 9 = .ok (.ireturn, 1) := by decide +kernel
theorem dX3_write_10 : decode cX3_write 10 = .ok (.aload_n 0, 1) := by decide +kernel
theorem dX3_write_11 : decode cX3_write 11 = .ok (.getfield 16, 3) := by decide +kernel
theorem dX3_write_14 : decode cX3_write 14 = .ok (.iload_n 1, 1) := by decide +kernel
theorem dX3_write_15 : decode cX3_write 15 = .ok (.iaload, 1) := by decide +kernel
theorem dX3_write_16 : decode cX3_write 16 = .ok (.iconst (-1), 1) := by decide +kernel
theorem dX3_write_17 : decode cX3_write 17 = .ok (.if_icmp .ne 6, 3) := by decide +kernel
theorem dX3_write_20 : decode cX3_write 20 = .ok (.bipush (-11), 2) := by decide +kernel
theorem dX3_write_22 : decode cX3_write 22 = .ok (.ireturn, 1) := by decide +kernel
theorem dX3_write_23 : decode cX3_write 23 = .ok (.iload_n 2, 1) := by decide +kernel
theorem dX3_write_24 : decode cX3_write 24 = .ok (.ifCond .lt 13, 3) := by decide +kernel
theorem dX3_write_27 : decode cX3_write 27 = .ok (.iload_n 2, 1) := by decide +kernel
theorem dX3_write_28 : decode cX3_write 28 = .ok (.aload_n 0, 1) := by decide +kernel
theorem dX3_write_29 : decode cX3_write 29 = .ok (.getfield 16, 3) := by decide +kernel
theorem dX3_write_32 : decode cX3_write 32 = .ok (.iload_n 1, 1) := by decide +kernel
theorem dX3_write_33 : decode cX3_write 33 = .ok (.iaload, 1) := by decide +kernel
theorem dX3_write_34 : decode cX3_write 34 = .ok (.if_icmp .lt 6, 3) := by decide +kernel
theorem dX3_write_37 : decode cX3_write 37 = .ok (.bipush (-13), 2) := by decide +kernel
theorem dX3_write_39 : decode cX3_write 39 = .ok (.ireturn, 1) := by decide +kernel
theorem dX3_write_40 : decode cX3_write 40 = .ok (.aload_n 0, 1) := by decide +kernel
theorem dX3_write_41 : decode cX3_write 41 = .ok (.getfield 11, 3) := by decide +kernel
theorem dX3_write_44 : decode cX3_write 44 = .ok (.iload_n 1, 1) := by decide +kernel
theorem dX3_write_45 : decode cX3_write 45 = .ok (.aaload, 1) := by decide +kernel
theorem dX3_write_46 : decode cX3_write 46 = .ok (.iload_n 2, 1) := by decide +kernel
theorem dX3_write_47 : decode cX3_write 47 = .ok (.aload_n 0, 1) := by decide +kernel
theorem dX3_write_48 : decode cX3_write 48 = .ok (.iload_n 3, 1) := by decide +kernel
theorem dX3_write_49 : decode cX3_write 49 = .ok (.aload_n 0, 1) := by decide +kernel
theorem dX3_write_50 : decode cX3_write 50 = .ok (.getfield 20, 3) := by decide +kernel
theorem dX3_write_53 : decode cX3_write 53 = .ok (.iload_n 1, 1) := by decide +kernel
theorem dX3_write_54 : decode cX3_write 54 = .ok (.iaload, 1) := by decide +kernel
theorem dX3_write_55 : decode cX3_write 55 = .ok (.invokevirtual 36, 3) := by decide +kernel
theorem dX3_write_58 : decode cX3_write 58 = .ok (.iastore, 1) := by decide +kernel
theorem dX3_write_59 : decode cX3_write 59 = .ok (.iconst 1, 1) := by decide +kernel
theorem dX3_write_60 : decode cX3_write 60 = .ok (.ireturn, 1) := by decide +kernel
theorem dX3_cut_0 : decode cX3_cut 0 = .ok (.iload_n 2, 1) := by decide +kernel
theorem dX3_cut_1 : decode cX3_cut 1 = .ok (.ifCond .ne 6, 3) := by decide +kernel
theorem dX3_cut_4 : decode cX3_cut 4 = .ok (.iload_n 1, 1) := by decide +kernel
theorem dX3_cut_5 : decode cX3_cut 5 = .ok (.i2b, 1) := by decide +kernel
theorem dX3_cut_6 : decode cX3_cut 6 = .ok (.ireturn, 1) := by decide +kernel
theorem dX3_cut_7 : decode cX3_cut 7 = .ok (.iload_n 2, 1) := by decide +kernel
theorem dX3_cut_8 : decode cX3_cut 8 = .ok (.iconst 1, 1) := by decide +kernel
theorem dX3_cut_9 : decode cX3_cut 9 = .ok (.if_icmp .ne 8, 3) := by decide +kernel
theorem dX3_cut_12 : decode cX3_cut 12 = .ok (.iload_n 1, 1) := by decide +kernel
theorem dX3_cut_13 : decode cX3_cut 13 = .ok (.i2s, 1) := by decide +kernel
theorem dX3_cut_14 : decode cX3_cut 14 = .ok (.goto 4, 3) := by decide +kernel
theorem dX3_cut_17 : decode cX3_cut 17 = .ok (.iload_n 1, 1) := by decide +kernel
theorem dX3_cut_18 : decode cX3_cut 18 = .ok (.ireturn, 1) := by decide +kernel
theorem dX3_whyUnread_0 : decode cX3_whyUnread 0 = .ok (.aload_n 0, 1) := by decide +kernel
theorem dX3_whyUnread_1 : decode cX3_whyUnread 1 = .ok (.iload_n 1, 1) := by decide +kernel
theorem dX3_whyUnread_2 : decode cX3_whyUnread 2 = .ok (.iload_n 3, 1) := by decide +kernel
theorem dX3_whyUnread_3 : decode cX3_whyUnread 3 = .ok (.invokevirtual 40, 3) := by decide +kernel
theorem dX3_whyUnread_6 : decode cX3_whyUnread 6 = .ok (.istore 4, 2) := by decide +kernel
theorem dX3_whyUnread_8 : decode cX3_whyUnread 8 = .ok (.iload 4, 2) := by decide +kernel
theorem dX3_whyUnread_10 : decode cX3_whyUnread 10 = .ok (.ifCond .eq 6, 3) := by decide +kernel
theorem dX3_whyUnread_13 : decode cX3_whyUnread 13 = .ok (.iload 4, 2) := by decide +kernel
theorem dX3_whyUnread_15 : decode cX3_whyUnread 15 = .ok (.ireturn, 1) := by decide +kernel
theorem dX3_whyUnread_16 : decode cX3_whyUnread 16 = .ok (.iload_n 2, 1) := by decide +kernel
theorem dX3_whyUnread_17 : decode cX3_whyUnread 17 = .ok (.ifCond .lt 13, 3) := by decide +kernel
theorem dX3_whyUnread_20 : decode cX3_whyUnread 20 = .ok (.iload_n 2, 1) := by decide +kernel
theorem dX3_whyUnread_21 : decode cX3_whyUnread 21 = .ok (.aload_n 0, 1) := by decide +kernel
theorem dX3_whyUnread_22 : decode cX3_whyUnread 22 = .ok (.getfield 16, 3) := by decide +kernel
theorem dX3_whyUnread_25 : decode cX3_whyUnread 25 = .ok (.iload_n 1, 1) := by decide +kernel
theorem dX3_whyUnread_26 : decode cX3_whyUnread 26 = .ok (.iaload, 1) := by decide +kernel
theorem dX3_whyUnread_27 : decode cX3_whyUnread 27 = .ok (.if_icmp .lt 8, 3) := by decide +kernel
theorem dX3_whyUnread_30 : decode cX3_whyUnread 30 = .ok (.bipush (-13), 2) := by decide +kernel
theorem dX3_whyUnread_32 : decode cX3_whyUnread 32 = .ok (.goto 4, 3) := by decide +kernel
theorem dX3_whyUnread_35 : decode cX3_whyUnread 35 = .ok (.iconst 0, 1) := by decide +kernel
theorem dX3_whyUnread_36 : decode cX3_whyUnread 36 = .ok (.ireturn, 1) := by decide +kernel
theorem dX3_whyUntaken_0 : decode cX3_whyUntaken 0 = .ok (.aload_n 0, 1) := by decide +kernel
theorem dX3_whyUntaken_1 : decode cX3_whyUntaken 1 = .ok (.iload_n 1, 1) := by decide +kernel
theorem dX3_whyUntaken_2 : decode cX3_whyUntaken 2 = .ok (.invokevirtual 29, 3) := by decide +kernel
theorem dX3_whyUntaken_5 : decode cX3_whyUntaken 5 = .ok (.ifCond .ne 5, 3) := by decide +kernel
theorem dX3_whyUntaken_8 : decode cX3_whyUntaken 8 = .ok (.iconst (-1), 1) := by decide +kernel
theorem dX3_whyUntaken_9 : decode cX3_whyUntaken 9 = .ok (.ireturn, 1) := by decide +kernel
theorem dX3_whyUntaken_10 : decode cX3_whyUntaken 10 = .ok (.aload_n 0, 1) := by decide +kernel
theorem dX3_whyUntaken_11 : decode cX3_whyUntaken 11 = .ok (.iload_n 2, 1) := by decide +kernel
theorem dX3_whyUntaken_12 : decode cX3_whyUntaken 12 = .ok (.invokevirtual 33, 3) := by decide +kernel
theorem dX3_whyUntaken_15 : decode cX3_whyUntaken 15 = .ok (.ifCond .ne 6, 3) := by decide +kernel
theorem dX3_whyUntaken_18 : decode cX3_whyUntaken 18 = .ok (.bipush (-2), 2) := by decide +kernel
theorem dX3_whyUntaken_20 : decode cX3_whyUntaken 20 = .ok (.ireturn, 1) := by decide +kernel
theorem dX3_whyUntaken_21 : decode cX3_whyUntaken 21 = .ok (.aload_n 0, 1) := by decide +kernel
theorem dX3_whyUntaken_22 : decode cX3_whyUntaken 22 = .ok (.getfield 16, 3) := by decide +kernel
theorem dX3_whyUntaken_25 : decode cX3_whyUntaken 25 = .ok (.iload_n 1, 1) := by decide +kernel
theorem dX3_whyUntaken_26 : decode cX3_whyUntaken 26 = .ok (.iaload, 1) := by decide +kernel
theorem dX3_whyUntaken_27 : decode cX3_whyUntaken 27 = .ok (.iconst (-1), 1) := by decide +kernel
theorem dX3_whyUntaken_28 : decode cX3_whyUntaken 28 = .ok (.if_icmp .ne 6, 3) := by decide +kernel
theorem dX3_whyUntaken_31 : decode cX3_whyUntaken 31 = .ok (.bipush (-11), 2) := by decide +kernel
theorem dX3_whyUntaken_33 : decode cX3_whyUntaken 33 = .ok (.ireturn, 1) := by decide +kernel
theorem dX3_whyUntaken_34 : decode cX3_whyUntaken 34 = .ok (.aload_n 0, 1) := by decide +kernel
theorem dX3_whyUntaken_35 : decode cX3_whyUntaken 35 = .ok (.getfield 20, 3) := by decide +kernel
theorem dX3_whyUntaken_38 : decode cX3_whyUntaken 38 = .ok (.iload_n 1, 1) := by decide +kernel
theorem dX3_whyUntaken_39 : decode cX3_whyUntaken 39 = .ok (.iaload, 1) := by decide +kernel
theorem dX3_whyUntaken_40 : decode cX3_whyUntaken 40 = .ok (.iload_n 2, 1) := by decide +kernel
theorem dX3_whyUntaken_41 : decode cX3_whyUntaken 41 = .ok (.if_icmp .ne 7, 3) := by decide +kernel
theorem dX3_whyUntaken_44 : decode cX3_whyUntaken 44 = .ok (.iconst 0, 1) := by decide +kernel
theorem dX3_whyUntaken_45 : decode cX3_whyUntaken 45 = .ok (.goto 5, 3) := by decide +kernel
theorem dX3_whyUntaken_48 : decode cX3_whyUntaken 48 = .ok (.bipush (-12), 2) := by decide +kernel
theorem dX3_whyUntaken_50 : decode cX3_whyUntaken 50 = .ok (.ireturn, 1) := by decide +kernel
theorem dX3_take_0 : decode cX3_take 0 = .ok (.aload_n 0, 1) := by decide +kernel
theorem dX3_take_1 : decode cX3_take 1 = .ok (.iload_n 1, 1) := by decide +kernel
theorem dX3_take_2 : decode cX3_take 2 = .ok (.iload_n 2, 1) := by decide +kernel
theorem dX3_take_3 : decode cX3_take 3 = .ok (.invokevirtual 40, 3) := by decide +kernel
theorem dX3_take_6 : decode cX3_take 6 = .ok (.istore 6, 2) := by decide +kernel
theorem dX3_take_8 : decode cX3_take 8 = .ok (.iload 6, 2) := by decide +kernel
theorem dX3_take_10 : decode cX3_take 10 = .ok (.ifCond .eq 6, 3) := by decide +kernel
theorem dX3_take_13 : decode cX3_take 13 = .ok (.iload 6, 2) := by decide +kernel
theorem dX3_take_15 : decode cX3_take 15 = .ok (.ireturn, 1) := by decide +kernel
theorem dX3_take_16 : decode cX3_take 16 = .ok (.iload 4, 2) := by decide +kernel
theorem dX3_take_18 : decode cX3_take 18 = .ok (.ifCond .ge 6, 3) := by decide +kernel
theorem dX3_take_21 : decode cX3_take 21 = .ok (.bipush (-14), 2) := by decide +kernel
theorem dX3_take_23 : decode cX3_take 23 = .ok (.ireturn, 1) := by decide +kernel
theorem dX3_take_24 : decode cX3_take 24 = .ok (.aload_n 0, 1) := by decide +kernel
theorem dX3_take_25 : decode cX3_take 25 = .ok (.iload_n 1, 1) := by decide +kernel
theorem dX3_take_26 : decode cX3_take 26 = .ok (.iload_n 3, 1) := by decide +kernel
theorem dX3_take_27 : decode cX3_take 27 = .ok (.iload 4, 2) := by decide +kernel
theorem dX3_take_29 : decode cX3_take 29 = .ok (.invokevirtual 43, 3) := by decide +kernel
theorem dX3_take_32 : decode cX3_take 32 = .ok (.ifCond .eq 6, 3) := by decide +kernel
theorem dX3_take_35 : decode cX3_take 35 = .ok (.bipush (-13), 2) := by decide +kernel
theorem dX3_take_37 : decode cX3_take 37 = .ok (.ireturn, 1) := by decide +kernel
theorem dX3_take_38 : decode cX3_take 38 = .ok (.aload_n 0, 1) := by decide +kernel
theorem dX3_take_39 : decode cX3_take 39 = .ok (.getfield 11, 3) := by decide +kernel
theorem dX3_take_42 : decode cX3_take 42 = .ok (.iload_n 1, 1) := by decide +kernel
theorem dX3_take_43 : decode cX3_take 43 = .ok (.aaload, 1) := by decide +kernel
theorem dX3_take_44 : decode cX3_take 44 = .ok (.iload_n 3, 1) := by decide +kernel
theorem dX3_take_45 : decode cX3_take 45 = .ok (.aload 5, 2) := by decide +kernel
theorem dX3_take_47 : decode cX3_take 47 = .ok (.iconst 0, 1) := by decide +kernel
theorem dX3_take_48 : decode cX3_take 48 = .ok (.iload 4, 2) := by decide +kernel
theorem dX3_take_50 : decode cX3_take 50 = .ok (.invokestatic 47, 3) := by decide +kernel
theorem dX3_take_53 : decode cX3_take 53 = .ok (.iconst 0, 1) := by decide +kernel
theorem dX3_take_54 : decode cX3_take 54 = .ok (.ireturn, 1) := by decide +kernel
theorem dX3_bring_0 : decode cX3_bring 0 = .ok (.aload_n 0, 1) := by decide +kernel
theorem dX3_bring_1 : decode cX3_bring 1 = .ok (.iload_n 1, 1) := by decide +kernel
theorem dX3_bring_2 : decode cX3_bring 2 = .ok (.invokevirtual 29, 3) := by decide +kernel
theorem dX3_bring_5 : decode cX3_bring 5 = .ok (.ifCond .eq 11, 3) := by decide +kernel
theorem dX3_bring_8 : decode cX3_bring 8 = .ok (.aload_n 0, 1) := by decide +kernel
theorem dX3_bring_9 : decode cX3_bring 9 = .ok (.iload_n 3, 1) := by decide +kernel
theorem dX3_bring_10 : decode cX3_bring 10 = .ok (.invokevirtual 29, 3) := by decide +kernel
theorem dX3_bring_13 : decode cX3_bring 13 = .ok (.ifCond .ne 5, 3) := by decide +kernel
theorem dX3_bring_16 : decode cX3_bring 16 = .ok (.iconst (-1), 1) := by decide +kernel
theorem dX3_bring_17 : decode cX3_bring 17 = .ok (.ireturn, 1) := by decide +kernel
theorem dX3_bring_18 : decode cX3_bring 18 = .ok (.aload_n 0, 1) := by decide +kernel
theorem dX3_bring_19 : decode cX3_bring 19 = .ok (.getfield 16, 3) := by decide +kernel
theorem dX3_bring_22 : decode cX3_bring 22 = .ok (.iload_n 1, 1) := by decide +kernel
theorem dX3_bring_23 : decode cX3_bring 23 = .ok (.iaload, 1) := by decide +kernel
theorem dX3_bring_24 : decode cX3_bring 24 = .ok (.iconst (-1), 1) := by decide +kernel
theorem dX3_bring_25 : decode cX3_bring 25 = .ok (.if_icmp .eq 13, 3) := by decide +kernel
theorem dX3_bring_28 : decode cX3_bring 28 = .ok (.aload_n 0, 1) := by decide +kernel
theorem dX3_bring_29 : decode cX3_bring 29 = .ok (.getfield 16, 3) := by decide +kernel
theorem dX3_bring_32 : decode cX3_bring 32 = .ok (.iload_n 3, 1) := by decide +kernel
theorem dX3_bring_33 : decode cX3_bring 33 = .ok (.iaload, 1) := by decide +kernel
theorem dX3_bring_34 : decode cX3_bring 34 = .ok (.iconst (-1), 1) := by decide +kernel
theorem dX3_bring_35 : decode cX3_bring 35 = .ok (.if_icmp .ne 6, 3) := by decide +kernel
theorem dX3_bring_38 : decode cX3_bring 38 = .ok (.bipush (-11), 2) := by decide +kernel
theorem dX3_bring_40 : decode cX3_bring 40 = .ok (.ireturn, 1) := by decide +kernel
theorem dX3_bring_41 : decode cX3_bring 41 = .ok (.aload_n 0, 1) := by decide +kernel
theorem dX3_bring_42 : decode cX3_bring 42 = .ok (.getfield 20, 3) := by decide +kernel
theorem dX3_bring_45 : decode cX3_bring 45 = .ok (.iload_n 1, 1) := by decide +kernel
theorem dX3_bring_46 : decode cX3_bring 46 = .ok (.iaload, 1) := by decide +kernel
theorem dX3_bring_47 : decode cX3_bring 47 = .ok (.aload_n 0, 1) := by decide +kernel
theorem dX3_bring_48 : decode cX3_bring 48 = .ok (.getfield 20, 3) := by decide +kernel
theorem dX3_bring_51 : decode cX3_bring 51 = .ok (.iload_n 3, 1) := by decide +kernel
theorem dX3_bring_52 : decode cX3_bring 52 = .ok (.iaload, 1) := by decide +kernel
theorem dX3_bring_53 : decode cX3_bring 53 = .ok (.if_icmp .eq 6, 3) := by decide +kernel
theorem dX3_bring_56 : decode cX3_bring 56 = .ok (.bipush (-12), 2) := by decide +kernel
theorem dX3_bring_58 : decode cX3_bring 58 = .ok (.ireturn, 1) := by decide +kernel
theorem dX3_bring_59 : decode cX3_bring 59 = .ok (.aload_n 0, 1) := by decide +kernel
theorem dX3_bring_60 : decode cX3_bring 60 = .ok (.iload_n 1, 1) := by decide +kernel
theorem dX3_bring_61 : decode cX3_bring 61 = .ok (.iload_n 2, 1) := by decide +kernel
theorem dX3_bring_62 : decode cX3_bring 62 = .ok (.iload 5, 2) := by decide +kernel
theorem dX3_bring_64 : decode cX3_bring 64 = .ok (.invokevirtual 43, 3) := by decide +kernel
theorem dX3_bring_67 : decode cX3_bring 67 = .ok (.ifCond .ne 15, 3) := by decide +kernel
theorem dX3_bring_70 : decode cX3_bring 70 = .ok (.aload_n 0, 1) := by decide +kernel
theorem dX3_bring_71 : decode cX3_bring 71 = .ok (.iload_n 3, 1) := by decide +kernel
theorem dX3_bring_72 : decode cX3_bring 72 = .ok (.iload 4, 2) := by decide +kernel
theorem dX3_bring_74 : decode cX3_bring 74 = .ok (.iload 5, 2) := by decide +kernel
theorem dX3_bring_76 : decode cX3_bring 76 = .ok (.invokevirtual 43, 3) := by decide +kernel
theorem dX3_bring_79 : decode cX3_bring 79 = .ok (.ifCond .eq 6, 3) := by decide +kernel
theorem dX3_bring_82 : decode cX3_bring 82 = .ok (.bipush (-13), 2) := by decide +kernel
theorem dX3_bring_84 : decode cX3_bring 84 = .ok (.ireturn, 1) := by decide +kernel
theorem dX3_bring_85 : decode cX3_bring 85 = .ok (.aload_n 0, 1) := by decide +kernel
theorem dX3_bring_86 : decode cX3_bring 86 = .ok (.getfield 11, 3) := by decide +kernel
theorem dX3_bring_89 : decode cX3_bring 89 = .ok (.iload_n 1, 1) := by decide +kernel
theorem dX3_bring_90 : decode cX3_bring 90 = .ok (.aaload, 1) := by decide +kernel
theorem dX3_bring_91 : decode cX3_bring 91 = .ok (.iload_n 2, 1) := by decide +kernel
theorem dX3_bring_92 : decode cX3_bring 92 = .ok (.aload_n 0, 1) := by decide +kernel
theorem dX3_bring_93 : decode cX3_bring 93 = .ok (.getfield 11, 3) := by decide +kernel
theorem dX3_bring_96 : decode cX3_bring 96 = .ok (.iload_n 3, 1) := by decide +kernel
theorem dX3_bring_97 : decode cX3_bring 97 = .ok (.aaload, 1) := by decide +kernel
theorem dX3_bring_98 : decode cX3_bring 98 = .ok (.iload 4, 2) := by decide +kernel
theorem dX3_bring_100 : decode cX3_bring 100 = .ok (.iload 5, 2) := by decide +kernel
theorem dX3_bring_102 : decode cX3_bring 102 = .ok (.invokestatic 47, 3) := by decide +kernel
theorem dX3_bring_105 : decode cX3_bring 105 = .ok (.iload 5, 2) := by decide +kernel
theorem dX3_bring_107 : decode cX3_bring 107 = .ok (.ireturn, 1) := by decide +kernel
theorem dX3_isBeyond_0 : decode cX3_isBeyond 0 = .ok (.iload_n 2, 1) := by decide +kernel
theorem dX3_isBeyond_1 : decode cX3_isBeyond 1 = .ok (.ifCond .lt 29, 3) := by decide +kernel
theorem dX3_isBeyond_4 : decode cX3_isBeyond 4 = .ok (.iload_n 3, 1) := by decide +kernel
theorem dX3_isBeyond_5 : decode cX3_isBeyond 5 = .ok (.ifCond .lt 25, 3) := by decide +kernel
theorem dX3_isBeyond_8 : decode cX3_isBeyond 8 = .ok (.iload_n 2, 1) := by decide +kernel
theorem dX3_isBeyond_9 : decode cX3_isBeyond 9 = .ok (.aload_n 0, 1) := by decide +kernel
theorem dX3_isBeyond_10 : decode cX3_isBeyond 10 = .ok (.getfield 16, 3) := by decide +kernel
theorem dX3_isBeyond_13 : decode cX3_isBeyond 13 = .ok (.iload_n 1, 1) := by decide +kernel
theorem dX3_isBeyond_14 : decode cX3_isBeyond 14 = .ok (.iaload, 1) := by decide +kernel
theorem dX3_isBeyond_15 : decode cX3_isBeyond 15 = .ok (.if_icmp .gt 15, 3) := by decide +kernel
theorem dX3_isBeyond_18 : decode cX3_isBeyond 18 = .ok (.iload_n 3, 1) := by decide +kernel
theorem dX3_isBeyond_19 : decode cX3_isBeyond 19 = .ok (.aload_n 0, 1) := by decide +kernel
theorem dX3_isBeyond_20 : decode cX3_isBeyond 20 = .ok (.getfield 16, 3) := by decide +kernel
theorem dX3_isBeyond_23 : decode cX3_isBeyond 23 = .ok (.iload_n 1, 1) := by decide +kernel
theorem dX3_isBeyond_24 : decode cX3_isBeyond 24 = .ok (.iaload, 1) := by decide +kernel
theorem dX3_isBeyond_25 : decode cX3_isBeyond 25 = .ok (.iload_n 2, 1) := by decide +kernel
theorem dX3_isBeyond_26 : decode cX3_isBeyond 26 = .ok (.isub, 1) := by decide +kernel
theorem dX3_isBeyond_27 : decode cX3_isBeyond 27 = .ok (.if_icmp .le 7, 3) := by decide +kernel
theorem dX3_isBeyond_30 : decode cX3_isBeyond 30 = .ok (.iconst 1, 1) := by decide +kernel
theorem dX3_isBeyond_31 : decode cX3_isBeyond 31 = .ok (.goto 4, 3) := by decide +kernel
theorem dX3_isBeyond_34 : decode cX3_isBeyond 34 = .ok (.iconst 0, 1) := by decide +kernel
theorem dX3_isBeyond_35 : decode cX3_isBeyond 35 = .ok (.ireturn, 1) := by decide +kernel
theorem dX4_init_0 : decode cX4_init 0 = .ok (.aload_n 0, 1) := by decide +kernel
theorem dX4_init_1 : decode cX4_init 1 = .ok (.invokespecial 3, 3) := by decide +kernel
theorem dX4_init_4 : decode cX4_init 4 = .ok (.aload_n 0, 1) := by decide +kernel
theorem dX4_init_5 : decode cX4_init 5 = .ok (.bipush 24, 2) := by decide +kernel
theorem dX4_init_7 : decode cX4_init 7 = .ok (.bipush 41, 2) := by decide +kernel
theorem dX4_init_9 : decode cX4_init 9 = .ok (.multianewarray 9 2, 4) := by decide +kernel
theorem dX4_init_13 : decode cX4_init 13 = .ok (.putfield 11, 3) := by decide +kernel
theorem dX4_init_16 : decode cX4_init 16 = .ok (.aload_n 0, 1) := by decide +kernel
theorem dX4_init_17 : decode cX4_init 17 = .ok (.bipush 24, 2) := by decide +kernel
theorem dX4_init_19 : decode cX4_init 19 = .ok (.newarray .int, 2) := by decide +kernel
theorem dX4_init_21 : decode cX4_init 21 = .ok (.putfield 16, 3) := by decide +kernel
theorem dX4_init_24 : decode cX4_init 24 = .ok (.aload_n 0, 1) := by decide +kernel
theorem dX4_init_25 : decode cX4_init 25 = .ok (.iconst 0, 1) := by decide +kernel
theorem dX4_init_26 : decode cX4_init 26 = .ok (.putfield 20, 3) := by decide +kernel
theorem dX4_init_29 : decode cX4_init 29 = .ok (.return_, 1) := by decide +kernel
theorem dX4_has_0 : decode cX4_has 0 = .ok (.iload_n 1, 1) := by decide +kernel
theorem dX4_has_1 : decode cX4_has 1 = .ok (.ifCond .lt 15, 3) := by decide +kernel
theorem dX4_has_4 : decode cX4_has 4 = .ok (.iload_n 1, 1) := by decide +kernel
theorem dX4_has_5 : decode cX4_has 5 = .ok (.aload_n 0, 1) := by decide +kernel
theorem dX4_has_6 : decode cX4_has 6 = .ok (.getfield 20, 3) := by decide +kernel
theorem dX4_has_9 : decode cX4_has 9 = .ok (.if_icmp .ge 7, 3) := by decide +kernel
theorem dX4_has_12 : decode cX4_has 12 = .ok (.iconst 1, 1) := by decide +kernel
theorem dX4_has_13 : decode cX4_has 13 = .ok (.goto 4, 3) := by decide +kernel
theorem dX4_has_16 : decode cX4_has 16 = .ok (.iconst 0, 1) := by decide +kernel
theorem dX4_has_17 : decode cX4_has 17 = .ok (.ireturn, 1) := by decide +kernel
theorem dX4_isFull_0 : decode cX4_isFull 0 = .ok (.aload_n 0, 1) := by decide +kernel
theorem dX4_isFull_1 : decode cX4_isFull 1 = .ok (.getfield 20, 3) := by decide +kernel
theorem dX4_isFull_4 : decode cX4_isFull 4 = .ok (.bipush 24, 2) := by decide +kernel
theorem dX4_isFull_6 : decode cX4_isFull 6 = .ok (.if_icmp .lt 7, 3) := by decide +kernel
theorem dX4_isFull_9 : decode cX4_isFull 9 = .ok (.iconst 1, 1) := by decide +kernel
theorem dX4_isFull_10 : decode cX4_isFull 10 = .ok (.goto 4, 3) := by decide +kernel
theorem dX4_isFull_13 : decode cX4_isFull 13 = .ok (.iconst 0, 1) := by decide +kernel
theorem dX4_isFull_14 : decode cX4_isFull 14 = .ok (.ireturn, 1) := by decide +kernel
theorem dX4_row_0 : decode cX4_row 0 = .ok (.aload_n 0, 1) := by decide +kernel
theorem dX4_row_1 : decode cX4_row 1 = .ok (.getfield 11, 3) := by decide +kernel
theorem dX4_row_4 : decode cX4_row 4 = .ok (.iload_n 1, 1) := by decide +kernel
theorem dX4_row_5 : decode cX4_row 5 = .ok (.aaload, 1) := by decide +kernel
theorem dX4_row_6 : decode cX4_row 6 = .ok (.areturn, 1) := by decide +kernel
theorem dX4_nextRow_0 : decode cX4_nextRow 0 = .ok (.aload_n 0, 1) := by decide +kernel
theorem dX4_nextRow_1 : decode cX4_nextRow 1 = .ok (.getfield 11, 3) := by decide +kernel
theorem dX4_nextRow_4 : decode cX4_nextRow 4 = .ok (.aload_n 0, 1) := by decide +kernel
theorem dX4_nextRow_5 : decode cX4_nextRow 5 = .ok (.getfield 20, 3) := by decide +kernel
theorem dX4_nextRow_8 : decode cX4_nextRow 8 = .ok (.aaload, 1) := by decide +kernel
theorem dX4_nextRow_9 : decode cX4_nextRow 9 = .ok (.areturn, 1) := by decide +kernel
theorem dX4_keepNext_0 : decode cX4_keepNext 0 = .ok (.aload_n 0, 1) := by decide +kernel
theorem dX4_keepNext_1 : decode cX4_keepNext 1 = .ok (.getfield 16, 3) := by decide +kernel
theorem dX4_keepNext_4 : decode cX4_keepNext 4 = .ok (.aload_n 0, 1) := by decide +kernel
theorem dX4_keepNext_5 : decode cX4_keepNext 5 = .ok (.getfield 20, 3) := by decide +kernel
theorem dX4_keepNext_8 : decode cX4_keepNext 8 = .ok (.iload_n 1, 1) := by decide +kernel
theorem dX4_keepNext_9 : decode cX4_keepNext 9 = .ok (.iastore, 1) := by decide +kernel
theorem dX4_keepNext_10 : decode cX4_keepNext 10 = .ok (.aload_n 0, 1) := by decide +kernel
theorem dX4_keepNext_11 : decode cX4_keepNext 11 = .ok (.dup, 1) := by decide +kernel
theorem dX4_keepNext_12 : decode cX4_keepNext 12 = .ok (.getfield 20, 3) := by decide +kernel
theorem dX4_keepNext_15 : decode cX4_keepNext 15 = .ok (.iconst 1, 1) := by decide +kernel
theorem dX4_keepNext_16 : decode cX4_keepNext 16 = .ok (.iadd, 1) := by decide +kernel
theorem dX4_keepNext_17 : decode cX4_keepNext 17 = .ok (.putfield 20, 3) := by decide +kernel
theorem dX4_keepNext_20 : decode cX4_keepNext 20 = .ok (.aload_n 0, 1) := by decide +kernel
theorem dX4_keepNext_21 : decode cX4_keepNext 21 = .ok (.getfield 20, 3) := by decide +kernel
theorem dX4_keepNext_24 : decode cX4_keepNext 24 = .ok (.iconst 1, 1) := by decide +kernel
theorem dX4_keepNext_25 : decode cX4_keepNext 25 = .ok (.isub, 1) := by decide +kernel
theorem dX4_keepNext_26 : decode cX4_keepNext 26 = .ok (.ireturn, 1) := by decide +kernel
theorem dX5_init_0 : decode cX5_init 0 = .ok (.aload_n 0, 1) := by decide +kernel
theorem dX5_init_1 : decode cX5_init 1 = .ok (.invokespecial 3, 3) := by decide +kernel
theorem dX5_init_4 : decode cX5_init 4 = .ok (.aload_n 0, 1) := by decide +kernel
theorem dX5_init_5 : decode cX5_init 5 = .ok (.bipush 60, 2) := by decide +kernel
theorem dX5_init_7 : decode cX5_init 7 = .ok (.newarray .int, 2) := by decide +kernel
theorem dX5_init_9 : decode cX5_init 9 = .ok (.putfield 9, 3) := by decide +kernel
theorem dX5_init_12 : decode cX5_init 12 = .ok (.aload_n 0, 1) := by decide +kernel
theorem dX5_init_13 : decode cX5_init 13 = .ok (.bipush 41, 2) := by decide +kernel
theorem dX5_init_15 : decode cX5_init 15 = .ok (.newarray .int, 2) := by decide +kernel
theorem dX5_init_17 : decode cX5_init 17 = .ok (.putfield 15, 3) := by decide +kernel
theorem dX5_init_20 : decode cX5_init 20 = .ok (.aload_n 0, 1) := by decide +kernel
theorem dX5_init_21 : decode cX5_init 21 = .ok (.bipush 41, 2) := by decide +kernel
theorem dX5_init_23 : decode cX5_init 23 = .ok (.newarray .int, 2) := by decide +kernel
theorem dX5_init_25 : decode cX5_init 25 = .ok (.putfield 18, 3) := by decide +kernel
theorem dX5_init_28 : decode cX5_init 28 = .ok (.aload_n 0, 1) := by decide +kernel
theorem dX5_init_29 : decode cX5_init 29 = .ok (.iconst 0, 1) := by decide +kernel
theorem dX5_init_30 : decode cX5_init 30 = .ok (.putfield 21, 3) := by decide +kernel
theorem dX5_init_33 : decode cX5_init 33 = .ok (.aload_n 0, 1) := by decide +kernel
theorem dX5_init_34 : decode cX5_init 34 = .ok (.iconst 0, 1) := by decide +kernel
theorem dX5_init_35 : decode cX5_init 35 = .ok (.putfield 25, 3) := by decide +kernel
theorem dX5_init_38 : decode cX5_init 38 = .ok (.aload_n 0, 1) := by decide +kernel
theorem dX5_init_39 : decode cX5_init 39 = .ok (.iconst 0, 1) := by decide +kernel
theorem dX5_init_40 : decode cX5_init 40 = .ok (.putfield 28, 3) := by decide +kernel
theorem dX5_init_43 : decode cX5_init 43 = .ok (.aload_n 0, 1) := by decide +kernel
theorem dX5_init_44 : decode cX5_init 44 = .ok (.iconst 0, 1) := by decide +kernel
theorem dX5_init_45 : decode cX5_init 45 = .ok (.putfield 31, 3) := by decide +kernel
theorem dX5_init_48 : decode cX5_init 48 = .ok (.aload_n 0, 1) := by decide +kernel
theorem dX5_init_49 : decode cX5_init 49 = .ok (.iconst (-1), 1) := by decide +kernel
theorem dX5_init_50 : decode cX5_init 50 = .ok (.putfield 34, 3) := by decide +kernel
theorem dX5_init_53 : decode cX5_init 53 = .ok (.return_, 1) := by decide +kernel
theorem dX5_read_0 : decode cX5_read 0 = .ok (.aload_n 1, 1) := by decide +kernel
theorem dX5_read_1 : decode cX5_read 1 = .ok (.iconst 0, 1) := by decide +kernel
theorem dX5_read_2 : decode cX5_read 2 = .ok (.aload_n 0, 1) := by decide +kernel
theorem dX5_read_3 : decode cX5_read 3 = .ok (.getfield 9, 3) := by decide +kernel
theorem dX5_read_6 : decode cX5_read 6 = .ok (.iconst 0, 1) := by decide +kernel
theorem dX5_read_7 : decode cX5_read 7 = .ok (.iload_n 2, 1) := by decide +kernel
theorem dX5_read_8 : decode cX5_read 8 = .ok (.invokestatic 37, 3) := by decide +kernel
theorem dX5_read_11 : decode cX5_read 11 = .ok (.aload_n 0, 1) := by decide +kernel
theorem dX5_read_12 : decode cX5_read 12 = .ok (.iload_n 2, 1) := by decide +kernel
theorem dX5_read_13 : decode cX5_read 13 = .ok (.putfield 25, 3) := by decide +kernel
theorem dX5_read_16 : decode cX5_read 16 = .ok (.aload_n 0, 1) := by decide +kernel
theorem dX5_read_17 : decode cX5_read 17 = .ok (.iconst 0, 1) := by decide +kernel
theorem dX5_read_18 : decode cX5_read 18 = .ok (.putfield 28, 3) := by decide +kernel
theorem dX5_read_21 : decode cX5_read 21 = .ok (.aload_n 0, 1) := by decide +kernel
theorem dX5_read_22 : decode cX5_read 22 = .ok (.iconst 0, 1) := by decide +kernel
theorem dX5_read_23 : decode cX5_read 23 = .ok (.putfield 31, 3) := by decide +kernel
theorem dX5_read_26 : decode cX5_read 26 = .ok (.aload_n 0, 1) := by decide +kernel
theorem dX5_read_27 : decode cX5_read 27 = .ok (.iconst (-1), 1) := by decide +kernel
theorem dX5_read_28 : decode cX5_read 28 = .ok (.putfield 34, 3) := by decide +kernel
theorem dX5_read_31 : decode cX5_read 31 = .ok (.aload_n 0, 1) := by decide +kernel
theorem dX5_read_32 : decode cX5_read 32 = .ok (.invokevirtual 43, 3) := by decide +kernel
theorem dX5_read_35 : decode cX5_read 35 = .ok (.aload_n 0, 1) := by decide +kernel
theorem dX5_read_36 : decode cX5_read 36 = .ok (.getfield 15, 3) := by decide +kernel
theorem dX5_read_39 : decode cX5_read 39 = .ok (.aload_n 0, 1) := by decide +kernel
theorem dX5_read_40 : decode cX5_read 40 = .ok (.getfield 18, 3) := by decide +kernel
theorem dX5_read_43 : decode cX5_read 43 = .ok (.invokestatic 46, 3) := by decide +kernel
theorem dX5_read_46 : decode cX5_read 46 = .ok (.iconst 1, 1) := by decide +kernel
theorem dX5_read_47 : decode cX5_read 47 = .ok (.istore_n 3, 1) := by decide +kernel
theorem dX5_read_48 : decode cX5_read 48 = .ok (.iload_n 3, 1) := by decide +kernel
theorem dX5_read_49 : decode cX5_read 49 = .ok (.bipush 6, 2) := by decide +kernel
theorem dX5_read_51 : decode cX5_read 51 = .ok (.if_icmp .ge 28, 3) := by decide +kernel
theorem dX5_read_54 : decode cX5_read 54 = .ok (.aload_n 0, 1) := by decide +kernel
theorem dX5_read_55 : decode cX5_read 55 = .ok (.invokevirtual 52, 3) := by decide +kernel
theorem dX5_read_58 : decode cX5_read 58 = .ok (.ifCond .eq 21, 3) := by decide +kernel
theorem dX5_read_61 : decode cX5_read 61 = .ok (.aload_n 0, 1) := by decide +kernel
theorem dX5_read_62 : decode cX5_read 62 = .ok (.invokevirtual 56, 3) := by decide +kernel
theorem dX5_read_65 : decode cX5_read 65 = .ok (.aload_n 0, 1) := by decide +kernel
theorem dX5_read_66 : decode cX5_read 66 = .ok (.invokevirtual 43, 3) := by decide +kernel
theorem dX5_read_69 : decode cX5_read 69 = .ok (.aload_n 0, 1) := by decide +kernel
theorem dX5_read_70 : decode cX5_read 70 = .ok (.invokevirtual 59, 3) := by decide +kernel
theorem dX5_read_73 : decode cX5_read 73 = .ok (.iinc 3 1, 3) := by decide +kernel
theorem dX5_read_76 : decode cX5_read 76 = .ok (.goto (-28), 3) := by decide +kernel
theorem dX5_read_79 : decode cX5_read 79 = .ok (.aload_n 0, 1) := by decide +kernel
theorem dX5_read_80 : decode cX5_read 80 = .ok (.invokevirtual 52, 3) := by decide +kernel
theorem dX5_read_83 : decode cX5_read 83 = .ok (.ifCond .eq 11, 3) := by decide +kernel
theorem dX5_read_86 : decode cX5_read 86 = .ok (.aload_n 0, 1) := by decide +kernel
theorem dX5_read_87 : decode cX5_read 87 = .ok (.aload_n 0, 1) := by decide +kernel
theorem dX5_read_88 : decode cX5_read 88 = .ok (.getfield 28, 3) := by decide +kernel
theorem dX5_read_91 : decode cX5_read 91 = .ok (.putfield 34, 3) := by decide +kernel
theorem dX5_read_94 : decode cX5_read 94 = .ok (.aload_n 0, 1) := by decide +kernel
theorem dX5_read_95 : decode cX5_read 95 = .ok (.getfield 34, 3) := by decide +kernel
theorem dX5_read_98 : decode cX5_read 98 = .ok (.ireturn, 1) := by decide +kernel
theorem dX5_goesOn_0 : decode cX5_goesOn 0 = .ok (.aload_n 0, 1) := by decide +kernel
theorem dX5_goesOn_1 : decode cX5_goesOn 1 = .ok (.getfield 34, 3) := by decide +kernel
theorem dX5_goesOn_4 : decode cX5_goesOn 4 = .ok (.iconst (-1), 1) := by decide +kernel
theorem dX5_goesOn_5 : decode cX5_goesOn 5 = .ok (.if_icmp .ne 18, 3) := by decide +kernel
theorem dX5_goesOn_8 : decode cX5_goesOn 8 = .ok (.aload_n 0, 1) := by decide +kernel
theorem dX5_goesOn_9 : decode cX5_goesOn 9 = .ok (.getfield 28, 3) := by decide +kernel
theorem dX5_goesOn_12 : decode cX5_goesOn 12 = .ok (.aload_n 0, 1) := by decide +kernel
theorem dX5_goesOn_13 : decode cX5_goesOn 13 = .ok (.getfield 25, 3) := by decide +kernel
theorem dX5_goesOn_16 : decode cX5_goesOn 16 = .ok (.if_icmp .ge 7, 3) := by decide +kernel
theorem dX5_goesOn_19 : decode cX5_goesOn 19 = .ok (.iconst 1, 1) := by decide +kernel
theorem dX5_goesOn_20 : decode cX5_goesOn 20 = .ok (.goto 4, 3) := by decide +kernel
theorem dX5_goesOn_23 : decode cX5_goesOn 23 = .ok (.iconst 0, 1) := by decide +kernel
theorem dX5_goesOn_24 : decode cX5_goesOn 24 = .ok (.ireturn, 1) := by decide +kernel
theorem dX5_readSign_0 : decode cX5_readSign 0 = .ok (.aload_n 0, 1) := by decide +kernel
theorem dX5_readSign_1 : decode cX5_readSign 1 = .ok (.invokevirtual 62, 3) := by decide +kernel
theorem dX5_readSign_4 : decode cX5_readSign 4 = .ok (.istore_n 1, 1) := by decide +kernel
theorem dX5_readSign_5 : decode cX5_readSign 5 = .ok (.iload_n 1, 1) := by decide +kernel
theorem dX5_readSign_6 : decode cX5_readSign 6 = .ok (.bipush 38, 2) := by decide +kernel
theorem dX5_readSign_8 : decode cX5_readSign 8 = .ok (.if_icmp .eq 9, 3) := by decide +kernel
theorem dX5_readSign_11 : decode cX5_readSign 11 = .ok (.iload_n 1, 1) := by decide +kernel
theorem dX5_readSign_12 : decode cX5_readSign 12 = .ok (.bipush 43, 2) := by decide +kernel
theorem dX5_readSign_14 : decode cX5_readSign 14 = .ok (.if_icmp .ne 7, 3) := by decide +kernel
theorem dX5_readSign_17 : decode cX5_readSign 17 = .ok (.iconst 1, 1) := by decide +kernel
theorem dX5_readSign_18 : decode cX5_readSign 18 = .ok (.goto 4, 3) := by decide +kernel
theorem dX5_readSign_21 : decode cX5_readSign 21 = .ok (.iconst 0, 1) := by decide +kernel
theorem dX5_readSign_22 : decode cX5_readSign 22 = .ok (.istore_n 2, 1) := by decide +kernel
theorem dX5_readSign_23 : decode cX5_readSign 23 = .ok (.iload_n 2, 1) := by decide +kernel
theorem dX5_readSign_24 : decode cX5_readSign 24 = .ok (.ifCond .eq 36, 3) := by decide +kernel
theorem dX5_readSign_27 : decode cX5_readSign 27 = .ok (.aload_n 0, 1) := by decide +kernel
theorem dX5_readSign_28 : decode cX5_readSign 28 = .ok (.getfield 31, 3) := by decide +kernel
theorem dX5_readSign_31 : decode cX5_readSign 31 = .ok (.ifCond .eq 11, 3) := by decide +kernel
theorem dX5_readSign_34 : decode cX5_readSign 34 = .ok (.aload_n 0, 1) := by decide +kernel
theorem dX5_readSign_35 : decode cX5_readSign 35 = .ok (.getfield 31, 3) := by decide +kernel
theorem dX5_readSign_38 : decode cX5_readSign 38 = .ok (.iload_n 1, 1) := by decide +kernel
theorem dX5_readSign_39 : decode cX5_readSign 39 = .ok (.if_icmp .ne 21, 3) := by decide +kernel
theorem dX5_readSign_42 : decode cX5_readSign 42 = .ok (.aload_n 0, 1) := by decide +kernel
theorem dX5_readSign_43 : decode cX5_readSign 43 = .ok (.iload_n 1, 1) := by decide +kernel
theorem dX5_readSign_44 : decode cX5_readSign 44 = .ok (.putfield 31, 3) := by decide +kernel
theorem dX5_readSign_47 : decode cX5_readSign 47 = .ok (.aload_n 0, 1) := by decide +kernel
theorem dX5_readSign_48 : decode cX5_readSign 48 = .ok (.dup, 1) := by decide +kernel
theorem dX5_readSign_49 : decode cX5_readSign 49 = .ok (.getfield 28, 3) := by decide +kernel
theorem dX5_readSign_52 : decode cX5_readSign 52 = .ok (.iconst 1, 1) := by decide +kernel
theorem dX5_readSign_53 : decode cX5_readSign 53 = .ok (.iadd, 1) := by decide +kernel
theorem dX5_readSign_54 : decode cX5_readSign 54 = .ok (.putfield 28, 3) := by decide +kernel
theorem dX5_readSign_57 : decode cX5_readSign 57 = .ok (.goto 11, 3) := by decide +kernel
theorem dX5_readSign_60 : decode cX5_readSign 60 = .ok (.aload_n 0, 1) := by decide +kernel
theorem dX5_readSign_61 : decode cX5_readSign 61 = .ok (.aload_n 0, 1) := by decide +kernel
theorem dX5_readSign_62 : decode cX5_readSign 62 = .ok (.getfield 28, 3) := by decide +kernel
theorem dX5_readSign_65 : decode cX5_readSign 65 = .ok (.putfield 34, 3) := by decide +kernel
theorem dX5_readSign_68 : decode cX5_readSign 68 = .ok (.return_, 1) := by decide +kernel
theorem dX5_readItem_0 : decode cX5_readItem 0 = .ok (.aload_n 0, 1) := by decide +kernel
theorem dX5_readItem_1 : decode cX5_readItem 1 = .ok (.getfield 34, 3) := by decide +kernel
theorem dX5_readItem_4 : decode cX5_readItem 4 = .ok (.iconst (-1), 1) := by decide +kernel
theorem dX5_readItem_5 : decode cX5_readItem 5 = .ok (.if_icmp .eq 4, 3) := by decide +kernel
theorem dX5_readItem_8 : decode cX5_readItem 8 = .ok (.return_, 1) := by decide +kernel
theorem dX5_readItem_9 : decode cX5_readItem 9 = .ok (.aload_n 0, 1) := by decide +kernel
theorem dX5_readItem_10 : decode cX5_readItem 10 = .ok (.invokevirtual 62, 3) := by decide +kernel
theorem dX5_readItem_13 : decode cX5_readItem 13 = .ok (.istore_n 1, 1) := by decide +kernel
theorem dX5_readItem_14 : decode cX5_readItem 14 = .ok (.iload_n 1, 1) := by decide +kernel
theorem dX5_readItem_15 : decode cX5_readItem 15 = .ok (.bipush 98, 2) := by decide +kernel
theorem dX5_readItem_17 : decode cX5_readItem 17 = .ok (.if_icmp .ne 41, 3) := by decide +kernel
theorem dX5_readItem_20 : decode cX5_readItem 20 = .ok (.aload_n 0, 1) := by decide +kernel
theorem dX5_readItem_21 : decode cX5_readItem 21 = .ok (.dup, 1) := by decide +kernel
theorem dX5_readItem_22 : decode cX5_readItem 22 = .ok (.getfield 28, 3) := by decide +kernel
theorem dX5_readItem_25 : decode cX5_readItem 25 = .ok (.iconst 1, 1) := by decide +kernel
theorem dX5_readItem_26 : decode cX5_readItem 26 = .ok (.iadd, 1) := by decide +kernel
theorem dX5_readItem_27 : decode cX5_readItem 27 = .ok (.putfield 28, 3) := by decide +kernel
theorem dX5_readItem_30 : decode cX5_readItem 30 = .ok (.aload_n 0, 1) := by decide +kernel
theorem dX5_readItem_31 : decode cX5_readItem 31 = .ok (.sipush 9999, 3) := by decide +kernel
theorem dX5_readItem_34 : decode cX5_readItem 34 = .ok (.invokevirtual 66, 3) := by decide +kernel
theorem dX5_readItem_37 : decode cX5_readItem 37 = .ok (.istore_n 2, 1) := by decide +kernel
theorem dX5_readItem_38 : decode cX5_readItem 38 = .ok (.iload_n 2, 1) := by decide +kernel
theorem dX5_readItem_39 : decode cX5_readItem 39 = .ok (.aload_n 0, 1) := by decide +kernel
theorem dX5_readItem_40 : decode cX5_readItem 40 = .ok (.invokevirtual 70, 3) := by decide +kernel
theorem dX5_readItem_43 : decode cX5_readItem 43 = .ok (.aload_n 0, 1) := by decide +kernel
theorem dX5_readItem_44 : decode cX5_readItem 44 = .ok (.getfield 15, 3) := by decide +kernel
theorem dX5_readItem_47 : decode cX5_readItem 47 = .ok (.invokestatic 73, 3) := by decide +kernel
theorem dX5_readItem_50 : decode cX5_readItem 50 = .ok (.aload_n 0, 1) := by decide +kernel
theorem dX5_readItem_51 : decode cX5_readItem 51 = .ok (.iconst 1, 1) := by decide +kernel
theorem dX5_readItem_52 : decode cX5_readItem 52 = .ok (.putfield 21, 3) := by decide +kernel
theorem dX5_readItem_55 : decode cX5_readItem 55 = .ok (.goto 63, 3) := by decide +kernel
theorem dX5_readItem_58 : decode cX5_readItem 58 = .ok (.iload_n 1, 1) := by decide +kernel
theorem dX5_readItem_59 : decode cX5_readItem 59 = .ok (.bipush 108, 2) := by decide +kernel
theorem dX5_readItem_61 : decode cX5_readItem 61 = .ok (.if_icmp .ne 40, 3) := by decide +kernel
theorem dX5_readItem_64 : decode cX5_readItem 64 = .ok (.aload_n 0, 1) := by decide +kernel
theorem dX5_readItem_65 : decode cX5_readItem 65 = .ok (.dup, 1) := by decide +kernel
theorem dX5_readItem_66 : decode cX5_readItem 66 = .ok (.getfield 28, 3) := by decide +kernel
theorem dX5_readItem_69 : decode cX5_readItem 69 = .ok (.iconst 1, 1) := by decide +kernel
theorem dX5_readItem_70 : decode cX5_readItem 70 = .ok (.iadd, 1) := by decide +kernel
theorem dX5_readItem_71 : decode cX5_readItem 71 = .ok (.putfield 28, 3) := by decide +kernel
theorem dX5_readItem_74 : decode cX5_readItem 74 = .ok (.aload_n 0, 1) := by decide +kernel
theorem dX5_readItem_75 : decode cX5_readItem 75 = .ok (.bipush 40, 2) := by decide +kernel
theorem dX5_readItem_77 : decode cX5_readItem 77 = .ok (.invokevirtual 66, 3) := by decide +kernel
theorem dX5_readItem_80 : decode cX5_readItem 80 = .ok (.istore_n 2, 1) := by decide +kernel
theorem dX5_readItem_81 : decode cX5_readItem 81 = .ok (.iload_n 2, 1) := by decide +kernel
theorem dX5_readItem_82 : decode cX5_readItem 82 = .ok (.aload_n 0, 1) := by decide +kernel
theorem dX5_readItem_83 : decode cX5_readItem 83 = .ok (.invokevirtual 70, 3) := by decide +kernel
theorem dX5_readItem_86 : decode cX5_readItem 86 = .ok (.aload_n 0, 1) := by decide +kernel
theorem dX5_readItem_87 : decode cX5_readItem 87 = .ok (.getfield 15, 3) := by decide +kernel
theorem dX5_readItem_90 : decode cX5_readItem 90 = .ok (.invokestatic 77, 3) := by decide +kernel
theorem dX5_readItem_93 : decode cX5_readItem 93 = .ok (.aload_n 0, 1) := by decide +kernel
theorem dX5_readItem_94 : decode cX5_readItem 94 = .ok (.iconst 2, 1) := by decide +kernel
theorem dX5_readItem_95 : decode cX5_readItem 95 = .ok (.putfield 21, 3) := by decide +kernel
theorem dX5_readItem_98 : decode cX5_readItem 98 = .ok (.goto 20, 3) := by decide +kernel
theorem dX5_readItem_101 : decode cX5_readItem 101 = .ok (.iconst 0, 1) := by decide +kernel
theorem dX5_readItem_102 : decode cX5_readItem 102 = .ok (.aload_n 0, 1) := by decide +kernel
theorem dX5_readItem_103 : decode cX5_readItem 103 = .ok (.invokevirtual 70, 3) := by decide +kernel
theorem dX5_readItem_106 : decode cX5_readItem 106 = .ok (.aload_n 0, 1) := by decide +kernel
theorem dX5_readItem_107 : decode cX5_readItem 107 = .ok (.getfield 15, 3) := by decide +kernel
theorem dX5_readItem_110 : decode cX5_readItem 110 = .ok (.invokestatic 77, 3) := by decide +kernel
theorem dX5_readItem_113 : decode cX5_readItem 113 = .ok (.aload_n 0, 1) := by decide +kernel
theorem dX5_readItem_114 : decode cX5_readItem 114 = .ok (.iconst 0, 1) := by decide +kernel
theorem dX5_readItem_115 : decode cX5_readItem 115 = .ok (.putfield 21, 3) := by decide +kernel
theorem dX5_readItem_118 : decode cX5_readItem 118 = .ok (.return_, 1) := by decide +kernel
theorem dX5_joinItem_0 : decode cX5_joinItem 0 = .ok (.aload_n 0, 1) := by decide +kernel
theorem dX5_joinItem_1 : decode cX5_joinItem 1 = .ok (.getfield 34, 3) := by decide +kernel
theorem dX5_joinItem_4 : decode cX5_joinItem 4 = .ok (.iconst (-1), 1) := by decide +kernel
theorem dX5_joinItem_5 : decode cX5_joinItem 5 = .ok (.if_icmp .eq 4, 3) := by decide +kernel
theorem dX5_joinItem_8 : decode cX5_joinItem 8 = .ok (.return_, 1) := by decide +kernel
theorem dX5_joinItem_9 : decode cX5_joinItem 9 = .ok (.aload_n 0, 1) := by decide +kernel
theorem dX5_joinItem_10 : decode cX5_joinItem 10 = .ok (.getfield 31, 3) := by decide +kernel
theorem dX5_joinItem_13 : decode cX5_joinItem 13 = .ok (.bipush 38, 2) := by decide +kernel
theorem dX5_joinItem_15 : decode cX5_joinItem 15 = .ok (.if_icmp .ne 21, 3) := by decide +kernel
theorem dX5_joinItem_18 : decode cX5_joinItem 18 = .ok (.aload_n 0, 1) := by decide +kernel
theorem dX5_joinItem_19 : decode cX5_joinItem 19 = .ok (.getfield 18, 3) := by decide +kernel
theorem dX5_joinItem_22 : decode cX5_joinItem 22 = .ok (.aload_n 0, 1) := by decide +kernel
theorem dX5_joinItem_23 : decode cX5_joinItem 23 = .ok (.getfield 15, 3) := by decide +kernel
theorem dX5_joinItem_26 : decode cX5_joinItem 26 = .ok (.aload_n 0, 1) := by decide +kernel
theorem dX5_joinItem_27 : decode cX5_joinItem 27 = .ok (.getfield 18, 3) := by decide +kernel
theorem dX5_joinItem_30 : decode cX5_joinItem 30 = .ok (.invokestatic 80, 3) := by decide +kernel
theorem dX5_joinItem_33 : decode cX5_joinItem 33 = .ok (.goto 18, 3) := by decide +kernel
theorem dX5_joinItem_36 : decode cX5_joinItem 36 = .ok (.aload_n 0, 1) := by decide +kernel
theorem dX5_joinItem_37 : decode cX5_joinItem 37 = .ok (.getfield 18, 3) := by decide +kernel
theorem dX5_joinItem_40 : decode cX5_joinItem 40 = .ok (.aload_n 0, 1) := by decide +kernel
theorem dX5_joinItem_41 : decode cX5_joinItem 41 = .ok (.getfield 15, 3) := by decide +kernel
theorem dX5_joinItem_44 : decode cX5_joinItem 44 = .ok (.aload_n 0, 1) := by decide +kernel
theorem dX5_joinItem_45 : decode cX5_joinItem 45 = .ok (.getfield 18, 3) := by decide +kernel
theorem dX5_joinItem_48 : decode cX5_joinItem 48 = .ok (.invokestatic 84, 3) := by decide +kernel
theorem dX5_joinItem_51 : decode cX5_joinItem 51 = .ok (.aload_n 0, 1) := by decide +kernel
theorem dX5_joinItem_52 : decode cX5_joinItem 52 = .ok (.iconst 0, 1) := by decide +kernel
theorem dX5_joinItem_53 : decode cX5_joinItem 53 = .ok (.putfield 21, 3) := by decide +kernel
theorem dX5_joinItem_56 : decode cX5_joinItem 56 = .ok (.return_, 1) := by decide +kernel
theorem dX5_readPace_0 : decode cX5_readPace 0 = .ok (.aload_n 0, 1) := by decide +kernel
theorem dX5_readPace_1 : decode cX5_readPace 1 = .ok (.getfield 34, 3) := by decide +kernel
theorem dX5_readPace_4 : decode cX5_readPace 4 = .ok (.iconst (-1), 1) := by decide +kernel
theorem dX5_readPace_5 : decode cX5_readPace 5 = .ok (.if_icmp .eq 5, 3) := by decide +kernel
theorem dX5_readPace_8 : decode cX5_readPace 8 = .ok (.iconst 0, 1) := by decide +kernel
theorem dX5_readPace_9 : decode cX5_readPace 9 = .ok (.ireturn, 1) := by decide +kernel
theorem dX5_readPace_10 : decode cX5_readPace 10 = .ok (.aload_n 0, 1) := by decide +kernel
theorem dX5_readPace_11 : decode cX5_readPace 11 = .ok (.invokevirtual 62, 3) := by decide +kernel
theorem dX5_readPace_14 : decode cX5_readPace 14 = .ok (.bipush 114, 2) := by decide +kernel
theorem dX5_readPace_16 : decode cX5_readPace 16 = .ok (.if_icmp .eq 13, 3) := by decide +kernel
theorem dX5_readPace_19 : decode cX5_readPace 19 = .ok (.aload_n 0, 1) := by decide +kernel
theorem dX5_readPace_20 : decode cX5_readPace 20 = .ok (.aload_n 0, 1) := by decide +kernel
theorem dX5_readPace_21 : decode cX5_readPace 21 = .ok (.getfield 28, 3) := by decide +kernel
theorem dX5_readPace_24 : decode cX5_readPace 24 = .ok (.putfield 34, 3) := by decide +kernel
theorem dX5_readPace_27 : decode cX5_readPace 27 = .ok (.iconst 0, 1) := by decide +kernel
theorem dX5_readPace_28 : decode cX5_readPace 28 = .ok (.ireturn, 1) := by decide +kernel
theorem dX5_readPace_29 : decode cX5_readPace 29 = .ok (.aload_n 0, 1) := by decide +kernel
theorem dX5_readPace_30 : decode cX5_readPace 30 = .ok (.dup, 1) := by decide +kernel
theorem dX5_readPace_31 : decode cX5_readPace 31 = .ok (.getfield 28, 3) := by decide +kernel
theorem dX5_readPace_34 : decode cX5_readPace 34 = .ok (.iconst 1, 1) := by decide +kernel
theorem dX5_readPace_35 : decode cX5_readPace 35 = .ok (.iadd, 1) := by decide +kernel
theorem dX5_readPace_36 : decode cX5_readPace 36 = .ok (.putfield 28, 3) := by decide +kernel
theorem dX5_readPace_39 : decode cX5_readPace 39 = .ok (.aload_n 0, 1) := by decide +kernel
theorem dX5_readPace_40 : decode cX5_readPace 40 = .ok (.sipush 999, 3) := by decide +kernel
theorem dX5_readPace_43 : decode cX5_readPace 43 = .ok (.invokevirtual 66, 3) := by decide +kernel
theorem dX5_readPace_46 : decode cX5_readPace 46 = .ok (.ireturn, 1) := by decide +kernel
theorem dX5_readNumber_0 : decode cX5_readNumber 0 = .ok (.aload_n 0, 1) := by decide +kernel
theorem dX5_readNumber_1 : decode cX5_readNumber 1 = .ok (.getfield 28, 3) := by decide +kernel
theorem dX5_readNumber_4 : decode cX5_readNumber 4 = .ok (.istore_n 2, 1) := by decide +kernel
theorem dX5_readNumber_5 : decode cX5_readNumber 5 = .ok (.iconst 0, 1) := by decide +kernel
theorem dX5_readNumber_6 : decode cX5_readNumber 6 = .ok (.istore_n 3, 1) := by decide +kernel
theorem dX5_readNumber_7 : decode cX5_readNumber 7 = .ok (.iconst 0, 1) := by decide +kernel
theorem dX5_readNumber_8 : decode cX5_readNumber 8 = .ok (.istore 4, 2) := by decide +kernel
theorem dX5_readNumber_10 : decode cX5_readNumber 10 = .ok (.iload 4, 2) := by decide +kernel
theorem dX5_readNumber_12 : decode cX5_readNumber 12 = .ok (.iconst 4, 1) := by decide +kernel
theorem dX5_readNumber_13 : decode cX5_readNumber 13 = .ok (.if_icmp .ge 42, 3) := by decide +kernel
theorem dX5_readNumber_16 : decode cX5_readNumber 16 = .ok (.aload_n 0, 1) := by decide +kernel
theorem dX5_readNumber_17 : decode cX5_readNumber 17 = .ok (.invokevirtual 62, 3) := by decide +kernel
theorem dX5_readNumber_20 : decode cX5_readNumber 20 = .ok (.invokestatic 87, 3) := by decide +kernel
theorem dX5_readNumber_23 : decode cX5_readNumber 23 = .ok (.ifCond .eq 32, 3) := by decide +kernel
theorem dX5_readNumber_26 : decode cX5_readNumber 26 = .ok (.bipush 10, 2) := by decide +kernel
theorem dX5_readNumber_28 : decode cX5_readNumber 28 = .ok (.iload_n 3, 1) := by decide +kernel
theorem dX5_readNumber_29 : decode cX5_readNumber 29 = .ok (.imul, 1) := by decide +kernel
theorem dX5_readNumber_30 : decode cX5_readNumber 30 = .ok (.aload_n 0, 1) := by decide +kernel
theorem dX5_readNumber_31 : decode cX5_readNumber 31 = .ok (.invokevirtual 62, 3) := by decide +kernel
theorem dX5_readNumber_34 : decode cX5_readNumber 34 = .ok (.iadd, 1) := by decide +kernel
theorem dX5_readNumber_35 : decode cX5_readNumber 35 = .ok (.bipush 48, 2) := by decide +kernel
theorem dX5_readNumber_37 : decode cX5_readNumber 37 = .ok (.isub, 1) := by decide +kernel
theorem dX5_readNumber_38 : decode cX5_readNumber 38 = .ok (.istore_n 3, 1) := by decide +kernel
theorem dX5_readNumber_39 : decode cX5_readNumber 39 = .ok (.aload_n 0, 1) := by decide +kernel
theorem dX5_readNumber_40 : decode cX5_readNumber 40 = .ok (.dup, 1) := by decide +kernel
theorem dX5_readNumber_41 : decode cX5_readNumber 41 = .ok (.getfield 28, 3) := by decide +kernel
theorem dX5_readNumber_44 : decode cX5_readNumber 44 = .ok (.iconst 1, 1) := by decide +kernel
theorem dX5_readNumber_45 : decode cX5_readNumber 45 = .ok (.iadd, 1) := by decide +kernel
theorem dX5_readNumber_46 : decode cX5_readNumber 46 = .ok (.putfield 28, 3) := by decide +kernel
theorem dX5_readNumber_49 : decode cX5_readNumber 49 = .ok (.iinc 4 1, 3) := by decide +kernel
theorem dX5_readNumber_52 : decode cX5_readNumber 52 = .ok (.goto (-42), 3) := by decide +kernel
theorem dX5_readNumber_55 : decode cX5_readNumber 55 = .ok (.aload_n 0, 1) := by decide +kernel
theorem dX5_readNumber_56 : decode cX5_readNumber 56 = .ok (.getfield 28, 3) := by decide +kernel
theorem dX5_readNumber_59 : decode cX5_readNumber 59 = .ok (.iload_n 2, 1) := by decide +kernel
theorem dX5_readNumber_60 : decode cX5_readNumber 60 = .ok (.if_icmp .eq 8, 3) := by decide +kernel
theorem dX5_readNumber_63 : decode cX5_readNumber 63 = .ok (.iload_n 3, 1) := by decide +kernel
theorem dX5_readNumber_64 : decode cX5_readNumber 64 = .ok (.iload_n 1, 1) := by decide +kernel
theorem dX5_readNumber_65 : decode cX5_readNumber 65 = .ok (.if_icmp .le 8, 3) := by decide +kernel
theorem dX5_readNumber_68 : decode cX5_readNumber 68 = .ok (.aload_n 0, 1) := by decide +kernel
theorem dX5_readNumber_69 : decode cX5_readNumber 69 = .ok (.iload_n 2, 1) := by decide +kernel
theorem dX5_readNumber_70 : decode cX5_readNumber 70 = .ok (.putfield 34, 3) := by decide +kernel
theorem dX5_readNumber_73 : decode cX5_readNumber 73 = .ok (.iload_n 3, 1) := by decide +kernel
theorem dX5_readNumber_74 : decode cX5_readNumber 74 = .ok (.ireturn, 1) := by decide +kernel
theorem dX5_codeHere_0 : decode cX5_codeHere 0 = .ok (.aload_n 0, 1) := by decide +kernel
theorem dX5_codeHere_1 : decode cX5_codeHere 1 = .ok (.getfield 28, 3) := by decide +kernel
theorem dX5_codeHere_4 : decode cX5_codeHere 4 = .ok (.aload_n 0, 1) := by decide +kernel
theorem dX5_codeHere_5 : decode cX5_codeHere 5 = .ok (.getfield 25, 3) := by decide +kernel
theorem dX5_codeHere_8 : decode cX5_codeHere 8 = .ok (.if_icmp .ge 15, 3) := by decide +kernel
theorem dX5_codeHere_11 : decode cX5_codeHere 11 = .ok (.aload_n 0, 1) := by decide +kernel
theorem dX5_codeHere_12 : decode cX5_codeHere 12 = .ok (.getfield 9, 3) := by decide +kernel
theorem dX5_codeHere_15 : decode cX5_codeHere 15 = .ok (.aload_n 0, 1) := by decide +kernel
theorem dX5_codeHere_16 : decode cX5_codeHere 16 = .ok (.getfield 28, 3) := by decide +kernel
theorem dX5_codeHere_19 : decode cX5_codeHere 19 = .ok (.iaload, 1) := by decide +kernel
theorem dX5_codeHere_20 : decode cX5_codeHere 20 = .ok (.goto 4, 3) := by decide +kernel
theorem dX5_codeHere_23 : decode cX5_codeHere 23 = .ok (.iconst 0, 1) := by decide +kernel
theorem dX5_codeHere_24 : decode cX5_codeHere 24 = .ok (.ireturn, 1) := by decide +kernel
theorem dX5_isDigit_0 : decode cX5_isDigit 0 = .ok (.iload_n 0, 1) := by decide +kernel
theorem dX5_isDigit_1 : decode cX5_isDigit 1 = .ok (.bipush 48, 2) := by decide +kernel
theorem dX5_isDigit_3 : decode cX5_isDigit 3 = .ok (.if_icmp .lt 13, 3) := by decide +kernel
theorem dX5_isDigit_6 : decode cX5_isDigit 6 = .ok (.iload_n 0, 1) := by decide +kernel
theorem dX5_isDigit_7 : decode cX5_isDigit 7 = .ok (.bipush 57, 2) := by decide +kernel
theorem dX5_isDigit_9 : decode cX5_isDigit 9 = .ok (.if_icmp .gt 7, 3) := by decide +kernel
theorem dX5_isDigit_12 : decode cX5_isDigit 12 = .ok (.iconst 1, 1) := by decide +kernel
theorem dX5_isDigit_13 : decode cX5_isDigit 13 = .ok (.goto 4, 3) := by decide +kernel
theorem dX5_isDigit_16 : decode cX5_isDigit 16 = .ok (.iconst 0, 1) := by decide +kernel
theorem dX5_isDigit_17 : decode cX5_isDigit 17 = .ok (.ireturn, 1) := by decide +kernel
theorem dJ7_fill_53178_0 : decode cJ7_fill_53178 0 = .ok (.iconst 0, 1) := by decide +kernel
theorem dJ7_fill_53178_1 : decode cJ7_fill_53178 1 = .ok (.istore_n 2, 1) := by decide +kernel
theorem dJ7_fill_53178_2 : decode cJ7_fill_53178 2 = .ok (.aload_n 0, 1) := by decide +kernel
theorem dJ7_fill_53178_3 : decode cJ7_fill_53178 3 = .ok (.arraylength, 1) := by decide +kernel
theorem dJ7_fill_53178_4 : decode cJ7_fill_53178 4 = .ok (.istore_n 3, 1) := by decide +kernel
theorem dJ7_fill_53178_5 : decode cJ7_fill_53178 5 = .ok (.iload_n 2, 1) := by decide +kernel
theorem dJ7_fill_53178_6 : decode cJ7_fill_53178 6 = .ok (.iload_n 3, 1) := by decide +kernel
theorem dJ7_fill_53178_7 : decode cJ7_fill_53178 7 = .ok (.if_icmp .ge 13, 3) := by decide +kernel
theorem dJ7_fill_53178_10 : decode cJ7_fill_53178 10 = .ok (.aload_n 0, 1) := by decide +kernel
theorem dJ7_fill_53178_11 : decode cJ7_fill_53178 11 = .ok (.iload_n 2, 1) := by decide +kernel
theorem dJ7_fill_53178_12 : decode cJ7_fill_53178 12 = .ok (.iload_n 1, 1) := by decide +kernel
theorem dJ7_fill_53178_13 : decode cJ7_fill_53178 13 = .ok (.iastore, 1) := by decide +kernel
theorem dJ7_fill_53178_14 : decode cJ7_fill_53178 14 = .ok (.iinc 2 1, 3) := by decide +kernel
theorem dJ7_fill_53178_17 : decode cJ7_fill_53178 17 = .ok (.goto (-12), 3) := by decide +kernel
theorem dJ7_fill_53178_20 : decode cJ7_fill_53178 20 = .ok (.return_, 1) := by decide +kernel
end
section
theorem dX6_init_0 : decode cX6_init 0 = .ok (.aload_n 0, 1) := by decide +kernel
theorem dX6_init_1 : decode cX6_init 1 = .ok (.invokespecial 3, 3) := by decide +kernel
theorem dX6_init_4 : decode cX6_init 4 = .ok (.aload_n 0, 1) := by decide +kernel
theorem dX6_init_5 : decode cX6_init 5 = .ok (.new 9, 3) := by decide +kernel
theorem dX6_init_8 : decode cX6_init 8 = .ok (.dup, 1) := by decide +kernel
theorem dX6_init_9 : decode cX6_init 9 = .ok (.invokespecial 11, 3) := by decide +kernel
theorem dX6_init_12 : decode cX6_init 12 = .ok (.putfield 12, 3) := by decide +kernel
theorem dX6_init_15 : decode cX6_init 15 = .ok (.aload_n 0, 1) := by decide +kernel
theorem dX6_init_16 : decode cX6_init 16 = .ok (.new 18, 3) := by decide +kernel
theorem dX6_init_19 : decode cX6_init 19 = .ok (.dup, 1) := by decide +kernel
theorem dX6_init_20 : decode cX6_init 20 = .ok (.invokespecial 20, 3) := by decide +kernel
theorem dX6_init_23 : decode cX6_init 23 = .ok (.putfield 21, 3) := by decide +kernel
theorem dX6_init_26 : decode cX6_init 26 = .ok (.aload_n 0, 1) := by decide +kernel
theorem dX6_init_27 : decode cX6_init 27 = .ok (.new 25, 3) := by decide +kernel
theorem dX6_init_30 : decode cX6_init 30 = .ok (.dup, 1) := by decide +kernel
theorem dX6_init_31 : decode cX6_init 31 = .ok (.invokespecial 27, 3) := by decide +kernel
theorem dX6_init_34 : decode cX6_init 34 = .ok (.putfield 28, 3) := by decide +kernel
theorem dX6_init_37 : decode cX6_init 37 = .ok (.aload_n 0, 1) := by decide +kernel
theorem dX6_init_38 : decode cX6_init 38 = .ok (.new 32, 3) := by decide +kernel
theorem dX6_init_41 : decode cX6_init 41 = .ok (.dup, 1) := by decide +kernel
theorem dX6_init_42 : decode cX6_init 42 = .ok (.invokespecial 34, 3) := by decide +kernel
theorem dX6_init_45 : decode cX6_init 45 = .ok (.putfield 35, 3) := by decide +kernel
theorem dX6_init_48 : decode cX6_init 48 = .ok (.aload_n 0, 1) := by decide +kernel
theorem dX6_init_49 : decode cX6_init 49 = .ok (.new 39, 3) := by decide +kernel
theorem dX6_init_52 : decode cX6_init 52 = .ok (.dup, 1) := by decide +kernel
theorem dX6_init_53 : decode cX6_init 53 = .ok (.invokespecial 41, 3) := by decide +kernel
theorem dX6_init_56 : decode cX6_init 56 = .ok (.putfield 42, 3) := by decide +kernel
theorem dX6_init_59 : decode cX6_init 59 = .ok (.aload_n 0, 1) := by decide +kernel
theorem dX6_init_60 : decode cX6_init 60 = .ok (.bipush 60, 2) := by decide +kernel
theorem dX6_init_62 : decode cX6_init 62 = .ok (.newarray .int, 2) := by decide +kernel
theorem dX6_init_64 : decode cX6_init 64 = .ok (.putfield 46, 3) := by decide +kernel
theorem dX6_init_67 : decode cX6_init 67 = .ok (.aload_n 0, 1) := by decide +kernel
theorem dX6_init_68 : decode cX6_init 68 = .ok (.bipush 41, 2) := by decide +kernel
theorem dX6_init_70 : decode cX6_init 70 = .ok (.newarray .int, 2) := by decide +kernel
theorem dX6_init_72 : decode cX6_init 72 = .ok (.putfield 50, 3) := by decide +kernel
theorem dX6_init_75 : decode cX6_init 75 = .ok (.aload_n 0, 1) := by decide +kernel
theorem dX6_init_76 : decode cX6_init 76 = .ok (.iconst 0, 1) := by decide +kernel
theorem dX6_init_77 : decode cX6_init 77 = .ok (.putfield 53, 3) := by decide +kernel
theorem dX6_init_80 : decode cX6_init 80 = .ok (.aload_n 0, 1) := by decide +kernel
theorem dX6_init_81 : decode cX6_init 81 = .ok (.iconst 0, 1) := by decide +kernel
theorem dX6_init_82 : decode cX6_init 82 = .ok (.putfield 57, 3) := by decide +kernel
theorem dX6_init_85 : decode cX6_init 85 = .ok (.return_, 1) := by decide +kernel
theorem dX6_steps_0 : decode cX6_steps 0 = .ok (.aload_n 0, 1) := by decide +kernel
theorem dX6_steps_1 : decode cX6_steps 1 = .ok (.aload_n 0, 1) := by decide +kernel
theorem dX6_steps_2 : decode cX6_steps 2 = .ok (.iload_n 1, 1) := by decide +kernel
theorem dX6_steps_3 : decode cX6_steps 3 = .ok (.iload_n 2, 1) := by decide +kernel
theorem dX6_steps_4 : decode cX6_steps 4 = .ok (.iload_n 3, 1) := by decide +kernel
theorem dX6_steps_5 : decode cX6_steps 5 = .ok (.iload 4, 2) := by decide +kernel
theorem dX6_steps_7 : decode cX6_steps 7 = .ok (.invokevirtual 60, 3) := by decide +kernel
theorem dX6_steps_10 : decode cX6_steps 10 = .ok (.invokevirtual 64, 3) := by decide +kernel
theorem dX6_steps_13 : decode cX6_steps 13 = .ok (.ireturn, 1) := by decide +kernel
theorem dX6_bucket_0 : decode cX6_bucket 0 = .ok (.iload_n 1, 1) := by decide +kernel
theorem dX6_bucket_1 : decode cX6_bucket 1 = .ok (.sipush 9999, 3) := by decide +kernel
theorem dX6_bucket_4 : decode cX6_bucket 4 = .ok (.invokestatic 68, 3) := by decide +kernel
theorem dX6_bucket_7 : decode cX6_bucket 7 = .ok (.ifCond .eq 13, 3) := by decide +kernel
theorem dX6_bucket_10 : decode cX6_bucket 10 = .ok (.iload_n 2, 1) := by decide +kernel
theorem dX6_bucket_11 : decode cX6_bucket 11 = .ok (.sipush 999, 3) := by decide +kernel
theorem dX6_bucket_14 : decode cX6_bucket 14 = .ok (.invokestatic 68, 3) := by decide +kernel
theorem dX6_bucket_17 : decode cX6_bucket 17 = .ok (.ifCond .ne 6, 3) := by decide +kernel
theorem dX6_bucket_20 : decode cX6_bucket 20 = .ok (.bipush (-2), 2) := by decide +kernel
theorem dX6_bucket_22 : decode cX6_bucket 22 = .ok (.ireturn, 1) := by decide +kernel
theorem dX6_bucket_23 : decode cX6_bucket 23 = .ok (.aload_n 0, 1) := by decide +kernel
theorem dX6_bucket_24 : decode cX6_bucket 24 = .ok (.getfield 12, 3) := by decide +kernel
theorem dX6_bucket_27 : decode cX6_bucket 27 = .ok (.invokevirtual 72, 3) := by decide +kernel
theorem dX6_bucket_30 : decode cX6_bucket 30 = .ok (.ifCond .eq 6, 3) := by decide +kernel
theorem dX6_bucket_33 : decode cX6_bucket 33 = .ok (.bipush (-4), 2) := by decide +kernel
theorem dX6_bucket_35 : decode cX6_bucket 35 = .ok (.ireturn, 1) := by decide +kernel
theorem dX6_bucket_36 : decode cX6_bucket 36 = .ok (.iload_n 1, 1) := by decide +kernel
theorem dX6_bucket_37 : decode cX6_bucket 37 = .ok (.iload_n 2, 1) := by decide +kernel
theorem dX6_bucket_38 : decode cX6_bucket 38 = .ok (.aload_n 0, 1) := by decide +kernel
theorem dX6_bucket_39 : decode cX6_bucket 39 = .ok (.getfield 12, 3) := by decide +kernel
theorem dX6_bucket_42 : decode cX6_bucket 42 = .ok (.invokevirtual 76, 3) := by decide +kernel
theorem dX6_bucket_45 : decode cX6_bucket 45 = .ok (.invokestatic 80, 3) := by decide +kernel
theorem dX6_bucket_48 : decode cX6_bucket 48 = .ok (.aload_n 0, 1) := by decide +kernel
theorem dX6_bucket_49 : decode cX6_bucket 49 = .ok (.getfield 12, 3) := by decide +kernel
theorem dX6_bucket_52 : decode cX6_bucket 52 = .ok (.iconst 1, 1) := by decide +kernel
theorem dX6_bucket_53 : decode cX6_bucket 53 = .ok (.invokevirtual 86, 3) := by decide +kernel
theorem dX6_bucket_56 : decode cX6_bucket 56 = .ok (.ireturn, 1) := by decide +kernel
theorem dX6_late_0 : decode cX6_late 0 = .ok (.iload_n 1, 1) := by decide +kernel
theorem dX6_late_1 : decode cX6_late 1 = .ok (.bipush 40, 2) := by decide +kernel
theorem dX6_late_3 : decode cX6_late 3 = .ok (.invokestatic 68, 3) := by decide +kernel
theorem dX6_late_6 : decode cX6_late 6 = .ok (.ifCond .eq 13, 3) := by decide +kernel
theorem dX6_late_9 : decode cX6_late 9 = .ok (.iload_n 2, 1) := by decide +kernel
theorem dX6_late_10 : decode cX6_late 10 = .ok (.sipush 999, 3) := by decide +kernel
theorem dX6_late_13 : decode cX6_late 13 = .ok (.invokestatic 68, 3) := by decide +kernel
theorem dX6_late_16 : decode cX6_late 16 = .ok (.ifCond .ne 6, 3) := by decide +kernel
theorem dX6_late_19 : decode cX6_late 19 = .ok (.bipush (-2), 2) := by decide +kernel
theorem dX6_late_21 : decode cX6_late 21 = .ok (.ireturn, 1) := by decide +kernel
theorem dX6_late_22 : decode cX6_late 22 = .ok (.aload_n 0, 1) := by decide +kernel
theorem dX6_late_23 : decode cX6_late 23 = .ok (.getfield 12, 3) := by decide +kernel
theorem dX6_late_26 : decode cX6_late 26 = .ok (.invokevirtual 72, 3) := by decide +kernel
theorem dX6_late_29 : decode cX6_late 29 = .ok (.ifCond .eq 6, 3) := by decide +kernel
theorem dX6_late_32 : decode cX6_late 32 = .ok (.bipush (-4), 2) := by decide +kernel
theorem dX6_late_34 : decode cX6_late 34 = .ok (.ireturn, 1) := by decide +kernel
theorem dX6_late_35 : decode cX6_late 35 = .ok (.iload_n 1, 1) := by decide +kernel
theorem dX6_late_36 : decode cX6_late 36 = .ok (.iload_n 2, 1) := by decide +kernel
theorem dX6_late_37 : decode cX6_late 37 = .ok (.aload_n 0, 1) := by decide +kernel
theorem dX6_late_38 : decode cX6_late 38 = .ok (.getfield 12, 3) := by decide +kernel
theorem dX6_late_41 : decode cX6_late 41 = .ok (.invokevirtual 76, 3) := by decide +kernel
theorem dX6_late_44 : decode cX6_late 44 = .ok (.invokestatic 89, 3) := by decide +kernel
theorem dX6_late_47 : decode cX6_late 47 = .ok (.aload_n 0, 1) := by decide +kernel
theorem dX6_late_48 : decode cX6_late 48 = .ok (.getfield 12, 3) := by decide +kernel
theorem dX6_late_51 : decode cX6_late 51 = .ok (.iconst 2, 1) := by decide +kernel
theorem dX6_late_52 : decode cX6_late 52 = .ok (.invokevirtual 86, 3) := by decide +kernel
theorem dX6_late_55 : decode cX6_late 55 = .ok (.ireturn, 1) := by decide +kernel
theorem dX6_text_0 : decode cX6_text 0 = .ok (.aload_n 0, 1) := by decide +kernel
theorem dX6_text_1 : decode cX6_text 1 = .ok (.aload_n 0, 1) := by decide +kernel
theorem dX6_text_2 : decode cX6_text 2 = .ok (.iload_n 1, 1) := by decide +kernel
theorem dX6_text_3 : decode cX6_text 3 = .ok (.iload_n 2, 1) := by decide +kernel
theorem dX6_text_4 : decode cX6_text 4 = .ok (.iload_n 3, 1) := by decide +kernel
theorem dX6_text_5 : decode cX6_text 5 = .ok (.iload 4, 2) := by decide +kernel
theorem dX6_text_7 : decode cX6_text 7 = .ok (.invokevirtual 92, 3) := by decide +kernel
theorem dX6_text_10 : decode cX6_text 10 = .ok (.invokevirtual 64, 3) := by decide +kernel
theorem dX6_text_13 : decode cX6_text 13 = .ok (.ireturn, 1) := by decide +kernel
theorem dX6_at_0 : decode cX6_at 0 = .ok (.aload_n 0, 1) := by decide +kernel
theorem dX6_at_1 : decode cX6_at 1 = .ok (.getfield 12, 3) := by decide +kernel
theorem dX6_at_4 : decode cX6_at 4 = .ok (.iload_n 1, 1) := by decide +kernel
theorem dX6_at_5 : decode cX6_at 5 = .ok (.invokevirtual 95, 3) := by decide +kernel
theorem dX6_at_8 : decode cX6_at 8 = .ok (.ifCond .ne 5, 3) := by decide +kernel
theorem dX6_at_11 : decode cX6_at 11 = .ok (.iconst (-1), 1) := by decide +kernel
theorem dX6_at_12 : decode cX6_at 12 = .ok (.ireturn, 1) := by decide +kernel
theorem dX6_at_13 : decode cX6_at 13 = .ok (.iload_n 2, 1) := by decide +kernel
theorem dX6_at_14 : decode cX6_at 14 = .ok (.bipush 40, 2) := by decide +kernel
theorem dX6_at_16 : decode cX6_at 16 = .ok (.invokestatic 68, 3) := by decide +kernel
theorem dX6_at_19 : decode cX6_at 19 = .ok (.ifCond .ne 6, 3) := by decide +kernel
theorem dX6_at_22 : decode cX6_at 22 = .ok (.bipush (-2), 2) := by decide +kernel
theorem dX6_at_24 : decode cX6_at 24 = .ok (.ireturn, 1) := by decide +kernel
theorem dX6_at_25 : decode cX6_at 25 = .ok (.aload_n 0, 1) := by decide +kernel
theorem dX6_at_26 : decode cX6_at 26 = .ok (.getfield 12, 3) := by decide +kernel
theorem dX6_at_29 : decode cX6_at 29 = .ok (.iload_n 1, 1) := by decide +kernel
theorem dX6_at_30 : decode cX6_at 30 = .ok (.invokevirtual 99, 3) := by decide +kernel
theorem dX6_at_33 : decode cX6_at 33 = .ok (.iload_n 2, 1) := by decide +kernel
theorem dX6_at_34 : decode cX6_at 34 = .ok (.iaload, 1) := by decide +kernel
theorem dX6_at_35 : decode cX6_at 35 = .ok (.ireturn, 1) := by decide +kernel
theorem dX6_stepsOf_0 : decode cX6_stepsOf 0 = .ok (.aload_n 0, 1) := by decide +kernel
theorem dX6_stepsOf_1 : decode cX6_stepsOf 1 = .ok (.getfield 35, 3) := by decide +kernel
theorem dX6_stepsOf_4 : decode cX6_stepsOf 4 = .ok (.iload_n 1, 1) := by decide +kernel
theorem dX6_stepsOf_5 : decode cX6_stepsOf 5 = .ok (.iload_n 2, 1) := by decide +kernel
theorem dX6_stepsOf_6 : decode cX6_stepsOf 6 = .ok (.iload_n 3, 1) := by decide +kernel
theorem dX6_stepsOf_7 : decode cX6_stepsOf 7 = .ok (.iload 4, 2) := by decide +kernel
theorem dX6_stepsOf_9 : decode cX6_stepsOf 9 = .ok (.aload_n 0, 1) := by decide +kernel
theorem dX6_stepsOf_10 : decode cX6_stepsOf 10 = .ok (.getfield 46, 3) := by decide +kernel
theorem dX6_stepsOf_13 : decode cX6_stepsOf 13 = .ok (.invokevirtual 103, 3) := by decide +kernel
theorem dX6_stepsOf_16 : decode cX6_stepsOf 16 = .ok (.istore 5, 2) := by decide +kernel
theorem dX6_stepsOf_18 : decode cX6_stepsOf 18 = .ok (.iload 5, 2) := by decide +kernel
theorem dX6_stepsOf_20 : decode cX6_stepsOf 20 = .ok (.ifCond .eq 6, 3) := by decide +kernel
theorem dX6_stepsOf_23 : decode cX6_stepsOf 23 = .ok (.iload 5, 2) := by decide +kernel
theorem dX6_stepsOf_25 : decode cX6_stepsOf 25 = .ok (.ireturn, 1) := by decide +kernel
theorem dX6_stepsOf_26 : decode cX6_stepsOf 26 = .ok (.aload_n 0, 1) := by decide +kernel
theorem dX6_stepsOf_27 : decode cX6_stepsOf 27 = .ok (.iload 4, 2) := by decide +kernel
theorem dX6_stepsOf_29 : decode cX6_stepsOf 29 = .ok (.invokevirtual 107, 3) := by decide +kernel
theorem dX6_stepsOf_32 : decode cX6_stepsOf 32 = .ok (.ifCond .ne 6, 3) := by decide +kernel
theorem dX6_stepsOf_35 : decode cX6_stepsOf 35 = .ok (.bipush (-2), 2) := by decide +kernel
theorem dX6_stepsOf_37 : decode cX6_stepsOf 37 = .ok (.ireturn, 1) := by decide +kernel
theorem dX6_stepsOf_38 : decode cX6_stepsOf 38 = .ok (.aload_n 0, 1) := by decide +kernel
theorem dX6_stepsOf_39 : decode cX6_stepsOf 39 = .ok (.getfield 12, 3) := by decide +kernel
theorem dX6_stepsOf_42 : decode cX6_stepsOf 42 = .ok (.invokevirtual 72, 3) := by decide +kernel
theorem dX6_stepsOf_45 : decode cX6_stepsOf 45 = .ok (.ifCond .eq 6, 3) := by decide +kernel
theorem dX6_stepsOf_48 : decode cX6_stepsOf 48 = .ok (.bipush (-4), 2) := by decide +kernel
theorem dX6_stepsOf_50 : decode cX6_stepsOf 50 = .ok (.ireturn, 1) := by decide +kernel
theorem dX6_stepsOf_51 : decode cX6_stepsOf 51 = .ok (.aload_n 0, 1) := by decide +kernel
theorem dX6_stepsOf_52 : decode cX6_stepsOf 52 = .ok (.getfield 46, 3) := by decide +kernel
theorem dX6_stepsOf_55 : decode cX6_stepsOf 55 = .ok (.iload 4, 2) := by decide +kernel
theorem dX6_stepsOf_57 : decode cX6_stepsOf 57 = .ok (.aload_n 0, 1) := by decide +kernel
theorem dX6_stepsOf_58 : decode cX6_stepsOf 58 = .ok (.getfield 12, 3) := by decide +kernel
theorem dX6_stepsOf_61 : decode cX6_stepsOf 61 = .ok (.invokevirtual 76, 3) := by decide +kernel
theorem dX6_stepsOf_64 : decode cX6_stepsOf 64 = .ok (.invokestatic 110, 3) := by decide +kernel
theorem dX6_stepsOf_67 : decode cX6_stepsOf 67 = .ok (.aload_n 0, 1) := by decide +kernel
theorem dX6_stepsOf_68 : decode cX6_stepsOf 68 = .ok (.getfield 12, 3) := by decide +kernel
theorem dX6_stepsOf_71 : decode cX6_stepsOf 71 = .ok (.iconst 0, 1) := by decide +kernel
theorem dX6_stepsOf_72 : decode cX6_stepsOf 72 = .ok (.invokevirtual 86, 3) := by decide +kernel
theorem dX6_stepsOf_75 : decode cX6_stepsOf 75 = .ok (.ireturn, 1) := by decide +kernel
theorem dX6_stairOfText_0 : decode cX6_stairOfText 0 = .ok (.aload_n 0, 1) := by decide +kernel
theorem dX6_stairOfText_1 : decode cX6_stairOfText 1 = .ok (.getfield 35, 3) := by decide +kernel
theorem dX6_stairOfText_4 : decode cX6_stairOfText 4 = .ok (.iload_n 1, 1) := by decide +kernel
theorem dX6_stairOfText_5 : decode cX6_stairOfText 5 = .ok (.iload_n 2, 1) := by decide +kernel
theorem dX6_stairOfText_6 : decode cX6_stairOfText 6 = .ok (.iload_n 3, 1) := by decide +kernel
theorem dX6_stairOfText_7 : decode cX6_stairOfText 7 = .ok (.iload 4, 2) := by decide +kernel
theorem dX6_stairOfText_9 : decode cX6_stairOfText 9 = .ok (.aload_n 0, 1) := by decide +kernel
theorem dX6_stairOfText_10 : decode cX6_stairOfText 10 = .ok (.getfield 46, 3) := by decide +kernel
theorem dX6_stairOfText_13 : decode cX6_stairOfText 13 = .ok (.invokevirtual 103, 3) := by decide +kernel
theorem dX6_stairOfText_16 : decode cX6_stairOfText 16 = .ok (.istore 5, 2) := by decide +kernel
theorem dX6_stairOfText_18 : decode cX6_stairOfText 18 = .ok (.iload 5, 2) := by decide +kernel
theorem dX6_stairOfText_20 : decode cX6_stairOfText 20 = .ok (.ifCond .eq 6, 3) := by decide +kernel
theorem dX6_stairOfText_23 : decode cX6_stairOfText 23 = .ok (.iload 5, 2) := by decide +kernel
theorem dX6_stairOfText_25 : decode cX6_stairOfText 25 = .ok (.ireturn, 1) := by decide +kernel
theorem dX6_stairOfText_26 : decode cX6_stairOfText 26 = .ok (.aload_n 0, 1) := by decide +kernel
theorem dX6_stairOfText_27 : decode cX6_stairOfText 27 = .ok (.getfield 42, 3) := by decide +kernel
theorem dX6_stairOfText_30 : decode cX6_stairOfText 30 = .ok (.aload_n 0, 1) := by decide +kernel
theorem dX6_stairOfText_31 : decode cX6_stairOfText 31 = .ok (.getfield 46, 3) := by decide +kernel
theorem dX6_stairOfText_34 : decode cX6_stairOfText 34 = .ok (.iload 4, 2) := by decide +kernel
theorem dX6_stairOfText_36 : decode cX6_stairOfText 36 = .ok (.invokevirtual 114, 3) := by decide +kernel
theorem dX6_stairOfText_39 : decode cX6_stairOfText 39 = .ok (.istore 6, 2) := by decide +kernel
theorem dX6_stairOfText_41 : decode cX6_stairOfText 41 = .ok (.iload 6, 2) := by decide +kernel
theorem dX6_stairOfText_43 : decode cX6_stairOfText 43 = .ok (.iconst (-1), 1) := by decide +kernel
theorem dX6_stairOfText_44 : decode cX6_stairOfText 44 = .ok (.if_icmp .eq 9, 3) := by decide +kernel
theorem dX6_stairOfText_47 : decode cX6_stairOfText 47 = .ok (.bipush (-100), 2) := by decide +kernel
theorem dX6_stairOfText_49 : decode cX6_stairOfText 49 = .ok (.iload 6, 2) := by decide +kernel
theorem dX6_stairOfText_51 : decode cX6_stairOfText 51 = .ok (.isub, 1) := by decide +kernel
theorem dX6_stairOfText_52 : decode cX6_stairOfText 52 = .ok (.ireturn, 1) := by decide +kernel
theorem dX6_stairOfText_53 : decode cX6_stairOfText 53 = .ok (.aload_n 0, 1) := by decide +kernel
theorem dX6_stairOfText_54 : decode cX6_stairOfText 54 = .ok (.getfield 12, 3) := by decide +kernel
theorem dX6_stairOfText_57 : decode cX6_stairOfText 57 = .ok (.invokevirtual 72, 3) := by decide +kernel
theorem dX6_stairOfText_60 : decode cX6_stairOfText 60 = .ok (.ifCond .eq 6, 3) := by decide +kernel
theorem dX6_stairOfText_63 : decode cX6_stairOfText 63 = .ok (.bipush (-4), 2) := by decide +kernel
theorem dX6_stairOfText_65 : decode cX6_stairOfText 65 = .ok (.ireturn, 1) := by decide +kernel
theorem dX6_stairOfText_66 : decode cX6_stairOfText 66 = .ok (.aload_n 0, 1) := by decide +kernel
theorem dX6_stairOfText_67 : decode cX6_stairOfText 67 = .ok (.getfield 42, 3) := by decide +kernel
theorem dX6_stairOfText_70 : decode cX6_stairOfText 70 = .ok (.getfield 118, 3) := by decide +kernel
theorem dX6_stairOfText_73 : decode cX6_stairOfText 73 = .ok (.aload_n 0, 1) := by decide +kernel
theorem dX6_stairOfText_74 : decode cX6_stairOfText 74 = .ok (.getfield 12, 3) := by decide +kernel
theorem dX6_stairOfText_77 : decode cX6_stairOfText 77 = .ok (.invokevirtual 76, 3) := by decide +kernel
theorem dX6_stairOfText_80 : decode cX6_stairOfText 80 = .ok (.invokestatic 121, 3) := by decide +kernel
theorem dX6_stairOfText_83 : decode cX6_stairOfText 83 = .ok (.aload_n 0, 1) := by decide +kernel
theorem dX6_stairOfText_84 : decode cX6_stairOfText 84 = .ok (.getfield 12, 3) := by decide +kernel
theorem dX6_stairOfText_87 : decode cX6_stairOfText 87 = .ok (.aload_n 0, 1) := by decide +kernel
theorem dX6_stairOfText_88 : decode cX6_stairOfText 88 = .ok (.getfield 42, 3) := by decide +kernel
theorem dX6_stairOfText_91 : decode cX6_stairOfText 91 = .ok (.getfield 125, 3) := by decide +kernel
theorem dX6_stairOfText_94 : decode cX6_stairOfText 94 = .ok (.invokevirtual 86, 3) := by decide +kernel
theorem dX6_stairOfText_97 : decode cX6_stairOfText 97 = .ok (.ireturn, 1) := by decide +kernel
theorem dX6_isRowOfSteps_0 : decode cX6_isRowOfSteps 0 = .ok (.iload_n 1, 1) := by decide +kernel
theorem dX6_isRowOfSteps_1 : decode cX6_isRowOfSteps 1 = .ok (.iconst 1, 1) := by decide +kernel
theorem dX6_isRowOfSteps_2 : decode cX6_isRowOfSteps 2 = .ok (.if_icmp .lt 9, 3) := by decide +kernel
theorem dX6_isRowOfSteps_5 : decode cX6_isRowOfSteps 5 = .ok (.iload_n 1, 1) := by decide +kernel
theorem dX6_isRowOfSteps_6 : decode cX6_isRowOfSteps 6 = .ok (.bipush 40, 2) := by decide +kernel
theorem dX6_isRowOfSteps_8 : decode cX6_isRowOfSteps 8 = .ok (.if_icmp .le 5, 3) := by decide +kernel
theorem dX6_isRowOfSteps_11 : decode cX6_isRowOfSteps 11 = .ok (.iconst 0, 1) := by decide +kernel
theorem dX6_isRowOfSteps_12 : decode cX6_isRowOfSteps 12 = .ok (.ireturn, 1) := by decide +kernel
theorem dX6_isRowOfSteps_13 : decode cX6_isRowOfSteps 13 = .ok (.iconst 0, 1) := by decide +kernel
theorem dX6_isRowOfSteps_14 : decode cX6_isRowOfSteps 14 = .ok (.istore_n 2, 1) := by decide +kernel
theorem dX6_isRowOfSteps_15 : decode cX6_isRowOfSteps 15 = .ok (.iload_n 2, 1) := by decide +kernel
theorem dX6_isRowOfSteps_16 : decode cX6_isRowOfSteps 16 = .ok (.iload_n 1, 1) := by decide +kernel
theorem dX6_isRowOfSteps_17 : decode cX6_isRowOfSteps 17 = .ok (.if_icmp .ge 26, 3) := by decide +kernel
theorem dX6_isRowOfSteps_20 : decode cX6_isRowOfSteps 20 = .ok (.aload_n 0, 1) := by decide +kernel
theorem dX6_isRowOfSteps_21 : decode cX6_isRowOfSteps 21 = .ok (.getfield 46, 3) := by decide +kernel
theorem dX6_isRowOfSteps_24 : decode cX6_isRowOfSteps 24 = .ok (.iload_n 2, 1) := by decide +kernel
theorem dX6_isRowOfSteps_25 : decode cX6_isRowOfSteps 25 = .ok (.iaload, 1) := by decide +kernel
theorem dX6_isRowOfSteps_26 : decode cX6_isRowOfSteps 26 = .ok (.sipush 999, 3) := by decide +kernel
theorem dX6_isRowOfSteps_29 : decode cX6_isRowOfSteps 29 = .ok (.invokestatic 68, 3) := by decide +kernel
theorem dX6_isRowOfSteps_32 : decode cX6_isRowOfSteps 32 = .ok (.ifCond .ne 5, 3) := by decide +kernel
theorem dX6_isRowOfSteps_35 : decode cX6_isRowOfSteps 35 = .ok (.iconst 0, 1) := by decide +kernel
theorem dX6_isRowOfSteps_36 : decode cX6_isRowOfSteps 36 = .ok (.ireturn, 1) := by decide +kernel
theorem dX6_isRowOfSteps_37 : decode cX6_isRowOfSteps 37 = .ok (.iinc 2 1, 3) := by decide +kernel
theorem dX6_isRowOfSteps_40 : decode cX6_isRowOfSteps 40 = .ok (.goto (-25), 3) := by decide +kernel
theorem dX6_isRowOfSteps_43 : decode cX6_isRowOfSteps 43 = .ok (.iconst 1, 1) := by decide +kernel
theorem dX6_isRowOfSteps_44 : decode cX6_isRowOfSteps 44 = .ok (.ireturn, 1) := by decide +kernel
theorem dX6_make_0 : decode cX6_make 0 = .ok (.aload_n 0, 1) := by decide +kernel
theorem dX6_make_1 : decode cX6_make 1 = .ok (.getfield 12, 3) := by decide +kernel
theorem dX6_make_4 : decode cX6_make 4 = .ok (.iload_n 2, 1) := by decide +kernel
theorem dX6_make_5 : decode cX6_make 5 = .ok (.invokevirtual 95, 3) := by decide +kernel
theorem dX6_make_8 : decode cX6_make 8 = .ok (.ifCond .eq 14, 3) := by decide +kernel
theorem dX6_make_11 : decode cX6_make 11 = .ok (.aload_n 0, 1) := by decide +kernel
theorem dX6_make_12 : decode cX6_make 12 = .ok (.getfield 12, 3) := by decide +kernel
theorem dX6_make_15 : decode cX6_make 15 = .ok (.iload_n 3, 1) := by decide +kernel
theorem dX6_make_16 : decode cX6_make 16 = .ok (.invokevirtual 95, 3) := by decide +kernel
theorem dX6_make_19 : decode cX6_make 19 = .ok (.ifCond .ne 5, 3) := by decide +kernel
theorem dX6_make_22 : decode cX6_make 22 = .ok (.iconst (-1), 1) := by decide +kernel
theorem dX6_make_23 : decode cX6_make 23 = .ok (.ireturn, 1) := by decide +kernel
theorem dX6_make_24 : decode cX6_make 24 = .ok (.iload_n 1, 1) := by decide +kernel
theorem dX6_make_25 : decode cX6_make 25 = .ok (.iconst 4, 1) := by decide +kernel
theorem dX6_make_26 : decode cX6_make 26 = .ok (.invokestatic 68, 3) := by decide +kernel
theorem dX6_make_29 : decode cX6_make 29 = .ok (.ifCond .ne 6, 3) := by decide +kernel
theorem dX6_make_32 : decode cX6_make 32 = .ok (.bipush (-2), 2) := by decide +kernel
theorem dX6_make_34 : decode cX6_make 34 = .ok (.ireturn, 1) := by decide +kernel
theorem dX6_make_35 : decode cX6_make 35 = .ok (.aload_n 0, 1) := by decide +kernel
theorem dX6_make_36 : decode cX6_make 36 = .ok (.getfield 12, 3) := by decide +kernel
theorem dX6_make_39 : decode cX6_make 39 = .ok (.invokevirtual 72, 3) := by decide +kernel
theorem dX6_make_42 : decode cX6_make 42 = .ok (.ifCond .eq 6, 3) := by decide +kernel
theorem dX6_make_45 : decode cX6_make 45 = .ok (.bipush (-4), 2) := by decide +kernel
theorem dX6_make_47 : decode cX6_make 47 = .ok (.ireturn, 1) := by decide +kernel
theorem dX6_make_48 : decode cX6_make 48 = .ok (.iload_n 1, 1) := by decide +kernel
theorem dX6_make_49 : decode cX6_make 49 = .ok (.aload_n 0, 1) := by decide +kernel
theorem dX6_make_50 : decode cX6_make 50 = .ok (.getfield 12, 3) := by decide +kernel
theorem dX6_make_53 : decode cX6_make 53 = .ok (.iload_n 2, 1) := by decide +kernel
theorem dX6_make_54 : decode cX6_make 54 = .ok (.invokevirtual 99, 3) := by decide +kernel
theorem dX6_make_57 : decode cX6_make 57 = .ok (.aload_n 0, 1) := by decide +kernel
theorem dX6_make_58 : decode cX6_make 58 = .ok (.getfield 12, 3) := by decide +kernel
theorem dX6_make_61 : decode cX6_make 61 = .ok (.iload_n 3, 1) := by decide +kernel
theorem dX6_make_62 : decode cX6_make 62 = .ok (.invokevirtual 99, 3) := by decide +kernel
theorem dX6_make_65 : decode cX6_make 65 = .ok (.aload_n 0, 1) := by decide +kernel
theorem dX6_make_66 : decode cX6_make 66 = .ok (.getfield 12, 3) := by decide +kernel
theorem dX6_make_69 : decode cX6_make 69 = .ok (.invokevirtual 76, 3) := by decide +kernel
theorem dX6_make_72 : decode cX6_make 72 = .ok (.invokestatic 128, 3) := by decide +kernel
theorem dX6_make_75 : decode cX6_make 75 = .ok (.aload_n 0, 1) := by decide +kernel
theorem dX6_make_76 : decode cX6_make 76 = .ok (.getfield 12, 3) := by decide +kernel
theorem dX6_make_79 : decode cX6_make 79 = .ok (.iconst 0, 1) := by decide +kernel
theorem dX6_make_80 : decode cX6_make 80 = .ok (.invokevirtual 86, 3) := by decide +kernel
theorem dX6_make_83 : decode cX6_make 83 = .ok (.ireturn, 1) := by decide +kernel
theorem dX6_move_0 : decode cX6_move 0 = .ok (.aload_n 0, 1) := by decide +kernel
theorem dX6_move_1 : decode cX6_move 1 = .ok (.getfield 12, 3) := by decide +kernel
theorem dX6_move_4 : decode cX6_move 4 = .ok (.iload_n 2, 1) := by decide +kernel
theorem dX6_move_5 : decode cX6_move 5 = .ok (.invokevirtual 95, 3) := by decide +kernel
theorem dX6_move_8 : decode cX6_move 8 = .ok (.ifCond .ne 5, 3) := by decide +kernel
theorem dX6_move_11 : decode cX6_move 11 = .ok (.iconst (-1), 1) := by decide +kernel
theorem dX6_move_12 : decode cX6_move 12 = .ok (.ireturn, 1) := by decide +kernel
theorem dX6_move_13 : decode cX6_move 13 = .ok (.iload_n 1, 1) := by decide +kernel
theorem dX6_move_14 : decode cX6_move 14 = .ok (.iconst 1, 1) := by decide +kernel
theorem dX6_move_15 : decode cX6_move 15 = .ok (.invokestatic 68, 3) := by decide +kernel
theorem dX6_move_18 : decode cX6_move 18 = .ok (.ifCond .eq 12, 3) := by decide +kernel
theorem dX6_move_21 : decode cX6_move 21 = .ok (.iload_n 3, 1) := by decide +kernel
theorem dX6_move_22 : decode cX6_move 22 = .ok (.bipush 40, 2) := by decide +kernel
theorem dX6_move_24 : decode cX6_move 24 = .ok (.invokestatic 68, 3) := by decide +kernel
theorem dX6_move_27 : decode cX6_move 27 = .ok (.ifCond .ne 6, 3) := by decide +kernel
theorem dX6_move_30 : decode cX6_move 30 = .ok (.bipush (-2), 2) := by decide +kernel
theorem dX6_move_32 : decode cX6_move 32 = .ok (.ireturn, 1) := by decide +kernel
theorem dX6_move_33 : decode cX6_move 33 = .ok (.aload_n 0, 1) := by decide +kernel
theorem dX6_move_34 : decode cX6_move 34 = .ok (.getfield 12, 3) := by decide +kernel
theorem dX6_move_37 : decode cX6_move 37 = .ok (.invokevirtual 72, 3) := by decide +kernel
theorem dX6_move_40 : decode cX6_move 40 = .ok (.ifCond .eq 6, 3) := by decide +kernel
theorem dX6_move_43 : decode cX6_move 43 = .ok (.bipush (-4), 2) := by decide +kernel
theorem dX6_move_45 : decode cX6_move 45 = .ok (.ireturn, 1) := by decide +kernel
theorem dX6_move_46 : decode cX6_move 46 = .ok (.iload_n 1, 1) := by decide +kernel
theorem dX6_move_47 : decode cX6_move 47 = .ok (.ifCond .ne 25, 3) := by decide +kernel
theorem dX6_move_50 : decode cX6_move 50 = .ok (.aload_n 0, 1) := by decide +kernel
theorem dX6_move_51 : decode cX6_move 51 = .ok (.getfield 12, 3) := by decide +kernel
theorem dX6_move_54 : decode cX6_move 54 = .ok (.iload_n 2, 1) := by decide +kernel
theorem dX6_move_55 : decode cX6_move 55 = .ok (.invokevirtual 99, 3) := by decide +kernel
theorem dX6_move_58 : decode cX6_move 58 = .ok (.iload_n 3, 1) := by decide +kernel
theorem dX6_move_59 : decode cX6_move 59 = .ok (.aload_n 0, 1) := by decide +kernel
theorem dX6_move_60 : decode cX6_move 60 = .ok (.getfield 12, 3) := by decide +kernel
theorem dX6_move_63 : decode cX6_move 63 = .ok (.invokevirtual 76, 3) := by decide +kernel
theorem dX6_move_66 : decode cX6_move 66 = .ok (.invokestatic 132, 3) := by decide +kernel
theorem dX6_move_69 : decode cX6_move 69 = .ok (.goto 22, 3) := by decide +kernel
theorem dX6_move_72 : decode cX6_move 72 = .ok (.aload_n 0, 1) := by decide +kernel
theorem dX6_move_73 : decode cX6_move 73 = .ok (.getfield 12, 3) := by decide +kernel
theorem dX6_move_76 : decode cX6_move 76 = .ok (.iload_n 2, 1) := by decide +kernel
theorem dX6_move_77 : decode cX6_move 77 = .ok (.invokevirtual 99, 3) := by decide +kernel
theorem dX6_move_80 : decode cX6_move 80 = .ok (.iload_n 3, 1) := by decide +kernel
theorem dX6_move_81 : decode cX6_move 81 = .ok (.aload_n 0, 1) := by decide +kernel
theorem dX6_move_82 : decode cX6_move 82 = .ok (.getfield 12, 3) := by decide +kernel
theorem dX6_move_85 : decode cX6_move 85 = .ok (.invokevirtual 76, 3) := by decide +kernel
theorem dX6_move_88 : decode cX6_move 88 = .ok (.invokestatic 135, 3) := by decide +kernel
theorem dX6_move_91 : decode cX6_move 91 = .ok (.aload_n 0, 1) := by decide +kernel
theorem dX6_move_92 : decode cX6_move 92 = .ok (.getfield 12, 3) := by decide +kernel
theorem dX6_move_95 : decode cX6_move 95 = .ok (.iconst 0, 1) := by decide +kernel
theorem dX6_move_96 : decode cX6_move 96 = .ok (.invokevirtual 86, 3) := by decide +kernel
theorem dX6_move_99 : decode cX6_move 99 = .ok (.ireturn, 1) := by decide +kernel
theorem dX6_delay_0 : decode cX6_delay 0 = .ok (.aload_n 0, 1) := by decide +kernel
theorem dX6_delay_1 : decode cX6_delay 1 = .ok (.getfield 12, 3) := by decide +kernel
theorem dX6_delay_4 : decode cX6_delay 4 = .ok (.iload_n 1, 1) := by decide +kernel
theorem dX6_delay_5 : decode cX6_delay 5 = .ok (.invokevirtual 95, 3) := by decide +kernel
theorem dX6_delay_8 : decode cX6_delay 8 = .ok (.ifCond .eq 14, 3) := by decide +kernel
theorem dX6_delay_11 : decode cX6_delay 11 = .ok (.aload_n 0, 1) := by decide +kernel
theorem dX6_delay_12 : decode cX6_delay 12 = .ok (.getfield 12, 3) := by decide +kernel
theorem dX6_delay_15 : decode cX6_delay 15 = .ok (.iload_n 2, 1) := by decide +kernel
theorem dX6_delay_16 : decode cX6_delay 16 = .ok (.invokevirtual 95, 3) := by decide +kernel
theorem dX6_delay_19 : decode cX6_delay 19 = .ok (.ifCond .ne 5, 3) := by decide +kernel
theorem dX6_delay_22 : decode cX6_delay 22 = .ok (.iconst (-1), 1) := by decide +kernel
theorem dX6_delay_23 : decode cX6_delay 23 = .ok (.ireturn, 1) := by decide +kernel
theorem dX6_delay_24 : decode cX6_delay 24 = .ok (.aload_n 0, 1) := by decide +kernel
theorem dX6_delay_25 : decode cX6_delay 25 = .ok (.getfield 12, 3) := by decide +kernel
theorem dX6_delay_28 : decode cX6_delay 28 = .ok (.iload_n 1, 1) := by decide +kernel
theorem dX6_delay_29 : decode cX6_delay 29 = .ok (.invokevirtual 99, 3) := by decide +kernel
theorem dX6_delay_32 : decode cX6_delay 32 = .ok (.aload_n 0, 1) := by decide +kernel
theorem dX6_delay_33 : decode cX6_delay 33 = .ok (.getfield 12, 3) := by decide +kernel
theorem dX6_delay_36 : decode cX6_delay 36 = .ok (.iload_n 2, 1) := by decide +kernel
theorem dX6_delay_37 : decode cX6_delay 37 = .ok (.invokevirtual 99, 3) := by decide +kernel
theorem dX6_delay_40 : decode cX6_delay 40 = .ok (.bipush 20, 2) := by decide +kernel
theorem dX6_delay_42 : decode cX6_delay 42 = .ok (.invokestatic 138, 3) := by decide +kernel
theorem dX6_delay_45 : decode cX6_delay 45 = .ok (.ireturn, 1) := by decide +kernel
theorem dX6_heap_0 : decode cX6_heap 0 = .ok (.aload_n 0, 1) := by decide +kernel
theorem dX6_heap_1 : decode cX6_heap 1 = .ok (.getfield 12, 3) := by decide +kernel
theorem dX6_heap_4 : decode cX6_heap 4 = .ok (.iload_n 1, 1) := by decide +kernel
theorem dX6_heap_5 : decode cX6_heap 5 = .ok (.invokevirtual 95, 3) := by decide +kernel
theorem dX6_heap_8 : decode cX6_heap 8 = .ok (.ifCond .eq 14, 3) := by decide +kernel
theorem dX6_heap_11 : decode cX6_heap 11 = .ok (.aload_n 0, 1) := by decide +kernel
theorem dX6_heap_12 : decode cX6_heap 12 = .ok (.getfield 12, 3) := by decide +kernel
theorem dX6_heap_15 : decode cX6_heap 15 = .ok (.iload_n 2, 1) := by decide +kernel
theorem dX6_heap_16 : decode cX6_heap 16 = .ok (.invokevirtual 95, 3) := by decide +kernel
theorem dX6_heap_19 : decode cX6_heap 19 = .ok (.ifCond .ne 5, 3) := by decide +kernel
theorem dX6_heap_22 : decode cX6_heap 22 = .ok (.iconst (-1), 1) := by decide +kernel
theorem dX6_heap_23 : decode cX6_heap 23 = .ok (.ireturn, 1) := by decide +kernel
theorem dX6_heap_24 : decode cX6_heap 24 = .ok (.aload_n 0, 1) := by decide +kernel
theorem dX6_heap_25 : decode cX6_heap 25 = .ok (.getfield 12, 3) := by decide +kernel
theorem dX6_heap_28 : decode cX6_heap 28 = .ok (.iload_n 1, 1) := by decide +kernel
theorem dX6_heap_29 : decode cX6_heap 29 = .ok (.invokevirtual 99, 3) := by decide +kernel
theorem dX6_heap_32 : decode cX6_heap 32 = .ok (.aload_n 0, 1) := by decide +kernel
theorem dX6_heap_33 : decode cX6_heap 33 = .ok (.getfield 12, 3) := by decide +kernel
theorem dX6_heap_36 : decode cX6_heap 36 = .ok (.iload_n 2, 1) := by decide +kernel
theorem dX6_heap_37 : decode cX6_heap 37 = .ok (.invokevirtual 99, 3) := by decide +kernel
theorem dX6_heap_40 : decode cX6_heap 40 = .ok (.invokestatic 142, 3) := by decide +kernel
theorem dX6_heap_43 : decode cX6_heap 43 = .ok (.ireturn, 1) := by decide +kernel
theorem dX6_within_0 : decode cX6_within 0 = .ok (.aload_n 0, 1) := by decide +kernel
theorem dX6_within_1 : decode cX6_within 1 = .ok (.getfield 12, 3) := by decide +kernel
theorem dX6_within_4 : decode cX6_within 4 = .ok (.iload_n 1, 1) := by decide +kernel
theorem dX6_within_5 : decode cX6_within 5 = .ok (.invokevirtual 95, 3) := by decide +kernel
theorem dX6_within_8 : decode cX6_within 8 = .ok (.ifCond .eq 14, 3) := by decide +kernel
theorem dX6_within_11 : decode cX6_within 11 = .ok (.aload_n 0, 1) := by decide +kernel
theorem dX6_within_12 : decode cX6_within 12 = .ok (.getfield 12, 3) := by decide +kernel
theorem dX6_within_15 : decode cX6_within 15 = .ok (.iload_n 2, 1) := by decide +kernel
theorem dX6_within_16 : decode cX6_within 16 = .ok (.invokevirtual 95, 3) := by decide +kernel
theorem dX6_within_19 : decode cX6_within 19 = .ok (.ifCond .ne 5, 3) := by decide +kernel
theorem dX6_within_22 : decode cX6_within 22 = .ok (.iconst (-1), 1) := by decide +kernel
theorem dX6_within_23 : decode cX6_within 23 = .ok (.ireturn, 1) := by decide +kernel
theorem dX6_within_24 : decode cX6_within 24 = .ok (.aload_n 0, 1) := by decide +kernel
theorem dX6_within_25 : decode cX6_within 25 = .ok (.getfield 12, 3) := by decide +kernel
theorem dX6_within_28 : decode cX6_within 28 = .ok (.iload_n 1, 1) := by decide +kernel
theorem dX6_within_29 : decode cX6_within 29 = .ok (.invokevirtual 99, 3) := by decide +kernel
theorem dX6_within_32 : decode cX6_within 32 = .ok (.aload_n 0, 1) := by decide +kernel
theorem dX6_within_33 : decode cX6_within 33 = .ok (.getfield 12, 3) := by decide +kernel
theorem dX6_within_36 : decode cX6_within 36 = .ok (.iload_n 2, 1) := by decide +kernel
theorem dX6_within_37 : decode cX6_within 37 = .ok (.invokevirtual 99, 3) := by decide +kernel
theorem dX6_within_40 : decode cX6_within 40 = .ok (.invokestatic 142, 3) := by decide +kernel
theorem dX6_within_43 : decode cX6_within 43 = .ok (.ifCond .ne 7, 3) := by decide +kernel
theorem dX6_within_46 : decode cX6_within 46 = .ok (.iconst 1, 1) := by decide +kernel
theorem dX6_within_47 : decode cX6_within 47 = .ok (.goto 4, 3) := by decide +kernel
theorem dX6_within_50 : decode cX6_within 50 = .ok (.iconst 0, 1) := by decide +kernel
theorem dX6_within_51 : decode cX6_within 51 = .ok (.ireturn, 1) := by decide +kernel
theorem dX6_serve_0 : decode cX6_serve 0 = .ok (.iload_n 1, 1) := by decide +kernel
theorem dX6_serve_1 : decode cX6_serve 1 = .ok (.iconst 5, 1) := by decide +kernel
theorem dX6_serve_2 : decode cX6_serve 2 = .ok (.invokestatic 68, 3) := by decide +kernel
theorem dX6_serve_5 : decode cX6_serve 5 = .ok (.ifCond .eq 20, 3) := by decide +kernel
theorem dX6_serve_8 : decode cX6_serve 8 = .ok (.iload_n 2, 1) := by decide +kernel
theorem dX6_serve_9 : decode cX6_serve 9 = .ok (.bipush (-9), 2) := by decide +kernel
theorem dX6_serve_11 : decode cX6_serve 11 = .ok (.if_icmp .eq 16, 3) := by decide +kernel
theorem dX6_serve_14 : decode cX6_serve 14 = .ok (.aload_n 0, 1) := by decide +kernel
theorem dX6_serve_15 : decode cX6_serve 15 = .ok (.getfield 12, 3) := by decide +kernel
theorem dX6_serve_18 : decode cX6_serve 18 = .ok (.iload_n 2, 1) := by decide +kernel
theorem dX6_serve_19 : decode cX6_serve 19 = .ok (.invokevirtual 95, 3) := by decide +kernel
theorem dX6_serve_22 : decode cX6_serve 22 = .ok (.ifCond .ne 5, 3) := by decide +kernel
theorem dX6_serve_25 : decode cX6_serve 25 = .ok (.iconst (-1), 1) := by decide +kernel
theorem dX6_serve_26 : decode cX6_serve 26 = .ok (.ireturn, 1) := by decide +kernel
theorem dX6_serve_27 : decode cX6_serve 27 = .ok (.aload_n 0, 1) := by decide +kernel
theorem dX6_serve_28 : decode cX6_serve 28 = .ok (.getfield 21, 3) := by decide +kernel
theorem dX6_serve_31 : decode cX6_serve 31 = .ok (.getfield 146, 3) := by decide +kernel
theorem dX6_serve_34 : decode cX6_serve 34 = .ok (.iload_n 1, 1) := by decide +kernel
theorem dX6_serve_35 : decode cX6_serve 35 = .ok (.iaload, 1) := by decide +kernel
theorem dX6_serve_36 : decode cX6_serve 36 = .ok (.istore_n 3, 1) := by decide +kernel
theorem dX6_serve_37 : decode cX6_serve 37 = .ok (.iload_n 2, 1) := by decide +kernel
theorem dX6_serve_38 : decode cX6_serve 38 = .ok (.bipush (-9), 2) := by decide +kernel
theorem dX6_serve_40 : decode cX6_serve 40 = .ok (.if_icmp .ne 14, 3) := by decide +kernel
theorem dX6_serve_43 : decode cX6_serve 43 = .ok (.aload_n 0, 1) := by decide +kernel
theorem dX6_serve_44 : decode cX6_serve 44 = .ok (.getfield 21, 3) := by decide +kernel
theorem dX6_serve_47 : decode cX6_serve 47 = .ok (.iload_n 1, 1) := by decide +kernel
theorem dX6_serve_48 : decode cX6_serve 48 = .ok (.invokevirtual 149, 3) := by decide +kernel
theorem dX6_serve_51 : decode cX6_serve 51 = .ok (.goto 20, 3) := by decide +kernel
theorem dX6_serve_54 : decode cX6_serve 54 = .ok (.aload_n 0, 1) := by decide +kernel
theorem dX6_serve_55 : decode cX6_serve 55 = .ok (.getfield 21, 3) := by decide +kernel
theorem dX6_serve_58 : decode cX6_serve 58 = .ok (.iload_n 1, 1) := by decide +kernel
theorem dX6_serve_59 : decode cX6_serve 59 = .ok (.iload_n 2, 1) := by decide +kernel
theorem dX6_serve_60 : decode cX6_serve 60 = .ok (.aload_n 0, 1) := by decide +kernel
theorem dX6_serve_61 : decode cX6_serve 61 = .ok (.getfield 12, 3) := by decide +kernel
theorem dX6_serve_64 : decode cX6_serve 64 = .ok (.iload_n 2, 1) := by decide +kernel
theorem dX6_serve_65 : decode cX6_serve 65 = .ok (.invokevirtual 99, 3) := by decide +kernel
theorem dX6_serve_68 : decode cX6_serve 68 = .ok (.invokevirtual 153, 3) := by decide +kernel
theorem dX6_serve_71 : decode cX6_serve 71 = .ok (.iload_n 3, 1) := by decide +kernel
theorem dX6_serve_72 : decode cX6_serve 72 = .ok (.ireturn, 1) := by decide +kernel
theorem dX6_flow_0 : decode cX6_flow 0 = .ok (.aload_n 0, 1) := by decide +kernel
theorem dX6_flow_1 : decode cX6_flow 1 = .ok (.aload_n 0, 1) := by decide +kernel
theorem dX6_flow_2 : decode cX6_flow 2 = .ok (.iload_n 1, 1) := by decide +kernel
theorem dX6_flow_3 : decode cX6_flow 3 = .ok (.iload_n 2, 1) := by decide +kernel
theorem dX6_flow_4 : decode cX6_flow 4 = .ok (.iload_n 3, 1) := by decide +kernel
theorem dX6_flow_5 : decode cX6_flow 5 = .ok (.iload 4, 2) := by decide +kernel
theorem dX6_flow_7 : decode cX6_flow 7 = .ok (.iload 5, 2) := by decide +kernel
theorem dX6_flow_9 : decode cX6_flow 9 = .ok (.invokevirtual 156, 3) := by decide +kernel
theorem dX6_flow_12 : decode cX6_flow 12 = .ok (.invokevirtual 64, 3) := by decide +kernel
theorem dX6_flow_15 : decode cX6_flow 15 = .ok (.ireturn, 1) := by decide +kernel
theorem dX6_ofFlow_0 : decode cX6_ofFlow 0 = .ok (.aload_n 0, 1) := by decide +kernel
theorem dX6_ofFlow_1 : decode cX6_ofFlow 1 = .ok (.getfield 21, 3) := by decide +kernel
theorem dX6_ofFlow_4 : decode cX6_ofFlow 4 = .ok (.iload_n 1, 1) := by decide +kernel
theorem dX6_ofFlow_5 : decode cX6_ofFlow 5 = .ok (.invokevirtual 160, 3) := by decide +kernel
theorem dX6_ofFlow_8 : decode cX6_ofFlow 8 = .ok (.ifCond .ne 5, 3) := by decide +kernel
theorem dX6_ofFlow_11 : decode cX6_ofFlow 11 = .ok (.iconst (-1), 1) := by decide +kernel
theorem dX6_ofFlow_12 : decode cX6_ofFlow 12 = .ok (.ireturn, 1) := by decide +kernel
theorem dX6_ofFlow_13 : decode cX6_ofFlow 13 = .ok (.iload_n 2, 1) := by decide +kernel
theorem dX6_ofFlow_14 : decode cX6_ofFlow 14 = .ok (.ifCond .ne 13, 3) := by decide +kernel
theorem dX6_ofFlow_17 : decode cX6_ofFlow 17 = .ok (.aload_n 0, 1) := by decide +kernel
theorem dX6_ofFlow_18 : decode cX6_ofFlow 18 = .ok (.getfield 21, 3) := by decide +kernel
theorem dX6_ofFlow_21 : decode cX6_ofFlow 21 = .ok (.getfield 163, 3) := by decide +kernel
theorem dX6_ofFlow_24 : decode cX6_ofFlow 24 = .ok (.iload_n 1, 1) := by decide +kernel
theorem dX6_ofFlow_25 : decode cX6_ofFlow 25 = .ok (.iaload, 1) := by decide +kernel
theorem dX6_ofFlow_26 : decode cX6_ofFlow 26 = .ok (.ireturn, 1) := by decide +kernel
theorem dX6_ofFlow_27 : decode cX6_ofFlow 27 = .ok (.iload_n 2, 1) := by decide +kernel
theorem dX6_ofFlow_28 : decode cX6_ofFlow 28 = .ok (.iconst 1, 1) := by decide +kernel
theorem dX6_ofFlow_29 : decode cX6_ofFlow 29 = .ok (.if_icmp .ne 13, 3) := by decide +kernel
theorem dX6_ofFlow_32 : decode cX6_ofFlow 32 = .ok (.aload_n 0, 1) := by decide +kernel
theorem dX6_ofFlow_33 : decode cX6_ofFlow 33 = .ok (.getfield 21, 3) := by decide +kernel
theorem dX6_ofFlow_36 : decode cX6_ofFlow 36 = .ok (.getfield 166, 3) := by decide +kernel
theorem dX6_ofFlow_39 : decode cX6_ofFlow 39 = .ok (.iload_n 1, 1) := by decide +kernel
theorem dX6_ofFlow_40 : decode cX6_ofFlow 40 = .ok (.iaload, 1) := by decide +kernel
theorem dX6_ofFlow_41 : decode cX6_ofFlow 41 = .ok (.ireturn, 1) := by decide +kernel
theorem dX6_ofFlow_42 : decode cX6_ofFlow 42 = .ok (.iload_n 2, 1) := by decide +kernel
theorem dX6_ofFlow_43 : decode cX6_ofFlow 43 = .ok (.bipush 10, 2) := by decide +kernel
theorem dX6_ofFlow_45 : decode cX6_ofFlow 45 = .ok (.if_icmp .lt 33, 3) := by decide +kernel
theorem dX6_ofFlow_48 : decode cX6_ofFlow 48 = .ok (.aload_n 0, 1) := by decide +kernel
theorem dX6_ofFlow_49 : decode cX6_ofFlow 49 = .ok (.getfield 21, 3) := by decide +kernel
theorem dX6_ofFlow_52 : decode cX6_ofFlow 52 = .ok (.iload_n 1, 1) := by decide +kernel
theorem dX6_ofFlow_53 : decode cX6_ofFlow 53 = .ok (.iload_n 2, 1) := by decide +kernel
theorem dX6_ofFlow_54 : decode cX6_ofFlow 54 = .ok (.bipush 10, 2) := by decide +kernel
theorem dX6_ofFlow_56 : decode cX6_ofFlow 56 = .ok (.isub, 1) := by decide +kernel
theorem dX6_ofFlow_57 : decode cX6_ofFlow 57 = .ok (.invokevirtual 169, 3) := by decide +kernel
theorem dX6_ofFlow_60 : decode cX6_ofFlow 60 = .ok (.ifCond .eq 18, 3) := by decide +kernel
theorem dX6_ofFlow_63 : decode cX6_ofFlow 63 = .ok (.aload_n 0, 1) := by decide +kernel
theorem dX6_ofFlow_64 : decode cX6_ofFlow 64 = .ok (.getfield 21, 3) := by decide +kernel
theorem dX6_ofFlow_67 : decode cX6_ofFlow 67 = .ok (.getfield 172, 3) := by decide +kernel
theorem dX6_ofFlow_70 : decode cX6_ofFlow 70 = .ok (.iload_n 1, 1) := by decide +kernel
theorem dX6_ofFlow_71 : decode cX6_ofFlow 71 = .ok (.aaload, 1) := by decide +kernel
theorem dX6_ofFlow_72 : decode cX6_ofFlow 72 = .ok (.iload_n 2, 1) := by decide +kernel
theorem dX6_ofFlow_73 : decode cX6_ofFlow 73 = .ok (.bipush 10, 2) := by decide +kernel
theorem dX6_ofFlow_75 : decode cX6_ofFlow 75 = .ok (.isub, 1) := by decide +kernel
theorem dX6_ofFlow_76 : decode cX6_ofFlow 76 = .ok (.iaload, 1) := by decide +kernel
theorem dX6_ofFlow_77 : decode cX6_ofFlow 77 = .ok (.ireturn, 1) := by decide +kernel
theorem dX6_ofFlow_78 : decode cX6_ofFlow 78 = .ok (.bipush (-2), 2) := by decide +kernel
theorem dX6_ofFlow_80 : decode cX6_ofFlow 80 = .ok (.ireturn, 1) := by decide +kernel
theorem dX6_rule_0 : decode cX6_rule 0 = .ok (.iload_n 1, 1) := by decide +kernel
theorem dX6_rule_1 : decode cX6_rule 1 = .ok (.iconst 2, 1) := by decide +kernel
theorem dX6_rule_2 : decode cX6_rule 2 = .ok (.invokestatic 68, 3) := by decide +kernel
theorem dX6_rule_5 : decode cX6_rule 5 = .ok (.ifCond .ne 6, 3) := by decide +kernel
theorem dX6_rule_8 : decode cX6_rule 8 = .ok (.bipush (-2), 2) := by decide +kernel
theorem dX6_rule_10 : decode cX6_rule 10 = .ok (.ireturn, 1) := by decide +kernel
theorem dX6_rule_11 : decode cX6_rule 11 = .ok (.aload_n 0, 1) := by decide +kernel
theorem dX6_rule_12 : decode cX6_rule 12 = .ok (.getfield 21, 3) := by decide +kernel
theorem dX6_rule_15 : decode cX6_rule 15 = .ok (.getfield 176, 3) := by decide +kernel
theorem dX6_rule_18 : decode cX6_rule 18 = .ok (.istore_n 2, 1) := by decide +kernel
theorem dX6_rule_19 : decode cX6_rule 19 = .ok (.aload_n 0, 1) := by decide +kernel
theorem dX6_rule_20 : decode cX6_rule 20 = .ok (.getfield 21, 3) := by decide +kernel
theorem dX6_rule_23 : decode cX6_rule 23 = .ok (.iload_n 1, 1) := by decide +kernel
theorem dX6_rule_24 : decode cX6_rule 24 = .ok (.invokevirtual 179, 3) := by decide +kernel
theorem dX6_rule_27 : decode cX6_rule 27 = .ok (.iload_n 2, 1) := by decide +kernel
theorem dX6_rule_28 : decode cX6_rule 28 = .ok (.ireturn, 1) := by decide +kernel
theorem dX6_ring_0 : decode cX6_ring 0 = .ok (.aload_n 0, 1) := by decide +kernel
theorem dX6_ring_1 : decode cX6_ring 1 = .ok (.getfield 21, 3) := by decide +kernel
theorem dX6_ring_4 : decode cX6_ring 4 = .ok (.invokevirtual 182, 3) := by decide +kernel
theorem dX6_ring_7 : decode cX6_ring 7 = .ok (.ifCond .eq 7, 3) := by decide +kernel
theorem dX6_ring_10 : decode cX6_ring 10 = .ok (.iconst 1, 1) := by decide +kernel
theorem dX6_ring_11 : decode cX6_ring 11 = .ok (.goto 4, 3) := by decide +kernel
theorem dX6_ring_14 : decode cX6_ring 14 = .ok (.iconst 0, 1) := by decide +kernel
theorem dX6_ring_15 : decode cX6_ring 15 = .ok (.ireturn, 1) := by decide +kernel
theorem dX6_latest_0 : decode cX6_latest 0 = .ok (.aload_n 0, 1) := by decide +kernel
theorem dX6_latest_1 : decode cX6_latest 1 = .ok (.getfield 21, 3) := by decide +kernel
theorem dX6_latest_4 : decode cX6_latest 4 = .ok (.iload_n 1, 1) := by decide +kernel
theorem dX6_latest_5 : decode cX6_latest 5 = .ok (.iload_n 2, 1) := by decide +kernel
theorem dX6_latest_6 : decode cX6_latest 6 = .ok (.invokevirtual 169, 3) := by decide +kernel
theorem dX6_latest_9 : decode cX6_latest 9 = .ok (.ifCond .ne 5, 3) := by decide +kernel
theorem dX6_latest_12 : decode cX6_latest 12 = .ok (.iconst (-1), 1) := by decide +kernel
theorem dX6_latest_13 : decode cX6_latest 13 = .ok (.ireturn, 1) := by decide +kernel
theorem dX6_latest_14 : decode cX6_latest 14 = .ok (.aload_n 0, 1) := by decide +kernel
theorem dX6_latest_15 : decode cX6_latest 15 = .ok (.getfield 21, 3) := by decide +kernel
theorem dX6_latest_18 : decode cX6_latest 18 = .ok (.invokevirtual 185, 3) := by decide +kernel
theorem dX6_latest_21 : decode cX6_latest 21 = .ok (.ifCond .ne 6, 3) := by decide +kernel
theorem dX6_latest_24 : decode cX6_latest 24 = .ok (.bipush (-3), 2) := by decide +kernel
theorem dX6_latest_26 : decode cX6_latest 26 = .ok (.ireturn, 1) := by decide +kernel
theorem dX6_latest_27 : decode cX6_latest 27 = .ok (.aload_n 0, 1) := by decide +kernel
theorem dX6_latest_28 : decode cX6_latest 28 = .ok (.getfield 21, 3) := by decide +kernel
theorem dX6_latest_31 : decode cX6_latest 31 = .ok (.iload_n 1, 1) := by decide +kernel
theorem dX6_latest_32 : decode cX6_latest 32 = .ok (.iload_n 2, 1) := by decide +kernel
theorem dX6_latest_33 : decode cX6_latest 33 = .ok (.invokevirtual 188, 3) := by decide +kernel
theorem dX6_latest_36 : decode cX6_latest 36 = .ok (.ireturn, 1) := by decide +kernel
theorem dX6_there_0 : decode cX6_there 0 = .ok (.aload_n 0, 1) := by decide +kernel
theorem dX6_there_1 : decode cX6_there 1 = .ok (.getfield 21, 3) := by decide +kernel
theorem dX6_there_4 : decode cX6_there 4 = .ok (.iload_n 1, 1) := by decide +kernel
theorem dX6_there_5 : decode cX6_there 5 = .ok (.iload_n 2, 1) := by decide +kernel
theorem dX6_there_6 : decode cX6_there 6 = .ok (.invokevirtual 169, 3) := by decide +kernel
theorem dX6_there_9 : decode cX6_there 9 = .ok (.ifCond .ne 5, 3) := by decide +kernel
theorem dX6_there_12 : decode cX6_there 12 = .ok (.iconst (-1), 1) := by decide +kernel
theorem dX6_there_13 : decode cX6_there 13 = .ok (.ireturn, 1) := by decide +kernel
theorem dX6_there_14 : decode cX6_there 14 = .ok (.iload_n 3, 1) := by decide +kernel
theorem dX6_there_15 : decode cX6_there 15 = .ok (.iconst 2, 1) := by decide +kernel
theorem dX6_there_16 : decode cX6_there 16 = .ok (.invokestatic 68, 3) := by decide +kernel
theorem dX6_there_19 : decode cX6_there 19 = .ok (.ifCond .eq 13, 3) := by decide +kernel
theorem dX6_there_22 : decode cX6_there 22 = .ok (.iload 4, 2) := by decide +kernel
theorem dX6_there_24 : decode cX6_there 24 = .ok (.bipush 40, 2) := by decide +kernel
theorem dX6_there_26 : decode cX6_there 26 = .ok (.invokestatic 68, 3) := by decide +kernel
theorem dX6_there_29 : decode cX6_there 29 = .ok (.ifCond .ne 6, 3) := by decide +kernel
theorem dX6_there_32 : decode cX6_there 32 = .ok (.bipush (-2), 2) := by decide +kernel
theorem dX6_there_34 : decode cX6_there 34 = .ok (.ireturn, 1) := by decide +kernel
theorem dX6_there_35 : decode cX6_there 35 = .ok (.aload_n 0, 1) := by decide +kernel
theorem dX6_there_36 : decode cX6_there 36 = .ok (.getfield 21, 3) := by decide +kernel
theorem dX6_there_39 : decode cX6_there 39 = .ok (.invokevirtual 185, 3) := by decide +kernel
theorem dX6_there_42 : decode cX6_there 42 = .ok (.ifCond .ne 6, 3) := by decide +kernel
theorem dX6_there_45 : decode cX6_there 45 = .ok (.bipush (-3), 2) := by decide +kernel
theorem dX6_there_47 : decode cX6_there 47 = .ok (.ireturn, 1) := by decide +kernel
theorem dX6_there_48 : decode cX6_there 48 = .ok (.iload_n 3, 1) := by decide +kernel
theorem dX6_there_49 : decode cX6_there 49 = .ok (.ifCond .ne 16, 3) := by decide +kernel
theorem dX6_there_52 : decode cX6_there 52 = .ok (.aload_n 0, 1) := by decide +kernel
theorem dX6_there_53 : decode cX6_there 53 = .ok (.getfield 21, 3) := by decide +kernel
theorem dX6_there_56 : decode cX6_there 56 = .ok (.iload_n 1, 1) := by decide +kernel
theorem dX6_there_57 : decode cX6_there 57 = .ok (.iload_n 2, 1) := by decide +kernel
theorem dX6_there_58 : decode cX6_there 58 = .ok (.invokevirtual 192, 3) := by decide +kernel
theorem dX6_there_61 : decode cX6_there 61 = .ok (.iload 4, 2) := by decide +kernel
theorem dX6_there_63 : decode cX6_there 63 = .ok (.iaload, 1) := by decide +kernel
theorem dX6_there_64 : decode cX6_there 64 = .ok (.ireturn, 1) := by decide +kernel
theorem dX6_there_65 : decode cX6_there 65 = .ok (.iload_n 3, 1) := by decide +kernel
theorem dX6_there_66 : decode cX6_there 66 = .ok (.iconst 1, 1) := by decide +kernel
theorem dX6_there_67 : decode cX6_there 67 = .ok (.if_icmp .ne 18, 3) := by decide +kernel
theorem dX6_there_70 : decode cX6_there 70 = .ok (.aload_n 0, 1) := by decide +kernel
theorem dX6_there_71 : decode cX6_there 71 = .ok (.getfield 21, 3) := by decide +kernel
theorem dX6_there_74 : decode cX6_there 74 = .ok (.iload_n 1, 1) := by decide +kernel
theorem dX6_there_75 : decode cX6_there 75 = .ok (.iload_n 2, 1) := by decide +kernel
theorem dX6_there_76 : decode cX6_there 76 = .ok (.invokevirtual 196, 3) := by decide +kernel
theorem dX6_there_79 : decode cX6_there 79 = .ok (.iload 4, 2) := by decide +kernel
theorem dX6_there_81 : decode cX6_there 81 = .ok (.iaload, 1) := by decide +kernel
theorem dX6_there_82 : decode cX6_there 82 = .ok (.goto 15, 3) := by decide +kernel
theorem dX6_there_85 : decode cX6_there 85 = .ok (.aload_n 0, 1) := by decide +kernel
theorem dX6_there_86 : decode cX6_there 86 = .ok (.getfield 21, 3) := by decide +kernel
theorem dX6_there_89 : decode cX6_there 89 = .ok (.iload_n 1, 1) := by decide +kernel
theorem dX6_there_90 : decode cX6_there 90 = .ok (.iload_n 2, 1) := by decide +kernel
theorem dX6_there_91 : decode cX6_there 91 = .ok (.invokevirtual 199, 3) := by decide +kernel
theorem dX6_there_94 : decode cX6_there 94 = .ok (.iload 4, 2) := by decide +kernel
theorem dX6_there_96 : decode cX6_there 96 = .ok (.iaload, 1) := by decide +kernel
theorem dX6_there_97 : decode cX6_there 97 = .ok (.ireturn, 1) := by decide +kernel
theorem dX6_heapAt_0 : decode cX6_heapAt 0 = .ok (.iload_n 1, 1) := by decide +kernel
theorem dX6_heapAt_1 : decode cX6_heapAt 1 = .ok (.iconst 5, 1) := by decide +kernel
theorem dX6_heapAt_2 : decode cX6_heapAt 2 = .ok (.invokestatic 68, 3) := by decide +kernel
theorem dX6_heapAt_5 : decode cX6_heapAt 5 = .ok (.ifCond .ne 5, 3) := by decide +kernel
theorem dX6_heapAt_8 : decode cX6_heapAt 8 = .ok (.iconst (-1), 1) := by decide +kernel
theorem dX6_heapAt_9 : decode cX6_heapAt 9 = .ok (.ireturn, 1) := by decide +kernel
theorem dX6_heapAt_10 : decode cX6_heapAt 10 = .ok (.aload_n 0, 1) := by decide +kernel
theorem dX6_heapAt_11 : decode cX6_heapAt 11 = .ok (.getfield 21, 3) := by decide +kernel
theorem dX6_heapAt_14 : decode cX6_heapAt 14 = .ok (.getfield 146, 3) := by decide +kernel
theorem dX6_heapAt_17 : decode cX6_heapAt 17 = .ok (.iload_n 1, 1) := by decide +kernel
theorem dX6_heapAt_18 : decode cX6_heapAt 18 = .ok (.iaload, 1) := by decide +kernel
theorem dX6_heapAt_19 : decode cX6_heapAt 19 = .ok (.bipush (-9), 2) := by decide +kernel
theorem dX6_heapAt_21 : decode cX6_heapAt 21 = .ok (.if_icmp .eq 13, 3) := by decide +kernel
theorem dX6_heapAt_24 : decode cX6_heapAt 24 = .ok (.aload_n 0, 1) := by decide +kernel
theorem dX6_heapAt_25 : decode cX6_heapAt 25 = .ok (.getfield 21, 3) := by decide +kernel
theorem dX6_heapAt_28 : decode cX6_heapAt 28 = .ok (.invokevirtual 185, 3) := by decide +kernel
theorem dX6_heapAt_31 : decode cX6_heapAt 31 = .ok (.ifCond .ne 6, 3) := by decide +kernel
theorem dX6_heapAt_34 : decode cX6_heapAt 34 = .ok (.bipush (-3), 2) := by decide +kernel
theorem dX6_heapAt_36 : decode cX6_heapAt 36 = .ok (.ireturn, 1) := by decide +kernel
theorem dX6_heapAt_37 : decode cX6_heapAt 37 = .ok (.aload_n 0, 1) := by decide +kernel
theorem dX6_heapAt_38 : decode cX6_heapAt 38 = .ok (.getfield 21, 3) := by decide +kernel
theorem dX6_heapAt_41 : decode cX6_heapAt 41 = .ok (.iload_n 1, 1) := by decide +kernel
theorem dX6_heapAt_42 : decode cX6_heapAt 42 = .ok (.invokevirtual 202, 3) := by decide +kernel
theorem dX6_heapAt_45 : decode cX6_heapAt 45 = .ok (.ireturn, 1) := by decide +kernel
theorem dX6_bound_0 : decode cX6_bound 0 = .ok (.aload_n 0, 1) := by decide +kernel
theorem dX6_bound_1 : decode cX6_bound 1 = .ok (.getfield 21, 3) := by decide +kernel
theorem dX6_bound_4 : decode cX6_bound 4 = .ok (.iload_n 1, 1) := by decide +kernel
theorem dX6_bound_5 : decode cX6_bound 5 = .ok (.invokevirtual 160, 3) := by decide +kernel
theorem dX6_bound_8 : decode cX6_bound 8 = .ok (.ifCond .ne 5, 3) := by decide +kernel
theorem dX6_bound_11 : decode cX6_bound 11 = .ok (.iconst (-1), 1) := by decide +kernel
theorem dX6_bound_12 : decode cX6_bound 12 = .ok (.ireturn, 1) := by decide +kernel
theorem dX6_bound_13 : decode cX6_bound 13 = .ok (.iload_n 2, 1) := by decide +kernel
theorem dX6_bound_14 : decode cX6_bound 14 = .ok (.iconst 1, 1) := by decide +kernel
theorem dX6_bound_15 : decode cX6_bound 15 = .ok (.invokestatic 68, 3) := by decide +kernel
theorem dX6_bound_18 : decode cX6_bound 18 = .ok (.ifCond .ne 6, 3) := by decide +kernel
theorem dX6_bound_21 : decode cX6_bound 21 = .ok (.bipush (-2), 2) := by decide +kernel
theorem dX6_bound_23 : decode cX6_bound 23 = .ok (.ireturn, 1) := by decide +kernel
theorem dX6_bound_24 : decode cX6_bound 24 = .ok (.aload_n 0, 1) := by decide +kernel
theorem dX6_bound_25 : decode cX6_bound 25 = .ok (.getfield 21, 3) := by decide +kernel
theorem dX6_bound_28 : decode cX6_bound 28 = .ok (.invokevirtual 185, 3) := by decide +kernel
theorem dX6_bound_31 : decode cX6_bound 31 = .ok (.ifCond .eq 19, 3) := by decide +kernel
theorem dX6_bound_34 : decode cX6_bound 34 = .ok (.iload_n 2, 1) := by decide +kernel
theorem dX6_bound_35 : decode cX6_bound 35 = .ok (.iconst 1, 1) := by decide +kernel
theorem dX6_bound_36 : decode cX6_bound 36 = .ok (.if_icmp .ne 17, 3) := by decide +kernel
theorem dX6_bound_39 : decode cX6_bound 39 = .ok (.aload_n 0, 1) := by decide +kernel
theorem dX6_bound_40 : decode cX6_bound 40 = .ok (.getfield 21, 3) := by decide +kernel
theorem dX6_bound_43 : decode cX6_bound 43 = .ok (.getfield 176, 3) := by decide +kernel
theorem dX6_bound_46 : decode cX6_bound 46 = .ok (.iconst 2, 1) := by decide +kernel
theorem dX6_bound_47 : decode cX6_bound 47 = .ok (.if_icmp .ne 6, 3) := by decide +kernel
theorem dX6_bound_50 : decode cX6_bound 50 = .ok (.bipush (-3), 2) := by decide +kernel
theorem dX6_bound_52 : decode cX6_bound 52 = .ok (.ireturn, 1) := by decide +kernel
theorem dX6_bound_53 : decode cX6_bound 53 = .ok (.iload_n 2, 1) := by decide +kernel
theorem dX6_bound_54 : decode cX6_bound 54 = .ok (.ifCond .ne 14, 3) := by decide +kernel
theorem dX6_bound_57 : decode cX6_bound 57 = .ok (.aload_n 0, 1) := by decide +kernel
theorem dX6_bound_58 : decode cX6_bound 58 = .ok (.getfield 21, 3) := by decide +kernel
theorem dX6_bound_61 : decode cX6_bound 61 = .ok (.iload_n 1, 1) := by decide +kernel
theorem dX6_bound_62 : decode cX6_bound 62 = .ok (.invokevirtual 205, 3) := by decide +kernel
theorem dX6_bound_65 : decode cX6_bound 65 = .ok (.goto 11, 3) := by decide +kernel
theorem dX6_bound_68 : decode cX6_bound 68 = .ok (.aload_n 0, 1) := by decide +kernel
theorem dX6_bound_69 : decode cX6_bound 69 = .ok (.getfield 21, 3) := by decide +kernel
theorem dX6_bound_72 : decode cX6_bound 72 = .ok (.iload_n 1, 1) := by decide +kernel
theorem dX6_bound_73 : decode cX6_bound 73 = .ok (.invokevirtual 208, 3) := by decide +kernel
theorem dX6_bound_76 : decode cX6_bound 76 = .ok (.ireturn, 1) := by decide +kernel
theorem dX6_newFlow_0 : decode cX6_newFlow 0 = .ok (.aload_n 0, 1) := by decide +kernel
theorem dX6_newFlow_1 : decode cX6_newFlow 1 = .ok (.getfield 12, 3) := by decide +kernel
theorem dX6_newFlow_4 : decode cX6_newFlow 4 = .ok (.iload_n 1, 1) := by decide +kernel
theorem dX6_newFlow_5 : decode cX6_newFlow 5 = .ok (.invokevirtual 95, 3) := by decide +kernel
theorem dX6_newFlow_8 : decode cX6_newFlow 8 = .ok (.ifCond .ne 5, 3) := by decide +kernel
theorem dX6_newFlow_11 : decode cX6_newFlow 11 = .ok (.iconst (-1), 1) := by decide +kernel
theorem dX6_newFlow_12 : decode cX6_newFlow 12 = .ok (.ireturn, 1) := by decide +kernel
theorem dX6_newFlow_13 : decode cX6_newFlow 13 = .ok (.aload_n 0, 1) := by decide +kernel
theorem dX6_newFlow_14 : decode cX6_newFlow 14 = .ok (.getfield 35, 3) := by decide +kernel
theorem dX6_newFlow_17 : decode cX6_newFlow 17 = .ok (.iload_n 2, 1) := by decide +kernel
theorem dX6_newFlow_18 : decode cX6_newFlow 18 = .ok (.iload_n 3, 1) := by decide +kernel
theorem dX6_newFlow_19 : decode cX6_newFlow 19 = .ok (.iload 4, 2) := by decide +kernel
theorem dX6_newFlow_21 : decode cX6_newFlow 21 = .ok (.iload 5, 2) := by decide +kernel
theorem dX6_newFlow_23 : decode cX6_newFlow 23 = .ok (.aload_n 0, 1) := by decide +kernel
theorem dX6_newFlow_24 : decode cX6_newFlow 24 = .ok (.getfield 46, 3) := by decide +kernel
theorem dX6_newFlow_27 : decode cX6_newFlow 27 = .ok (.invokevirtual 103, 3) := by decide +kernel
theorem dX6_newFlow_30 : decode cX6_newFlow 30 = .ok (.istore 6, 2) := by decide +kernel
theorem dX6_newFlow_32 : decode cX6_newFlow 32 = .ok (.iload 6, 2) := by decide +kernel
theorem dX6_newFlow_34 : decode cX6_newFlow 34 = .ok (.ifCond .ne 11, 3) := by decide +kernel
theorem dX6_newFlow_37 : decode cX6_newFlow 37 = .ok (.aload_n 0, 1) := by decide +kernel
theorem dX6_newFlow_38 : decode cX6_newFlow 38 = .ok (.iload 5, 2) := by decide +kernel
theorem dX6_newFlow_40 : decode cX6_newFlow 40 = .ok (.invokevirtual 211, 3) := by decide +kernel
theorem dX6_newFlow_43 : decode cX6_newFlow 43 = .ok (.istore 6, 2) := by decide +kernel
theorem dX6_newFlow_45 : decode cX6_newFlow 45 = .ok (.iload 6, 2) := by decide +kernel
theorem dX6_newFlow_47 : decode cX6_newFlow 47 = .ok (.ifCond .eq 6, 3) := by decide +kernel
theorem dX6_newFlow_50 : decode cX6_newFlow 50 = .ok (.iload 6, 2) := by decide +kernel
theorem dX6_newFlow_52 : decode cX6_newFlow 52 = .ok (.ireturn, 1) := by decide +kernel
theorem dX6_newFlow_53 : decode cX6_newFlow 53 = .ok (.aload_n 0, 1) := by decide +kernel
theorem dX6_newFlow_54 : decode cX6_newFlow 54 = .ok (.getfield 21, 3) := by decide +kernel
theorem dX6_newFlow_57 : decode cX6_newFlow 57 = .ok (.invokevirtual 214, 3) := by decide +kernel
theorem dX6_newFlow_60 : decode cX6_newFlow 60 = .ok (.ifCond .eq 6, 3) := by decide +kernel
theorem dX6_newFlow_63 : decode cX6_newFlow 63 = .ok (.bipush (-4), 2) := by decide +kernel
theorem dX6_newFlow_65 : decode cX6_newFlow 65 = .ok (.ireturn, 1) := by decide +kernel
theorem dX6_newFlow_66 : decode cX6_newFlow 66 = .ok (.aload_n 0, 1) := by decide +kernel
theorem dX6_newFlow_67 : decode cX6_newFlow 67 = .ok (.getfield 21, 3) := by decide +kernel
theorem dX6_newFlow_70 : decode cX6_newFlow 70 = .ok (.iload_n 1, 1) := by decide +kernel
theorem dX6_newFlow_71 : decode cX6_newFlow 71 = .ok (.aload_n 0, 1) := by decide +kernel
theorem dX6_newFlow_72 : decode cX6_newFlow 72 = .ok (.getfield 12, 3) := by decide +kernel
theorem dX6_newFlow_75 : decode cX6_newFlow 75 = .ok (.iload_n 1, 1) := by decide +kernel
theorem dX6_newFlow_76 : decode cX6_newFlow 76 = .ok (.invokevirtual 99, 3) := by decide +kernel
theorem dX6_newFlow_79 : decode cX6_newFlow 79 = .ok (.aload_n 0, 1) := by decide +kernel
theorem dX6_newFlow_80 : decode cX6_newFlow 80 = .ok (.getfield 46, 3) := by decide +kernel
theorem dX6_newFlow_83 : decode cX6_newFlow 83 = .ok (.iload 5, 2) := by decide +kernel
theorem dX6_newFlow_85 : decode cX6_newFlow 85 = .ok (.invokevirtual 215, 3) := by decide +kernel
theorem dX6_newFlow_88 : decode cX6_newFlow 88 = .ok (.ireturn, 1) := by decide +kernel
theorem dX6_whyNoWay_0 : decode cX6_whyNoWay 0 = .ok (.iload_n 1, 1) := by decide +kernel
theorem dX6_whyNoWay_1 : decode cX6_whyNoWay 1 = .ok (.iconst 1, 1) := by decide +kernel
theorem dX6_whyNoWay_2 : decode cX6_whyNoWay 2 = .ok (.if_icmp .lt 8, 3) := by decide +kernel
theorem dX6_whyNoWay_5 : decode cX6_whyNoWay 5 = .ok (.iload_n 1, 1) := by decide +kernel
theorem dX6_whyNoWay_6 : decode cX6_whyNoWay 6 = .ok (.iconst 4, 1) := by decide +kernel
theorem dX6_whyNoWay_7 : decode cX6_whyNoWay 7 = .ok (.if_icmp .le 6, 3) := by decide +kernel
theorem dX6_whyNoWay_10 : decode cX6_whyNoWay 10 = .ok (.bipush (-2), 2) := by decide +kernel
theorem dX6_whyNoWay_12 : decode cX6_whyNoWay 12 = .ok (.ireturn, 1) := by decide +kernel
theorem dX6_whyNoWay_13 : decode cX6_whyNoWay 13 = .ok (.iconst 0, 1) := by decide +kernel
theorem dX6_whyNoWay_14 : decode cX6_whyNoWay 14 = .ok (.istore_n 2, 1) := by decide +kernel
theorem dX6_whyNoWay_15 : decode cX6_whyNoWay 15 = .ok (.iload_n 2, 1) := by decide +kernel
theorem dX6_whyNoWay_16 : decode cX6_whyNoWay 16 = .ok (.iload_n 1, 1) := by decide +kernel
theorem dX6_whyNoWay_17 : decode cX6_whyNoWay 17 = .ok (.if_icmp .ge 24, 3) := by decide +kernel
theorem dX6_whyNoWay_20 : decode cX6_whyNoWay 20 = .ok (.aload_n 0, 1) := by decide +kernel
theorem dX6_whyNoWay_21 : decode cX6_whyNoWay 21 = .ok (.getfield 46, 3) := by decide +kernel
theorem dX6_whyNoWay_24 : decode cX6_whyNoWay 24 = .ok (.iload_n 2, 1) := by decide +kernel
theorem dX6_whyNoWay_25 : decode cX6_whyNoWay 25 = .ok (.iaload, 1) := by decide +kernel
theorem dX6_whyNoWay_26 : decode cX6_whyNoWay 26 = .ok (.iconst 5, 1) := by decide +kernel
theorem dX6_whyNoWay_27 : decode cX6_whyNoWay 27 = .ok (.invokestatic 68, 3) := by decide +kernel
theorem dX6_whyNoWay_30 : decode cX6_whyNoWay 30 = .ok (.ifCond .ne 5, 3) := by decide +kernel
theorem dX6_whyNoWay_33 : decode cX6_whyNoWay 33 = .ok (.iconst (-1), 1) := by decide +kernel
theorem dX6_whyNoWay_34 : decode cX6_whyNoWay 34 = .ok (.ireturn, 1) := by decide +kernel
theorem dX6_whyNoWay_35 : decode cX6_whyNoWay 35 = .ok (.iinc 2 1, 3) := by decide +kernel
theorem dX6_whyNoWay_38 : decode cX6_whyNoWay 38 = .ok (.goto (-23), 3) := by decide +kernel
theorem dX6_whyNoWay_41 : decode cX6_whyNoWay 41 = .ok (.iconst 1, 1) := by decide +kernel
theorem dX6_whyNoWay_42 : decode cX6_whyNoWay 42 = .ok (.istore_n 2, 1) := by decide +kernel
theorem dX6_whyNoWay_43 : decode cX6_whyNoWay 43 = .ok (.iload_n 2, 1) := by decide +kernel
theorem dX6_whyNoWay_44 : decode cX6_whyNoWay 44 = .ok (.iload_n 1, 1) := by decide +kernel
theorem dX6_whyNoWay_45 : decode cX6_whyNoWay 45 = .ok (.if_icmp .ge 40, 3) := by decide +kernel
theorem dX6_whyNoWay_48 : decode cX6_whyNoWay 48 = .ok (.iconst 0, 1) := by decide +kernel
theorem dX6_whyNoWay_49 : decode cX6_whyNoWay 49 = .ok (.istore_n 3, 1) := by decide +kernel
theorem dX6_whyNoWay_50 : decode cX6_whyNoWay 50 = .ok (.iload_n 3, 1) := by decide +kernel
theorem dX6_whyNoWay_51 : decode cX6_whyNoWay 51 = .ok (.iload_n 2, 1) := by decide +kernel
theorem dX6_whyNoWay_52 : decode cX6_whyNoWay 52 = .ok (.if_icmp .ge 27, 3) := by decide +kernel
theorem dX6_whyNoWay_55 : decode cX6_whyNoWay 55 = .ok (.aload_n 0, 1) := by decide +kernel
theorem dX6_whyNoWay_56 : decode cX6_whyNoWay 56 = .ok (.getfield 46, 3) := by decide +kernel
theorem dX6_whyNoWay_59 : decode cX6_whyNoWay 59 = .ok (.iload_n 3, 1) := by decide +kernel
theorem dX6_whyNoWay_60 : decode cX6_whyNoWay 60 = .ok (.iaload, 1) := by decide +kernel
theorem dX6_whyNoWay_61 : decode cX6_whyNoWay 61 = .ok (.aload_n 0, 1) := by decide +kernel
theorem dX6_whyNoWay_62 : decode cX6_whyNoWay 62 = .ok (.getfield 46, 3) := by decide +kernel
theorem dX6_whyNoWay_65 : decode cX6_whyNoWay 65 = .ok (.iload_n 2, 1) := by decide +kernel
theorem dX6_whyNoWay_66 : decode cX6_whyNoWay 66 = .ok (.iaload, 1) := by decide +kernel
theorem dX6_whyNoWay_67 : decode cX6_whyNoWay 67 = .ok (.if_icmp .ne 6, 3) := by decide +kernel
theorem dX6_whyNoWay_70 : decode cX6_whyNoWay 70 = .ok (.bipush (-3), 2) := by decide +kernel
theorem dX6_whyNoWay_72 : decode cX6_whyNoWay 72 = .ok (.ireturn, 1) := by decide +kernel
theorem dX6_whyNoWay_73 : decode cX6_whyNoWay 73 = .ok (.iinc 3 1, 3) := by decide +kernel
theorem dX6_whyNoWay_76 : decode cX6_whyNoWay 76 = .ok (.goto (-26), 3) := by decide +kernel
theorem dX6_whyNoWay_79 : decode cX6_whyNoWay 79 = .ok (.iinc 2 1, 3) := by decide +kernel
theorem dX6_whyNoWay_82 : decode cX6_whyNoWay 82 = .ok (.goto (-39), 3) := by decide +kernel
theorem dX6_whyNoWay_85 : decode cX6_whyNoWay 85 = .ok (.iconst 0, 1) := by decide +kernel
theorem dX6_whyNoWay_86 : decode cX6_whyNoWay 86 = .ok (.ireturn, 1) := by decide +kernel
theorem dX6_see_0 : decode cX6_see 0 = .ok (.aload_n 0, 1) := by decide +kernel
theorem dX6_see_1 : decode cX6_see 1 = .ok (.aload_n 0, 1) := by decide +kernel
theorem dX6_see_2 : decode cX6_see 2 = .ok (.iload_n 1, 1) := by decide +kernel
theorem dX6_see_3 : decode cX6_see 3 = .ok (.iload_n 2, 1) := by decide +kernel
theorem dX6_see_4 : decode cX6_see 4 = .ok (.iload_n 3, 1) := by decide +kernel
theorem dX6_see_5 : decode cX6_see 5 = .ok (.iload 4, 2) := by decide +kernel
theorem dX6_see_7 : decode cX6_see 7 = .ok (.invokevirtual 219, 3) := by decide +kernel
theorem dX6_see_10 : decode cX6_see 10 = .ok (.invokevirtual 64, 3) := by decide +kernel
theorem dX6_see_13 : decode cX6_see 13 = .ok (.ireturn, 1) := by decide +kernel
theorem dX6_keeps_0 : decode cX6_keeps 0 = .ok (.aload_n 0, 1) := by decide +kernel
theorem dX6_keeps_1 : decode cX6_keeps 1 = .ok (.getfield 12, 3) := by decide +kernel
theorem dX6_keeps_4 : decode cX6_keeps 4 = .ok (.iload_n 1, 1) := by decide +kernel
theorem dX6_keeps_5 : decode cX6_keeps 5 = .ok (.invokevirtual 95, 3) := by decide +kernel
theorem dX6_keeps_8 : decode cX6_keeps 8 = .ok (.ifCond .ne 5, 3) := by decide +kernel
theorem dX6_keeps_11 : decode cX6_keeps 11 = .ok (.iconst (-1), 1) := by decide +kernel
theorem dX6_keeps_12 : decode cX6_keeps 12 = .ok (.ireturn, 1) := by decide +kernel
theorem dX6_keeps_13 : decode cX6_keeps 13 = .ok (.iload_n 2, 1) := by decide +kernel
theorem dX6_keeps_14 : decode cX6_keeps 14 = .ok (.iconst 1, 1) := by decide +kernel
theorem dX6_keeps_15 : decode cX6_keeps 15 = .ok (.invokestatic 68, 3) := by decide +kernel
theorem dX6_keeps_18 : decode cX6_keeps 18 = .ok (.ifCond .ne 6, 3) := by decide +kernel
theorem dX6_keeps_21 : decode cX6_keeps 21 = .ok (.bipush (-2), 2) := by decide +kernel
theorem dX6_keeps_23 : decode cX6_keeps 23 = .ok (.ireturn, 1) := by decide +kernel
theorem dX6_keeps_24 : decode cX6_keeps 24 = .ok (.aload_n 0, 1) := by decide +kernel
theorem dX6_keeps_25 : decode cX6_keeps 25 = .ok (.getfield 28, 3) := by decide +kernel
theorem dX6_keeps_28 : decode cX6_keeps 28 = .ok (.getfield 222, 3) := by decide +kernel
theorem dX6_keeps_31 : decode cX6_keeps 31 = .ok (.ifCond .ne 6, 3) := by decide +kernel
theorem dX6_keeps_34 : decode cX6_keeps 34 = .ok (.bipush (-3), 2) := by decide +kernel
theorem dX6_keeps_36 : decode cX6_keeps 36 = .ok (.ireturn, 1) := by decide +kernel
theorem dX6_keeps_37 : decode cX6_keeps 37 = .ok (.aload_n 0, 1) := by decide +kernel
theorem dX6_keeps_38 : decode cX6_keeps 38 = .ok (.getfield 28, 3) := by decide +kernel
theorem dX6_keeps_41 : decode cX6_keeps 41 = .ok (.aload_n 0, 1) := by decide +kernel
theorem dX6_keeps_42 : decode cX6_keeps 42 = .ok (.getfield 12, 3) := by decide +kernel
theorem dX6_keeps_45 : decode cX6_keeps 45 = .ok (.iload_n 1, 1) := by decide +kernel
theorem dX6_keeps_46 : decode cX6_keeps 46 = .ok (.invokevirtual 99, 3) := by decide +kernel
theorem dX6_keeps_49 : decode cX6_keeps 49 = .ok (.invokevirtual 225, 3) := by decide +kernel
theorem dX6_keeps_52 : decode cX6_keeps 52 = .ok (.istore_n 3, 1) := by decide +kernel
theorem dX6_keeps_53 : decode cX6_keeps 53 = .ok (.iload_n 2, 1) := by decide +kernel
theorem dX6_keeps_54 : decode cX6_keeps 54 = .ok (.iconst 1, 1) := by decide +kernel
theorem dX6_keeps_55 : decode cX6_keeps 55 = .ok (.if_icmp .ne 5, 3) := by decide +kernel
theorem dX6_keeps_58 : decode cX6_keeps 58 = .ok (.iload_n 3, 1) := by decide +kernel
theorem dX6_keeps_59 : decode cX6_keeps 59 = .ok (.ireturn, 1) := by decide +kernel
theorem dX6_keeps_60 : decode cX6_keeps 60 = .ok (.iload_n 3, 1) := by decide +kernel
theorem dX6_keeps_61 : decode cX6_keeps 61 = .ok (.bipush (-9), 2) := by decide +kernel
theorem dX6_keeps_63 : decode cX6_keeps 63 = .ok (.if_icmp .ne 7, 3) := by decide +kernel
theorem dX6_keeps_66 : decode cX6_keeps 66 = .ok (.iconst 1, 1) := by decide +kernel
theorem dX6_keeps_67 : decode cX6_keeps 67 = .ok (.goto 4, 3) := by decide +kernel
theorem dX6_keeps_70 : decode cX6_keeps 70 = .ok (.iconst 0, 1) := by decide +kernel
theorem dX6_keeps_71 : decode cX6_keeps 71 = .ok (.ireturn, 1) := by decide +kernel
theorem dX6_burst_0 : decode cX6_burst 0 = .ok (.iload_n 1, 1) := by decide +kernel
theorem dX6_burst_1 : decode cX6_burst 1 = .ok (.sipush 999, 3) := by decide +kernel
theorem dX6_burst_4 : decode cX6_burst 4 = .ok (.invokestatic 68, 3) := by decide +kernel
theorem dX6_burst_7 : decode cX6_burst 7 = .ok (.ifCond .ne 6, 3) := by decide +kernel
theorem dX6_burst_10 : decode cX6_burst 10 = .ok (.bipush (-2), 2) := by decide +kernel
theorem dX6_burst_12 : decode cX6_burst 12 = .ok (.ireturn, 1) := by decide +kernel
theorem dX6_burst_13 : decode cX6_burst 13 = .ok (.aload_n 0, 1) := by decide +kernel
theorem dX6_burst_14 : decode cX6_burst 14 = .ok (.getfield 28, 3) := by decide +kernel
theorem dX6_burst_17 : decode cX6_burst 17 = .ok (.getfield 222, 3) := by decide +kernel
theorem dX6_burst_20 : decode cX6_burst 20 = .ok (.ifCond .ne 6, 3) := by decide +kernel
theorem dX6_burst_23 : decode cX6_burst 23 = .ok (.bipush (-3), 2) := by decide +kernel
theorem dX6_burst_25 : decode cX6_burst 25 = .ok (.ireturn, 1) := by decide +kernel
theorem dX6_burst_26 : decode cX6_burst 26 = .ok (.aload_n 0, 1) := by decide +kernel
theorem dX6_burst_27 : decode cX6_burst 27 = .ok (.getfield 28, 3) := by decide +kernel
theorem dX6_burst_30 : decode cX6_burst 30 = .ok (.iload_n 1, 1) := by decide +kernel
theorem dX6_burst_31 : decode cX6_burst 31 = .ok (.invokevirtual 229, 3) := by decide +kernel
theorem dX6_burst_34 : decode cX6_burst 34 = .ok (.ireturn, 1) := by decide +kernel
theorem dX6_shape_0 : decode cX6_shape 0 = .ok (.aload_n 0, 1) := by decide +kernel
theorem dX6_shape_1 : decode cX6_shape 1 = .ok (.getfield 12, 3) := by decide +kernel
theorem dX6_shape_4 : decode cX6_shape 4 = .ok (.iload_n 1, 1) := by decide +kernel
theorem dX6_shape_5 : decode cX6_shape 5 = .ok (.invokevirtual 95, 3) := by decide +kernel
theorem dX6_shape_8 : decode cX6_shape 8 = .ok (.ifCond .ne 5, 3) := by decide +kernel
theorem dX6_shape_11 : decode cX6_shape 11 = .ok (.iconst (-1), 1) := by decide +kernel
theorem dX6_shape_12 : decode cX6_shape 12 = .ok (.ireturn, 1) := by decide +kernel
theorem dX6_shape_13 : decode cX6_shape 13 = .ok (.iload_n 2, 1) := by decide +kernel
theorem dX6_shape_14 : decode cX6_shape 14 = .ok (.bipush 100, 2) := by decide +kernel
theorem dX6_shape_16 : decode cX6_shape 16 = .ok (.if_icmp .lt 14, 3) := by decide +kernel
theorem dX6_shape_19 : decode cX6_shape 19 = .ok (.iload_n 2, 1) := by decide +kernel
theorem dX6_shape_20 : decode cX6_shape 20 = .ok (.sipush 140, 3) := by decide +kernel
theorem dX6_shape_23 : decode cX6_shape 23 = .ok (.if_icmp .gt 7, 3) := by decide +kernel
theorem dX6_shape_26 : decode cX6_shape 26 = .ok (.iconst 1, 1) := by decide +kernel
theorem dX6_shape_27 : decode cX6_shape 27 = .ok (.goto 4, 3) := by decide +kernel
theorem dX6_shape_30 : decode cX6_shape 30 = .ok (.iconst 0, 1) := by decide +kernel
theorem dX6_shape_31 : decode cX6_shape 31 = .ok (.istore_n 3, 1) := by decide +kernel
theorem dX6_shape_32 : decode cX6_shape 32 = .ok (.iload_n 3, 1) := by decide +kernel
theorem dX6_shape_33 : decode cX6_shape 33 = .ok (.ifCond .ne 14, 3) := by decide +kernel
theorem dX6_shape_36 : decode cX6_shape 36 = .ok (.iload_n 2, 1) := by decide +kernel
theorem dX6_shape_37 : decode cX6_shape 37 = .ok (.iconst 1, 1) := by decide +kernel
theorem dX6_shape_38 : decode cX6_shape 38 = .ok (.invokestatic 68, 3) := by decide +kernel
theorem dX6_shape_41 : decode cX6_shape 41 = .ok (.ifCond .ne 6, 3) := by decide +kernel
theorem dX6_shape_44 : decode cX6_shape 44 = .ok (.bipush (-2), 2) := by decide +kernel
theorem dX6_shape_46 : decode cX6_shape 46 = .ok (.ireturn, 1) := by decide +kernel
theorem dX6_shape_47 : decode cX6_shape 47 = .ok (.aload_n 0, 1) := by decide +kernel
theorem dX6_shape_48 : decode cX6_shape 48 = .ok (.getfield 28, 3) := by decide +kernel
theorem dX6_shape_51 : decode cX6_shape 51 = .ok (.getfield 222, 3) := by decide +kernel
theorem dX6_shape_54 : decode cX6_shape 54 = .ok (.ifCond .ne 6, 3) := by decide +kernel
theorem dX6_shape_57 : decode cX6_shape 57 = .ok (.bipush (-3), 2) := by decide +kernel
theorem dX6_shape_59 : decode cX6_shape 59 = .ok (.ireturn, 1) := by decide +kernel
theorem dX6_shape_60 : decode cX6_shape 60 = .ok (.aload_n 0, 1) := by decide +kernel
theorem dX6_shape_61 : decode cX6_shape 61 = .ok (.getfield 28, 3) := by decide +kernel
theorem dX6_shape_64 : decode cX6_shape 64 = .ok (.aload_n 0, 1) := by decide +kernel
theorem dX6_shape_65 : decode cX6_shape 65 = .ok (.getfield 12, 3) := by decide +kernel
theorem dX6_shape_68 : decode cX6_shape 68 = .ok (.iload_n 1, 1) := by decide +kernel
theorem dX6_shape_69 : decode cX6_shape 69 = .ok (.invokevirtual 99, 3) := by decide +kernel
theorem dX6_shape_72 : decode cX6_shape 72 = .ok (.invokevirtual 232, 3) := by decide +kernel
theorem dX6_shape_75 : decode cX6_shape 75 = .ok (.iload_n 3, 1) := by decide +kernel
theorem dX6_shape_76 : decode cX6_shape 76 = .ok (.ifCond .eq 16, 3) := by decide +kernel
theorem dX6_shape_79 : decode cX6_shape 79 = .ok (.aload_n 0, 1) := by decide +kernel
theorem dX6_shape_80 : decode cX6_shape 80 = .ok (.getfield 28, 3) := by decide +kernel
theorem dX6_shape_83 : decode cX6_shape 83 = .ok (.getfield 236, 3) := by decide +kernel
theorem dX6_shape_86 : decode cX6_shape 86 = .ok (.iload_n 2, 1) := by decide +kernel
theorem dX6_shape_87 : decode cX6_shape 87 = .ok (.bipush 100, 2) := by decide +kernel
theorem dX6_shape_89 : decode cX6_shape 89 = .ok (.isub, 1) := by decide +kernel
theorem dX6_shape_90 : decode cX6_shape 90 = .ok (.iaload, 1) := by decide +kernel
theorem dX6_shape_91 : decode cX6_shape 91 = .ok (.ireturn, 1) := by decide +kernel
theorem dX6_shape_92 : decode cX6_shape 92 = .ok (.iload_n 2, 1) := by decide +kernel
theorem dX6_shape_93 : decode cX6_shape 93 = .ok (.ifCond .ne 13, 3) := by decide +kernel
theorem dX6_shape_96 : decode cX6_shape 96 = .ok (.aload_n 0, 1) := by decide +kernel
theorem dX6_shape_97 : decode cX6_shape 97 = .ok (.getfield 28, 3) := by decide +kernel
theorem dX6_shape_100 : decode cX6_shape 100 = .ok (.invokevirtual 239, 3) := by decide +kernel
theorem dX6_shape_103 : decode cX6_shape 103 = .ok (.goto 10, 3) := by decide +kernel
theorem dX6_shape_106 : decode cX6_shape 106 = .ok (.aload_n 0, 1) := by decide +kernel
theorem dX6_shape_107 : decode cX6_shape 107 = .ok (.getfield 28, 3) := by decide +kernel
theorem dX6_shape_110 : decode cX6_shape 110 = .ok (.invokevirtual 243, 3) := by decide +kernel
theorem dX6_shape_113 : decode cX6_shape 113 = .ok (.ireturn, 1) := by decide +kernel
theorem dX6_letIn_0 : decode cX6_letIn 0 = .ok (.aload_n 0, 1) := by decide +kernel
theorem dX6_letIn_1 : decode cX6_letIn 1 = .ok (.getfield 12, 3) := by decide +kernel
theorem dX6_letIn_4 : decode cX6_letIn 4 = .ok (.iload_n 1, 1) := by decide +kernel
theorem dX6_letIn_5 : decode cX6_letIn 5 = .ok (.invokevirtual 95, 3) := by decide +kernel
theorem dX6_letIn_8 : decode cX6_letIn 8 = .ok (.ifCond .eq 14, 3) := by decide +kernel
theorem dX6_letIn_11 : decode cX6_letIn 11 = .ok (.aload_n 0, 1) := by decide +kernel
theorem dX6_letIn_12 : decode cX6_letIn 12 = .ok (.getfield 12, 3) := by decide +kernel
theorem dX6_letIn_15 : decode cX6_letIn 15 = .ok (.iload_n 2, 1) := by decide +kernel
theorem dX6_letIn_16 : decode cX6_letIn 16 = .ok (.invokevirtual 95, 3) := by decide +kernel
theorem dX6_letIn_19 : decode cX6_letIn 19 = .ok (.ifCond .ne 5, 3) := by decide +kernel
theorem dX6_letIn_22 : decode cX6_letIn 22 = .ok (.iconst (-1), 1) := by decide +kernel
theorem dX6_letIn_23 : decode cX6_letIn 23 = .ok (.ireturn, 1) := by decide +kernel
theorem dX6_letIn_24 : decode cX6_letIn 24 = .ok (.iload_n 3, 1) := by decide +kernel
theorem dX6_letIn_25 : decode cX6_letIn 25 = .ok (.bipush 40, 2) := by decide +kernel
theorem dX6_letIn_27 : decode cX6_letIn 27 = .ok (.invokestatic 68, 3) := by decide +kernel
theorem dX6_letIn_30 : decode cX6_letIn 30 = .ok (.ifCond .ne 6, 3) := by decide +kernel
theorem dX6_letIn_33 : decode cX6_letIn 33 = .ok (.bipush (-2), 2) := by decide +kernel
theorem dX6_letIn_35 : decode cX6_letIn 35 = .ok (.ireturn, 1) := by decide +kernel
theorem dX6_letIn_36 : decode cX6_letIn 36 = .ok (.aload_n 0, 1) := by decide +kernel
theorem dX6_letIn_37 : decode cX6_letIn 37 = .ok (.getfield 50, 3) := by decide +kernel
theorem dX6_letIn_40 : decode cX6_letIn 40 = .ok (.iconst 0, 1) := by decide +kernel
theorem dX6_letIn_41 : decode cX6_letIn 41 = .ok (.invokestatic 246, 3) := by decide +kernel
theorem dX6_letIn_44 : decode cX6_letIn 44 = .ok (.iconst 1, 1) := by decide +kernel
theorem dX6_letIn_45 : decode cX6_letIn 45 = .ok (.istore 4, 2) := by decide +kernel
theorem dX6_letIn_47 : decode cX6_letIn 47 = .ok (.iload 4, 2) := by decide +kernel
theorem dX6_letIn_49 : decode cX6_letIn 49 = .ok (.bipush 99, 2) := by decide +kernel
theorem dX6_letIn_51 : decode cX6_letIn 51 = .ok (.if_icmp .gt 65, 3) := by decide +kernel
theorem dX6_letIn_54 : decode cX6_letIn 54 = .ok (.aload_n 0, 1) := by decide +kernel
theorem dX6_letIn_55 : decode cX6_letIn 55 = .ok (.getfield 50, 3) := by decide +kernel
theorem dX6_letIn_58 : decode cX6_letIn 58 = .ok (.aload_n 0, 1) := by decide +kernel
theorem dX6_letIn_59 : decode cX6_letIn 59 = .ok (.getfield 12, 3) := by decide +kernel
theorem dX6_letIn_62 : decode cX6_letIn 62 = .ok (.iload_n 1, 1) := by decide +kernel
theorem dX6_letIn_63 : decode cX6_letIn 63 = .ok (.invokevirtual 99, 3) := by decide +kernel
theorem dX6_letIn_66 : decode cX6_letIn 66 = .ok (.aload_n 0, 1) := by decide +kernel
theorem dX6_letIn_67 : decode cX6_letIn 67 = .ok (.getfield 50, 3) := by decide +kernel
theorem dX6_letIn_70 : decode cX6_letIn 70 = .ok (.invokestatic 252, 3) := by decide +kernel
theorem dX6_letIn_73 : decode cX6_letIn 73 = .ok (.aload_n 0, 1) := by decide +kernel
theorem dX6_letIn_74 : decode cX6_letIn 74 = .ok (.getfield 50, 3) := by decide +kernel
theorem dX6_letIn_77 : decode cX6_letIn 77 = .ok (.aload_n 0, 1) := by decide +kernel
theorem dX6_letIn_78 : decode cX6_letIn 78 = .ok (.getfield 12, 3) := by decide +kernel
theorem dX6_letIn_81 : decode cX6_letIn 81 = .ok (.iload_n 2, 1) := by decide +kernel
theorem dX6_letIn_82 : decode cX6_letIn 82 = .ok (.invokevirtual 99, 3) := by decide +kernel
theorem dX6_letIn_85 : decode cX6_letIn 85 = .ok (.bipush 20, 2) := by decide +kernel
theorem dX6_letIn_87 : decode cX6_letIn 87 = .ok (.invokestatic 138, 3) := by decide +kernel
theorem dX6_letIn_90 : decode cX6_letIn 90 = .ok (.istore 5, 2) := by decide +kernel
theorem dX6_letIn_92 : decode cX6_letIn 92 = .ok (.iload 5, 2) := by decide +kernel
theorem dX6_letIn_94 : decode cX6_letIn 94 = .ok (.bipush (-9), 2) := by decide +kernel
theorem dX6_letIn_96 : decode cX6_letIn 96 = .ok (.if_icmp .eq 9, 3) := by decide +kernel
theorem dX6_letIn_99 : decode cX6_letIn 99 = .ok (.iload 5, 2) := by decide +kernel
theorem dX6_letIn_101 : decode cX6_letIn 101 = .ok (.iload_n 3, 1) := by decide +kernel
theorem dX6_letIn_102 : decode cX6_letIn 102 = .ok (.if_icmp .le 8, 3) := by decide +kernel
theorem dX6_letIn_105 : decode cX6_letIn 105 = .ok (.iload 4, 2) := by decide +kernel
theorem dX6_letIn_107 : decode cX6_letIn 107 = .ok (.iconst 1, 1) := by decide +kernel
theorem dX6_letIn_108 : decode cX6_letIn 108 = .ok (.isub, 1) := by decide +kernel
theorem dX6_letIn_109 : decode cX6_letIn 109 = .ok (.ireturn, 1) := by decide +kernel
theorem dX6_letIn_110 : decode cX6_letIn 110 = .ok (.iinc 4 1, 3) := by decide +kernel
theorem dX6_letIn_113 : decode cX6_letIn 113 = .ok (.goto (-66), 3) := by decide +kernel
theorem dX6_letIn_116 : decode cX6_letIn 116 = .ok (.bipush 99, 2) := by decide +kernel
theorem dX6_letIn_118 : decode cX6_letIn 118 = .ok (.ireturn, 1) := by decide +kernel
theorem dX6_seenOf_0 : decode cX6_seenOf 0 = .ok (.aload_n 0, 1) := by decide +kernel
theorem dX6_seenOf_1 : decode cX6_seenOf 1 = .ok (.getfield 35, 3) := by decide +kernel
theorem dX6_seenOf_4 : decode cX6_seenOf 4 = .ok (.iload_n 1, 1) := by decide +kernel
theorem dX6_seenOf_5 : decode cX6_seenOf 5 = .ok (.iload_n 2, 1) := by decide +kernel
theorem dX6_seenOf_6 : decode cX6_seenOf 6 = .ok (.iload_n 3, 1) := by decide +kernel
theorem dX6_seenOf_7 : decode cX6_seenOf 7 = .ok (.iload 4, 2) := by decide +kernel
theorem dX6_seenOf_9 : decode cX6_seenOf 9 = .ok (.aload_n 0, 1) := by decide +kernel
theorem dX6_seenOf_10 : decode cX6_seenOf 10 = .ok (.getfield 46, 3) := by decide +kernel
theorem dX6_seenOf_13 : decode cX6_seenOf 13 = .ok (.invokevirtual 103, 3) := by decide +kernel
theorem dX6_seenOf_16 : decode cX6_seenOf 16 = .ok (.istore 5, 2) := by decide +kernel
theorem dX6_seenOf_18 : decode cX6_seenOf 18 = .ok (.iload 5, 2) := by decide +kernel
theorem dX6_seenOf_20 : decode cX6_seenOf 20 = .ok (.ifCond .eq 6, 3) := by decide +kernel
theorem dX6_seenOf_23 : decode cX6_seenOf 23 = .ok (.iload 5, 2) := by decide +kernel
theorem dX6_seenOf_25 : decode cX6_seenOf 25 = .ok (.ireturn, 1) := by decide +kernel
theorem dX6_seenOf_26 : decode cX6_seenOf 26 = .ok (.aload_n 0, 1) := by decide +kernel
theorem dX6_seenOf_27 : decode cX6_seenOf 27 = .ok (.iload 4, 2) := by decide +kernel
theorem dX6_seenOf_29 : decode cX6_seenOf 29 = .ok (.invokevirtual 107, 3) := by decide +kernel
theorem dX6_seenOf_32 : decode cX6_seenOf 32 = .ok (.ifCond .ne 6, 3) := by decide +kernel
theorem dX6_seenOf_35 : decode cX6_seenOf 35 = .ok (.bipush (-2), 2) := by decide +kernel
theorem dX6_seenOf_37 : decode cX6_seenOf 37 = .ok (.ireturn, 1) := by decide +kernel
theorem dX6_seenOf_38 : decode cX6_seenOf 38 = .ok (.aload_n 0, 1) := by decide +kernel
theorem dX6_seenOf_39 : decode cX6_seenOf 39 = .ok (.getfield 28, 3) := by decide +kernel
theorem dX6_seenOf_42 : decode cX6_seenOf 42 = .ok (.aload_n 0, 1) := by decide +kernel
theorem dX6_seenOf_43 : decode cX6_seenOf 43 = .ok (.getfield 46, 3) := by decide +kernel
theorem dX6_seenOf_46 : decode cX6_seenOf 46 = .ok (.iload 4, 2) := by decide +kernel
theorem dX6_seenOf_48 : decode cX6_seenOf 48 = .ok (.invokevirtual 256, 3) := by decide +kernel
theorem dX6_seenOf_51 : decode cX6_seenOf 51 = .ok (.iload 4, 2) := by decide +kernel
theorem dX6_seenOf_53 : decode cX6_seenOf 53 = .ok (.ireturn, 1) := by decide +kernel
theorem dX6_sheet_0 : decode cX6_sheet 0 = .ok (.aload_n 0, 1) := by decide +kernel
theorem dX6_sheet_1 : decode cX6_sheet 1 = .ok (.aload_n 0, 1) := by decide +kernel
theorem dX6_sheet_2 : decode cX6_sheet 2 = .ok (.getfield 35, 3) := by decide +kernel
theorem dX6_sheet_5 : decode cX6_sheet 5 = .ok (.iload_n 1, 1) := by decide +kernel
theorem dX6_sheet_6 : decode cX6_sheet 6 = .ok (.iload_n 2, 1) := by decide +kernel
theorem dX6_sheet_7 : decode cX6_sheet 7 = .ok (.iload_n 3, 1) := by decide +kernel
theorem dX6_sheet_8 : decode cX6_sheet 8 = .ok (.invokevirtual 259, 3) := by decide +kernel
theorem dX6_sheet_11 : decode cX6_sheet 11 = .ok (.invokevirtual 64, 3) := by decide +kernel
theorem dX6_sheet_14 : decode cX6_sheet 14 = .ok (.ireturn, 1) := by decide +kernel
theorem dX6_lose_0 : decode cX6_lose 0 = .ok (.aload_n 0, 1) := by decide +kernel
theorem dX6_lose_1 : decode cX6_lose 1 = .ok (.getfield 35, 3) := by decide +kernel
theorem dX6_lose_4 : decode cX6_lose 4 = .ok (.iload_n 1, 1) := by decide +kernel
theorem dX6_lose_5 : decode cX6_lose 5 = .ok (.invokevirtual 263, 3) := by decide +kernel
theorem dX6_lose_8 : decode cX6_lose 8 = .ok (.ifCond .ne 5, 3) := by decide +kernel
theorem dX6_lose_11 : decode cX6_lose 11 = .ok (.iconst (-1), 1) := by decide +kernel
theorem dX6_lose_12 : decode cX6_lose 12 = .ok (.ireturn, 1) := by decide +kernel
theorem dX6_lose_13 : decode cX6_lose 13 = .ok (.aload_n 0, 1) := by decide +kernel
theorem dX6_lose_14 : decode cX6_lose 14 = .ok (.getfield 35, 3) := by decide +kernel
theorem dX6_lose_17 : decode cX6_lose 17 = .ok (.iload_n 1, 1) := by decide +kernel
theorem dX6_lose_18 : decode cX6_lose 18 = .ok (.invokevirtual 264, 3) := by decide +kernel
theorem dX6_lose_21 : decode cX6_lose 21 = .ok (.ireturn, 1) := by decide +kernel
theorem dX6_put_0 : decode cX6_put 0 = .ok (.aload_n 0, 1) := by decide +kernel
theorem dX6_put_1 : decode cX6_put 1 = .ok (.aload_n 0, 1) := by decide +kernel
theorem dX6_put_2 : decode cX6_put 2 = .ok (.getfield 35, 3) := by decide +kernel
theorem dX6_put_5 : decode cX6_put 5 = .ok (.iload_n 1, 1) := by decide +kernel
theorem dX6_put_6 : decode cX6_put 6 = .ok (.iload_n 2, 1) := by decide +kernel
theorem dX6_put_7 : decode cX6_put 7 = .ok (.iload_n 3, 1) := by decide +kernel
theorem dX6_put_8 : decode cX6_put 8 = .ok (.invokevirtual 267, 3) := by decide +kernel
theorem dX6_put_11 : decode cX6_put 11 = .ok (.invokevirtual 64, 3) := by decide +kernel
theorem dX6_put_14 : decode cX6_put 14 = .ok (.ireturn, 1) := by decide +kernel
theorem dX6_cell_0 : decode cX6_cell 0 = .ok (.aload_n 0, 1) := by decide +kernel
theorem dX6_cell_1 : decode cX6_cell 1 = .ok (.aload_n 0, 1) := by decide +kernel
theorem dX6_cell_2 : decode cX6_cell 2 = .ok (.getfield 35, 3) := by decide +kernel
theorem dX6_cell_5 : decode cX6_cell 5 = .ok (.iload_n 1, 1) := by decide +kernel
theorem dX6_cell_6 : decode cX6_cell 6 = .ok (.iload_n 2, 1) := by decide +kernel
theorem dX6_cell_7 : decode cX6_cell 7 = .ok (.iload_n 3, 1) := by decide +kernel
theorem dX6_cell_8 : decode cX6_cell 8 = .ok (.invokevirtual 270, 3) := by decide +kernel
theorem dX6_cell_11 : decode cX6_cell 11 = .ok (.invokevirtual 64, 3) := by decide +kernel
theorem dX6_cell_14 : decode cX6_cell 14 = .ok (.istore 4, 2) := by decide +kernel
theorem dX6_cell_16 : decode cX6_cell 16 = .ok (.iload 4, 2) := by decide +kernel
theorem dX6_cell_18 : decode cX6_cell 18 = .ok (.ifCond .ne 18, 3) := by decide +kernel
theorem dX6_cell_21 : decode cX6_cell 21 = .ok (.aload_n 0, 1) := by decide +kernel
theorem dX6_cell_22 : decode cX6_cell 22 = .ok (.getfield 35, 3) := by decide +kernel
theorem dX6_cell_25 : decode cX6_cell 25 = .ok (.getfield 273, 3) := by decide +kernel
theorem dX6_cell_28 : decode cX6_cell 28 = .ok (.iload_n 1, 1) := by decide +kernel
theorem dX6_cell_29 : decode cX6_cell 29 = .ok (.aaload, 1) := by decide +kernel
theorem dX6_cell_30 : decode cX6_cell 30 = .ok (.iload_n 2, 1) := by decide +kernel
theorem dX6_cell_31 : decode cX6_cell 31 = .ok (.iaload, 1) := by decide +kernel
theorem dX6_cell_32 : decode cX6_cell 32 = .ok (.i2l, 1) := by decide +kernel
theorem dX6_cell_33 : decode cX6_cell 33 = .ok (.goto 6, 3) := by decide +kernel
theorem dX6_cell_36 : decode cX6_cell 36 = .ok (.ldc2_w 276, 3) := by decide +kernel
theorem dX6_cell_39 : decode cX6_cell 39 = .ok (.lreturn, 1) := by decide +kernel
theorem dX6_copy_0 : decode cX6_copy 0 = .ok (.aload_n 0, 1) := by decide +kernel
theorem dX6_copy_1 : decode cX6_copy 1 = .ok (.aload_n 0, 1) := by decide +kernel
theorem dX6_copy_2 : decode cX6_copy 2 = .ok (.getfield 35, 3) := by decide +kernel
theorem dX6_copy_5 : decode cX6_copy 5 = .ok (.iload_n 1, 1) := by decide +kernel
theorem dX6_copy_6 : decode cX6_copy 6 = .ok (.iload_n 2, 1) := by decide +kernel
theorem dX6_copy_7 : decode cX6_copy 7 = .ok (.iload_n 3, 1) := by decide +kernel
theorem dX6_copy_8 : decode cX6_copy 8 = .ok (.iload 4, 2) := by decide +kernel
theorem dX6_copy_10 : decode cX6_copy 10 = .ok (.iload 5, 2) := by decide +kernel
theorem dX6_copy_12 : decode cX6_copy 12 = .ok (.invokevirtual 278, 3) := by decide +kernel
theorem dX6_copy_15 : decode cX6_copy 15 = .ok (.invokevirtual 64, 3) := by decide +kernel
theorem dX6_copy_18 : decode cX6_copy 18 = .ok (.ireturn, 1) := by decide +kernel
theorem dX6_tell_0 : decode cX6_tell 0 = .ok (.aload_n 0, 1) := by decide +kernel
theorem dX6_tell_1 : decode cX6_tell 1 = .ok (.getfield 12, 3) := by decide +kernel
theorem dX6_tell_4 : decode cX6_tell 4 = .ok (.iload_n 1, 1) := by decide +kernel
theorem dX6_tell_5 : decode cX6_tell 5 = .ok (.invokevirtual 95, 3) := by decide +kernel
theorem dX6_tell_8 : decode cX6_tell 8 = .ok (.ifCond .ne 5, 3) := by decide +kernel
theorem dX6_tell_11 : decode cX6_tell 11 = .ok (.iconst (-1), 1) := by decide +kernel
theorem dX6_tell_12 : decode cX6_tell 12 = .ok (.ireturn, 1) := by decide +kernel
theorem dX6_tell_13 : decode cX6_tell 13 = .ok (.aload_n 0, 1) := by decide +kernel
theorem dX6_tell_14 : decode cX6_tell 14 = .ok (.getfield 12, 3) := by decide +kernel
theorem dX6_tell_17 : decode cX6_tell 17 = .ok (.getfield 281, 3) := by decide +kernel
theorem dX6_tell_20 : decode cX6_tell 20 = .ok (.iload_n 1, 1) := by decide +kernel
theorem dX6_tell_21 : decode cX6_tell 21 = .ok (.iaload, 1) := by decide +kernel
theorem dX6_tell_22 : decode cX6_tell 22 = .ok (.istore_n 2, 1) := by decide +kernel
theorem dX6_tell_23 : decode cX6_tell 23 = .ok (.iload_n 2, 1) := by decide +kernel
theorem dX6_tell_24 : decode cX6_tell 24 = .ok (.iconst 2, 1) := by decide +kernel
theorem dX6_tell_25 : decode cX6_tell 25 = .ok (.if_icmp .ne 9, 3) := by decide +kernel
theorem dX6_tell_28 : decode cX6_tell 28 = .ok (.aload_n 0, 1) := by decide +kernel
theorem dX6_tell_29 : decode cX6_tell 29 = .ok (.iload_n 1, 1) := by decide +kernel
theorem dX6_tell_30 : decode cX6_tell 30 = .ok (.invokevirtual 284, 3) := by decide +kernel
theorem dX6_tell_33 : decode cX6_tell 33 = .ok (.ireturn, 1) := by decide +kernel
theorem dX6_tell_34 : decode cX6_tell 34 = .ok (.iload_n 2, 1) := by decide +kernel
theorem dX6_tell_35 : decode cX6_tell 35 = .ok (.iconst 1, 1) := by decide +kernel
theorem dX6_tell_36 : decode cX6_tell 36 = .ok (.if_icmp .ne 11, 3) := by decide +kernel
theorem dX6_tell_39 : decode cX6_tell 39 = .ok (.aload_n 0, 1) := by decide +kernel
theorem dX6_tell_40 : decode cX6_tell 40 = .ok (.iload_n 1, 1) := by decide +kernel
theorem dX6_tell_41 : decode cX6_tell 41 = .ok (.invokevirtual 287, 3) := by decide +kernel
theorem dX6_tell_44 : decode cX6_tell 44 = .ok (.goto 8, 3) := by decide +kernel
theorem dX6_tell_47 : decode cX6_tell 47 = .ok (.aload_n 0, 1) := by decide +kernel
theorem dX6_tell_48 : decode cX6_tell 48 = .ok (.iload_n 1, 1) := by decide +kernel
theorem dX6_tell_49 : decode cX6_tell 49 = .ok (.invokevirtual 290, 3) := by decide +kernel
theorem dX6_tell_52 : decode cX6_tell 52 = .ok (.ireturn, 1) := by decide +kernel
theorem dX6_draw_0 : decode cX6_draw 0 = .ok (.aload_n 0, 1) := by decide +kernel
theorem dX6_draw_1 : decode cX6_draw 1 = .ok (.getfield 12, 3) := by decide +kernel
theorem dX6_draw_4 : decode cX6_draw 4 = .ok (.iload_n 1, 1) := by decide +kernel
theorem dX6_draw_5 : decode cX6_draw 5 = .ok (.invokevirtual 95, 3) := by decide +kernel
theorem dX6_draw_8 : decode cX6_draw 8 = .ok (.ifCond .ne 5, 3) := by decide +kernel
theorem dX6_draw_11 : decode cX6_draw 11 = .ok (.iconst (-1), 1) := by decide +kernel
theorem dX6_draw_12 : decode cX6_draw 12 = .ok (.ireturn, 1) := by decide +kernel
theorem dX6_draw_13 : decode cX6_draw 13 = .ok (.aload_n 0, 1) := by decide +kernel
theorem dX6_draw_14 : decode cX6_draw 14 = .ok (.getfield 12, 3) := by decide +kernel
theorem dX6_draw_17 : decode cX6_draw 17 = .ok (.getfield 281, 3) := by decide +kernel
theorem dX6_draw_20 : decode cX6_draw 20 = .ok (.iload_n 1, 1) := by decide +kernel
theorem dX6_draw_21 : decode cX6_draw 21 = .ok (.iaload, 1) := by decide +kernel
theorem dX6_draw_22 : decode cX6_draw 22 = .ok (.iconst 2, 1) := by decide +kernel
theorem dX6_draw_23 : decode cX6_draw 23 = .ok (.if_icmp .ne 11, 3) := by decide +kernel
theorem dX6_draw_26 : decode cX6_draw 26 = .ok (.aload_n 0, 1) := by decide +kernel
theorem dX6_draw_27 : decode cX6_draw 27 = .ok (.iconst 5, 1) := by decide +kernel
theorem dX6_draw_28 : decode cX6_draw 28 = .ok (.invokevirtual 293, 3) := by decide +kernel
theorem dX6_draw_31 : decode cX6_draw 31 = .ok (.bipush 60, 2) := by decide +kernel
theorem dX6_draw_33 : decode cX6_draw 33 = .ok (.ireturn, 1) := by decide +kernel
theorem dX6_draw_34 : decode cX6_draw 34 = .ok (.aload_n 0, 1) := by decide +kernel
theorem dX6_draw_35 : decode cX6_draw 35 = .ok (.iconst 4, 1) := by decide +kernel
theorem dX6_draw_36 : decode cX6_draw 36 = .ok (.invokevirtual 293, 3) := by decide +kernel
theorem dX6_draw_39 : decode cX6_draw 39 = .ok (.iload_n 1, 1) := by decide +kernel
theorem dX6_draw_40 : decode cX6_draw 40 = .ok (.ireturn, 1) := by decide +kernel
theorem dX6_as_0 : decode cX6_as 0 = .ok (.aload_n 0, 1) := by decide +kernel
theorem dX6_as_1 : decode cX6_as 1 = .ok (.aload_n 0, 1) := by decide +kernel
theorem dX6_as_2 : decode cX6_as 2 = .ok (.iload_n 1, 1) := by decide +kernel
theorem dX6_as_3 : decode cX6_as 3 = .ok (.iload_n 2, 1) := by decide +kernel
theorem dX6_as_4 : decode cX6_as 4 = .ok (.invokevirtual 296, 3) := by decide +kernel
theorem dX6_as_7 : decode cX6_as 7 = .ok (.invokevirtual 64, 3) := by decide +kernel
theorem dX6_as_10 : decode cX6_as 10 = .ok (.ireturn, 1) := by decide +kernel
theorem dX6_trace_0 : decode cX6_trace 0 = .ok (.aload_n 0, 1) := by decide +kernel
theorem dX6_trace_1 : decode cX6_trace 1 = .ok (.getfield 53, 3) := by decide +kernel
theorem dX6_trace_4 : decode cX6_trace 4 = .ok (.ireturn, 1) := by decide +kernel
theorem dX6_fault_0 : decode cX6_fault 0 = .ok (.aload_n 0, 1) := by decide +kernel
theorem dX6_fault_1 : decode cX6_fault 1 = .ok (.getfield 57, 3) := by decide +kernel
theorem dX6_fault_4 : decode cX6_fault 4 = .ok (.ireturn, 1) := by decide +kernel
theorem dX6_many_0 : decode cX6_many 0 = .ok (.iload_n 1, 1) := by decide +kernel
theorem dX6_many_1 : decode cX6_many 1 = .ok (.tableswitch 63 0 3 #[31, 39, 47, 55], 31) := by decide +kernel
theorem dX6_many_32 : decode cX6_many 32 = .ok (.aload_n 0, 1) := by decide +kernel
theorem dX6_many_33 : decode cX6_many 33 = .ok (.getfield 12, 3) := by decide +kernel
theorem dX6_many_36 : decode cX6_many 36 = .ok (.getfield 299, 3) := by decide +kernel
theorem dX6_many_39 : decode cX6_many 39 = .ok (.ireturn, 1) := by decide +kernel
theorem dX6_many_40 : decode cX6_many 40 = .ok (.aload_n 0, 1) := by decide +kernel
theorem dX6_many_41 : decode cX6_many 41 = .ok (.getfield 21, 3) := by decide +kernel
theorem dX6_many_44 : decode cX6_many 44 = .ok (.getfield 300, 3) := by decide +kernel
theorem dX6_many_47 : decode cX6_many 47 = .ok (.ireturn, 1) := by decide +kernel
theorem dX6_many_48 : decode cX6_many 48 = .ok (.aload_n 0, 1) := by decide +kernel
theorem dX6_many_49 : decode cX6_many 49 = .ok (.getfield 28, 3) := by decide +kernel
theorem dX6_many_52 : decode cX6_many 52 = .ok (.getfield 222, 3) := by decide +kernel
theorem dX6_many_55 : decode cX6_many 55 = .ok (.ireturn, 1) := by decide +kernel
theorem dX6_many_56 : decode cX6_many 56 = .ok (.aload_n 0, 1) := by decide +kernel
theorem dX6_many_57 : decode cX6_many 57 = .ok (.getfield 21, 3) := by decide +kernel
theorem dX6_many_60 : decode cX6_many 60 = .ok (.invokevirtual 303, 3) := by decide +kernel
theorem dX6_many_63 : decode cX6_many 63 = .ok (.ireturn, 1) := by decide +kernel
theorem dX6_many_64 : decode cX6_many 64 = .ok (.bipush (-2), 2) := by decide +kernel
theorem dX6_many_66 : decode cX6_many 66 = .ok (.ireturn, 1) := by decide +kernel
theorem dX6_takenAs_0 : decode cX6_takenAs 0 = .ok (.aload_n 0, 1) := by decide +kernel
theorem dX6_takenAs_1 : decode cX6_takenAs 1 = .ok (.getfield 12, 3) := by decide +kernel
theorem dX6_takenAs_4 : decode cX6_takenAs 4 = .ok (.iload_n 1, 1) := by decide +kernel
theorem dX6_takenAs_5 : decode cX6_takenAs 5 = .ok (.invokevirtual 95, 3) := by decide +kernel
theorem dX6_takenAs_8 : decode cX6_takenAs 8 = .ok (.ifCond .ne 5, 3) := by decide +kernel
theorem dX6_takenAs_11 : decode cX6_takenAs 11 = .ok (.iconst (-1), 1) := by decide +kernel
theorem dX6_takenAs_12 : decode cX6_takenAs 12 = .ok (.ireturn, 1) := by decide +kernel
theorem dX6_takenAs_13 : decode cX6_takenAs 13 = .ok (.iload_n 2, 1) := by decide +kernel
theorem dX6_takenAs_14 : decode cX6_takenAs 14 = .ok (.iconst 2, 1) := by decide +kernel
theorem dX6_takenAs_15 : decode cX6_takenAs 15 = .ok (.invokestatic 68, 3) := by decide +kernel
theorem dX6_takenAs_18 : decode cX6_takenAs 18 = .ok (.ifCond .ne 6, 3) := by decide +kernel
theorem dX6_takenAs_21 : decode cX6_takenAs 21 = .ok (.bipush (-2), 2) := by decide +kernel
theorem dX6_takenAs_23 : decode cX6_takenAs 23 = .ok (.ireturn, 1) := by decide +kernel
theorem dX6_takenAs_24 : decode cX6_takenAs 24 = .ok (.aload_n 0, 1) := by decide +kernel
theorem dX6_takenAs_25 : decode cX6_takenAs 25 = .ok (.getfield 12, 3) := by decide +kernel
theorem dX6_takenAs_28 : decode cX6_takenAs 28 = .ok (.getfield 281, 3) := by decide +kernel
theorem dX6_takenAs_31 : decode cX6_takenAs 31 = .ok (.iload_n 1, 1) := by decide +kernel
theorem dX6_takenAs_32 : decode cX6_takenAs 32 = .ok (.iaload, 1) := by decide +kernel
theorem dX6_takenAs_33 : decode cX6_takenAs 33 = .ok (.iload_n 2, 1) := by decide +kernel
theorem dX6_takenAs_34 : decode cX6_takenAs 34 = .ok (.if_icmp .lt 7, 3) := by decide +kernel
theorem dX6_takenAs_37 : decode cX6_takenAs 37 = .ok (.iconst 1, 1) := by decide +kernel
theorem dX6_takenAs_38 : decode cX6_takenAs 38 = .ok (.goto 5, 3) := by decide +kernel
theorem dX6_takenAs_41 : decode cX6_takenAs 41 = .ok (.bipush (-12), 2) := by decide +kernel
theorem dX6_takenAs_43 : decode cX6_takenAs 43 = .ok (.ireturn, 1) := by decide +kernel
theorem dX6_toldBySteps_0 : decode cX6_toldBySteps 0 = .ok (.aload_n 0, 1) := by decide +kernel
theorem dX6_toldBySteps_1 : decode cX6_toldBySteps 1 = .ok (.iconst 1, 1) := by decide +kernel
theorem dX6_toldBySteps_2 : decode cX6_toldBySteps 2 = .ok (.invokevirtual 293, 3) := by decide +kernel
theorem dX6_toldBySteps_5 : decode cX6_toldBySteps 5 = .ok (.aload_n 0, 1) := by decide +kernel
theorem dX6_toldBySteps_6 : decode cX6_toldBySteps 6 = .ok (.getfield 12, 3) := by decide +kernel
theorem dX6_toldBySteps_9 : decode cX6_toldBySteps 9 = .ok (.iload_n 1, 1) := by decide +kernel
theorem dX6_toldBySteps_10 : decode cX6_toldBySteps 10 = .ok (.invokevirtual 99, 3) := by decide +kernel
theorem dX6_toldBySteps_13 : decode cX6_toldBySteps 13 = .ok (.bipush 10, 2) := by decide +kernel
theorem dX6_toldBySteps_15 : decode cX6_toldBySteps 15 = .ok (.iaload, 1) := by decide +kernel
theorem dX6_toldBySteps_16 : decode cX6_toldBySteps 16 = .ok (.ireturn, 1) := by decide +kernel
theorem dX6_toldByBucket_0 : decode cX6_toldByBucket 0 = .ok (.aload_n 0, 1) := by decide +kernel
theorem dX6_toldByBucket_1 : decode cX6_toldByBucket 1 = .ok (.iconst 2, 1) := by decide +kernel
theorem dX6_toldByBucket_2 : decode cX6_toldByBucket 2 = .ok (.invokevirtual 293, 3) := by decide +kernel
theorem dX6_toldByBucket_5 : decode cX6_toldByBucket 5 = .ok (.aload_n 0, 1) := by decide +kernel
theorem dX6_toldByBucket_6 : decode cX6_toldByBucket 6 = .ok (.iload_n 1, 1) := by decide +kernel
theorem dX6_toldByBucket_7 : decode cX6_toldByBucket 7 = .ok (.invokevirtual 290, 3) := by decide +kernel
theorem dX6_toldByBucket_10 : decode cX6_toldByBucket 10 = .ok (.ldc_w 306, 3) := by decide +kernel
theorem dX6_toldByBucket_13 : decode cX6_toldByBucket 13 = .ok (.iadd, 1) := by decide +kernel
theorem dX6_toldByBucket_14 : decode cX6_toldByBucket 14 = .ok (.ireturn, 1) := by decide +kernel
theorem dX6_toldByLate_0 : decode cX6_toldByLate 0 = .ok (.aload_n 0, 1) := by decide +kernel
theorem dX6_toldByLate_1 : decode cX6_toldByLate 1 = .ok (.iconst 3, 1) := by decide +kernel
theorem dX6_toldByLate_2 : decode cX6_toldByLate 2 = .ok (.invokevirtual 293, 3) := by decide +kernel
theorem dX6_toldByLate_5 : decode cX6_toldByLate 5 = .ok (.aload_n 0, 1) := by decide +kernel
theorem dX6_toldByLate_6 : decode cX6_toldByLate 6 = .ok (.iload_n 1, 1) := by decide +kernel
theorem dX6_toldByLate_7 : decode cX6_toldByLate 7 = .ok (.invokevirtual 287, 3) := by decide +kernel
theorem dX6_toldByLate_10 : decode cX6_toldByLate 10 = .ok (.istore_n 2, 1) := by decide +kernel
theorem dX6_toldByLate_11 : decode cX6_toldByLate 11 = .ok (.iload_n 2, 1) := by decide +kernel
theorem dX6_toldByLate_12 : decode cX6_toldByLate 12 = .ok (.aload_n 0, 1) := by decide +kernel
theorem dX6_toldByLate_13 : decode cX6_toldByLate 13 = .ok (.iload_n 1, 1) := by decide +kernel
theorem dX6_toldByLate_14 : decode cX6_toldByLate 14 = .ok (.invokevirtual 290, 3) := by decide +kernel
theorem dX6_toldByLate_17 : decode cX6_toldByLate 17 = .ok (.iadd, 1) := by decide +kernel
theorem dX6_toldByLate_18 : decode cX6_toldByLate 18 = .ok (.ireturn, 1) := by decide +kernel
theorem dX6_leaveInTrace_0 : decode cX6_leaveInTrace 0 = .ok (.aload_n 0, 1) := by decide +kernel
theorem dX6_leaveInTrace_1 : decode cX6_leaveInTrace 1 = .ok (.bipush 31, 2) := by decide +kernel
theorem dX6_leaveInTrace_3 : decode cX6_leaveInTrace 3 = .ok (.aload_n 0, 1) := by decide +kernel
theorem dX6_leaveInTrace_4 : decode cX6_leaveInTrace 4 = .ok (.getfield 53, 3) := by decide +kernel
theorem dX6_leaveInTrace_7 : decode cX6_leaveInTrace 7 = .ok (.imul, 1) := by decide +kernel
theorem dX6_leaveInTrace_8 : decode cX6_leaveInTrace 8 = .ok (.iload_n 1, 1) := by decide +kernel
theorem dX6_leaveInTrace_9 : decode cX6_leaveInTrace 9 = .ok (.iadd, 1) := by decide +kernel
theorem dX6_leaveInTrace_10 : decode cX6_leaveInTrace 10 = .ok (.putfield 53, 3) := by decide +kernel
theorem dX6_leaveInTrace_13 : decode cX6_leaveInTrace 13 = .ok (.return_, 1) := by decide +kernel
theorem dX6_ended_0 : decode cX6_ended 0 = .ok (.aload_n 0, 1) := by decide +kernel
theorem dX6_ended_1 : decode cX6_ended 1 = .ok (.iload_n 1, 1) := by decide +kernel
theorem dX6_ended_2 : decode cX6_ended 2 = .ok (.bipush (-11), 2) := by decide +kernel
theorem dX6_ended_4 : decode cX6_ended 4 = .ok (.if_icmp .gt 16, 3) := by decide +kernel
theorem dX6_ended_7 : decode cX6_ended 7 = .ok (.iload_n 1, 1) := by decide +kernel
theorem dX6_ended_8 : decode cX6_ended 8 = .ok (.bipush (-14), 2) := by decide +kernel
theorem dX6_ended_10 : decode cX6_ended 10 = .ok (.if_icmp .lt 10, 3) := by decide +kernel
theorem dX6_ended_13 : decode cX6_ended 13 = .ok (.bipush (-10), 2) := by decide +kernel
theorem dX6_ended_15 : decode cX6_ended 15 = .ok (.iload_n 1, 1) := by decide +kernel
theorem dX6_ended_16 : decode cX6_ended 16 = .ok (.isub, 1) := by decide +kernel
theorem dX6_ended_17 : decode cX6_ended 17 = .ok (.goto 4, 3) := by decide +kernel
theorem dX6_ended_20 : decode cX6_ended 20 = .ok (.iconst 0, 1) := by decide +kernel
theorem dX6_ended_21 : decode cX6_ended 21 = .ok (.putfield 57, 3) := by decide +kernel
theorem dX6_ended_24 : decode cX6_ended 24 = .ok (.iload_n 1, 1) := by decide +kernel
theorem dX6_ended_25 : decode cX6_ended 25 = .ok (.ireturn, 1) := by decide +kernel
theorem dX6_isUpTo_0 : decode cX6_isUpTo 0 = .ok (.iload_n 0, 1) := by decide +kernel
theorem dX6_isUpTo_1 : decode cX6_isUpTo 1 = .ok (.ifCond .lt 12, 3) := by decide +kernel
theorem dX6_isUpTo_4 : decode cX6_isUpTo 4 = .ok (.iload_n 0, 1) := by decide +kernel
theorem dX6_isUpTo_5 : decode cX6_isUpTo 5 = .ok (.iload_n 1, 1) := by decide +kernel
theorem dX6_isUpTo_6 : decode cX6_isUpTo 6 = .ok (.if_icmp .gt 7, 3) := by decide +kernel
theorem dX6_isUpTo_9 : decode cX6_isUpTo 9 = .ok (.iconst 1, 1) := by decide +kernel
theorem dX6_isUpTo_10 : decode cX6_isUpTo 10 = .ok (.goto 4, 3) := by decide +kernel
theorem dX6_isUpTo_13 : decode cX6_isUpTo 13 = .ok (.iconst 0, 1) := by decide +kernel
theorem dX6_isUpTo_14 : decode cX6_isUpTo 14 = .ok (.ireturn, 1) := by decide +kernel
end
section
theorem dX7_init_0 : decode cX7_init 0 = .ok (.aload_n 0, 1) := by decide +kernel
theorem dX7_init_1 : decode cX7_init 1 = .ok (.invokespecial 1, 3) := by decide +kernel
theorem dX7_init_4 : decode cX7_init 4 = .ok (.aload_n 0, 1) := by decide +kernel
theorem dX7_init_5 : decode cX7_init 5 = .ok (.bipush 24, 2) := by decide +kernel
theorem dX7_init_7 : decode cX7_init 7 = .ok (.newarray .int, 2) := by decide +kernel
theorem dX7_init_9 : decode cX7_init 9 = .ok (.putfield 7, 3) := by decide +kernel
theorem dX7_init_12 : decode cX7_init 12 = .ok (.aload_n 0, 1) := by decide +kernel
theorem dX7_init_13 : decode cX7_init 13 = .ok (.sipush 3690, 3) := by decide +kernel
theorem dX7_init_16 : decode cX7_init 16 = .ok (.newarray .int, 2) := by decide +kernel
theorem dX7_init_18 : decode cX7_init 18 = .ok (.putfield 13, 3) := by decide +kernel
theorem dX7_init_21 : decode cX7_init 21 = .ok (.aload_n 0, 1) := by decide +kernel
theorem dX7_init_22 : decode cX7_init 22 = .ok (.bipush 6, 2) := by decide +kernel
theorem dX7_init_24 : decode cX7_init 24 = .ok (.newarray .int, 2) := by decide +kernel
theorem dX7_init_26 : decode cX7_init 26 = .ok (.putfield 16, 3) := by decide +kernel
theorem dX7_init_29 : decode cX7_init 29 = .ok (.aload_n 0, 1) := by decide +kernel
theorem dX7_init_30 : decode cX7_init 30 = .ok (.bipush 6, 2) := by decide +kernel
theorem dX7_init_32 : decode cX7_init 32 = .ok (.newarray .int, 2) := by decide +kernel
theorem dX7_init_34 : decode cX7_init 34 = .ok (.putfield 19, 3) := by decide +kernel
theorem dX7_init_37 : decode cX7_init 37 = .ok (.aload_n 0, 1) := by decide +kernel
theorem dX7_init_38 : decode cX7_init 38 = .ok (.bipush 6, 2) := by decide +kernel
theorem dX7_init_40 : decode cX7_init 40 = .ok (.newarray .int, 2) := by decide +kernel
theorem dX7_init_42 : decode cX7_init 42 = .ok (.putfield 22, 3) := by decide +kernel
theorem dX7_init_45 : decode cX7_init 45 = .ok (.aload_n 0, 1) := by decide +kernel
theorem dX7_init_46 : decode cX7_init 46 = .ok (.bipush 6, 2) := by decide +kernel
theorem dX7_init_48 : decode cX7_init 48 = .ok (.newarray .int, 2) := by decide +kernel
theorem dX7_init_50 : decode cX7_init 50 = .ok (.putfield 25, 3) := by decide +kernel
theorem dX7_init_53 : decode cX7_init 53 = .ok (.aload_n 0, 1) := by decide +kernel
theorem dX7_init_54 : decode cX7_init 54 = .ok (.iconst 5, 1) := by decide +kernel
theorem dX7_init_55 : decode cX7_init 55 = .ok (.newarray .int, 2) := by decide +kernel
theorem dX7_init_57 : decode cX7_init 57 = .ok (.putfield 28, 3) := by decide +kernel
theorem dX7_init_60 : decode cX7_init 60 = .ok (.aload_n 0, 1) := by decide +kernel
theorem dX7_init_61 : decode cX7_init 61 = .ok (.iconst 5, 1) := by decide +kernel
theorem dX7_init_62 : decode cX7_init 62 = .ok (.newarray .int, 2) := by decide +kernel
theorem dX7_init_64 : decode cX7_init 64 = .ok (.putfield 31, 3) := by decide +kernel
theorem dX7_init_67 : decode cX7_init 67 = .ok (.aload_n 0, 1) := by decide +kernel
theorem dX7_init_68 : decode cX7_init 68 = .ok (.bipush 20, 2) := by decide +kernel
theorem dX7_init_70 : decode cX7_init 70 = .ok (.newarray .int, 2) := by decide +kernel
theorem dX7_init_72 : decode cX7_init 72 = .ok (.putfield 34, 3) := by decide +kernel
theorem dX7_init_75 : decode cX7_init 75 = .ok (.aload_n 0, 1) := by decide +kernel
theorem dX7_init_76 : decode cX7_init 76 = .ok (.bipush 6, 2) := by decide +kernel
theorem dX7_init_78 : decode cX7_init 78 = .ok (.newarray .int, 2) := by decide +kernel
theorem dX7_init_80 : decode cX7_init 80 = .ok (.putfield 37, 3) := by decide +kernel
theorem dX7_init_83 : decode cX7_init 83 = .ok (.aload_n 0, 1) := by decide +kernel
theorem dX7_init_84 : decode cX7_init 84 = .ok (.bipush 20, 2) := by decide +kernel
theorem dX7_init_86 : decode cX7_init 86 = .ok (.newarray .int, 2) := by decide +kernel
theorem dX7_init_88 : decode cX7_init 88 = .ok (.putfield 40, 3) := by decide +kernel
theorem dX7_init_91 : decode cX7_init 91 = .ok (.aload_n 0, 1) := by decide +kernel
theorem dX7_init_92 : decode cX7_init 92 = .ok (.iconst 4, 1) := by decide +kernel
theorem dX7_init_93 : decode cX7_init 93 = .ok (.newarray .int, 2) := by decide +kernel
theorem dX7_init_95 : decode cX7_init 95 = .ok (.putfield 43, 3) := by decide +kernel
theorem dX7_init_98 : decode cX7_init 98 = .ok (.aload_n 0, 1) := by decide +kernel
theorem dX7_init_99 : decode cX7_init 99 = .ok (.iconst 4, 1) := by decide +kernel
theorem dX7_init_100 : decode cX7_init 100 = .ok (.newarray .int, 2) := by decide +kernel
theorem dX7_init_102 : decode cX7_init 102 = .ok (.putfield 46, 3) := by decide +kernel
theorem dX7_init_105 : decode cX7_init 105 = .ok (.aload_n 0, 1) := by decide +kernel
theorem dX7_init_106 : decode cX7_init 106 = .ok (.sipush 240, 3) := by decide +kernel
theorem dX7_init_109 : decode cX7_init 109 = .ok (.newarray .int, 2) := by decide +kernel
theorem dX7_init_111 : decode cX7_init 111 = .ok (.putfield 49, 3) := by decide +kernel
theorem dX7_init_114 : decode cX7_init 114 = .ok (.aload_n 0, 1) := by decide +kernel
theorem dX7_init_115 : decode cX7_init 115 = .ok (.bipush 60, 2) := by decide +kernel
theorem dX7_init_117 : decode cX7_init 117 = .ok (.newarray .int, 2) := by decide +kernel
theorem dX7_init_119 : decode cX7_init 119 = .ok (.putfield 52, 3) := by decide +kernel
theorem dX7_init_122 : decode cX7_init 122 = .ok (.iconst 0, 1) := by decide +kernel
theorem dX7_init_123 : decode cX7_init 123 = .ok (.istore_n 1, 1) := by decide +kernel
theorem dX7_init_124 : decode cX7_init 124 = .ok (.iload_n 1, 1) := by decide +kernel
theorem dX7_init_125 : decode cX7_init 125 = .ok (.bipush 6, 2) := by decide +kernel
theorem dX7_init_127 : decode cX7_init 127 = .ok (.if_icmp .ge 17, 3) := by decide +kernel
theorem dX7_init_130 : decode cX7_init 130 = .ok (.aload_n 0, 1) := by decide +kernel
theorem dX7_init_131 : decode cX7_init 131 = .ok (.getfield 25, 3) := by decide +kernel
theorem dX7_init_134 : decode cX7_init 134 = .ok (.iload_n 1, 1) := by decide +kernel
theorem dX7_init_135 : decode cX7_init 135 = .ok (.bipush (-9), 2) := by decide +kernel
theorem dX7_init_137 : decode cX7_init 137 = .ok (.iastore, 1) := by decide +kernel
theorem dX7_init_138 : decode cX7_init 138 = .ok (.iinc 1 1, 3) := by decide +kernel
theorem dX7_init_141 : decode cX7_init 141 = .ok (.goto (-17), 3) := by decide +kernel
theorem dX7_init_144 : decode cX7_init 144 = .ok (.iconst 0, 1) := by decide +kernel
theorem dX7_init_145 : decode cX7_init 145 = .ok (.istore_n 1, 1) := by decide +kernel
theorem dX7_init_146 : decode cX7_init 146 = .ok (.iload_n 1, 1) := by decide +kernel
theorem dX7_init_147 : decode cX7_init 147 = .ok (.iconst 4, 1) := by decide +kernel
theorem dX7_init_148 : decode cX7_init 148 = .ok (.if_icmp .ge 16, 3) := by decide +kernel
theorem dX7_init_151 : decode cX7_init 151 = .ok (.aload_n 0, 1) := by decide +kernel
theorem dX7_init_152 : decode cX7_init 152 = .ok (.getfield 43, 3) := by decide +kernel
theorem dX7_init_155 : decode cX7_init 155 = .ok (.iload_n 1, 1) := by decide +kernel
theorem dX7_init_156 : decode cX7_init 156 = .ok (.iconst (-1), 1) := by decide +kernel
theorem dX7_init_157 : decode cX7_init 157 = .ok (.iastore, 1) := by decide +kernel
theorem dX7_init_158 : decode cX7_init 158 = .ok (.iinc 1 1, 3) := by decide +kernel
theorem dX7_init_161 : decode cX7_init 161 = .ok (.goto (-15), 3) := by decide +kernel
theorem dX7_init_164 : decode cX7_init 164 = .ok (.return_, 1) := by decide +kernel
theorem dX7_in_0 : decode cX7_in 0 = .ok (.lload_n 0, 1) := by decide +kernel
theorem dX7_in_1 : decode cX7_in 1 = .ok (.lload_n 2, 1) := by decide +kernel
theorem dX7_in_2 : decode cX7_in 2 = .ok (.lcmp, 1) := by decide +kernel
theorem dX7_in_3 : decode cX7_in 3 = .ok (.ifCond .lt 14, 3) := by decide +kernel
theorem dX7_in_6 : decode cX7_in 6 = .ok (.lload_n 0, 1) := by decide +kernel
theorem dX7_in_7 : decode cX7_in 7 = .ok (.lload 4, 2) := by decide +kernel
theorem dX7_in_9 : decode cX7_in 9 = .ok (.lcmp, 1) := by decide +kernel
theorem dX7_in_10 : decode cX7_in 10 = .ok (.ifCond .gt 7, 3) := by decide +kernel
theorem dX7_in_13 : decode cX7_in 13 = .ok (.iconst 1, 1) := by decide +kernel
theorem dX7_in_14 : decode cX7_in 14 = .ok (.goto 4, 3) := by decide +kernel
theorem dX7_in_17 : decode cX7_in 17 = .ok (.iconst 0, 1) := by decide +kernel
theorem dX7_in_18 : decode cX7_in 18 = .ok (.ireturn, 1) := by decide +kernel
theorem dX7_lost_0 : decode cX7_lost 0 = .ok (.ldc2_w 55, 3) := by decide +kernel
theorem dX7_lost_3 : decode cX7_lost 3 = .ok (.lreturn, 1) := by decide +kernel
theorem dX7_lesser_0 : decode cX7_lesser 0 = .ok (.iload_n 0, 1) := by decide +kernel
theorem dX7_lesser_1 : decode cX7_lesser 1 = .ok (.iload_n 1, 1) := by decide +kernel
theorem dX7_lesser_2 : decode cX7_lesser 2 = .ok (.if_icmp .ge 7, 3) := by decide +kernel
theorem dX7_lesser_5 : decode cX7_lesser 5 = .ok (.iload_n 0, 1) := by decide +kernel
theorem dX7_lesser_6 : decode cX7_lesser 6 = .ok (.goto 4, 3) := by decide +kernel
theorem dX7_lesser_9 : decode cX7_lesser 9 = .ok (.iload_n 1, 1) := by decide +kernel
theorem dX7_lesser_10 : decode cX7_lesser 10 = .ok (.ireturn, 1) := by decide +kernel
theorem dX7_greater_0 : decode cX7_greater 0 = .ok (.iload_n 0, 1) := by decide +kernel
theorem dX7_greater_1 : decode cX7_greater 1 = .ok (.iload_n 1, 1) := by decide +kernel
theorem dX7_greater_2 : decode cX7_greater 2 = .ok (.if_icmp .le 7, 3) := by decide +kernel
theorem dX7_greater_5 : decode cX7_greater 5 = .ok (.iload_n 0, 1) := by decide +kernel
theorem dX7_greater_6 : decode cX7_greater 6 = .ok (.goto 4, 3) := by decide +kernel
theorem dX7_greater_9 : decode cX7_greater 9 = .ok (.iload_n 1, 1) := by decide +kernel
theorem dX7_greater_10 : decode cX7_greater 10 = .ok (.ireturn, 1) := by decide +kernel
theorem dX7_refused_0 : decode cX7_refused 0 = .ok (.aload_n 0, 1) := by decide +kernel
theorem dX7_refused_1 : decode cX7_refused 1 = .ok (.iconst 0, 1) := by decide +kernel
theorem dX7_refused_2 : decode cX7_refused 2 = .ok (.putfield 57, 3) := by decide +kernel
theorem dX7_refused_5 : decode cX7_refused 5 = .ok (.iload_n 1, 1) := by decide +kernel
theorem dX7_refused_6 : decode cX7_refused 6 = .ok (.ireturn, 1) := by decide +kernel
theorem dX7_failed_0 : decode cX7_failed 0 = .ok (.aload_n 0, 1) := by decide +kernel
theorem dX7_failed_1 : decode cX7_failed 1 = .ok (.iload_n 1, 1) := by decide +kernel
theorem dX7_failed_2 : decode cX7_failed 2 = .ok (.putfield 57, 3) := by decide +kernel
theorem dX7_failed_5 : decode cX7_failed 5 = .ok (.bipush (-10), 2) := by decide +kernel
theorem dX7_failed_7 : decode cX7_failed 7 = .ok (.iload_n 1, 1) := by decide +kernel
theorem dX7_failed_8 : decode cX7_failed 8 = .ok (.isub, 1) := by decide +kernel
theorem dX7_failed_9 : decode cX7_failed 9 = .ok (.ireturn, 1) := by decide +kernel
theorem dX7_failedLong_0 : decode cX7_failedLong 0 = .ok (.aload_n 0, 1) := by decide +kernel
theorem dX7_failedLong_1 : decode cX7_failedLong 1 = .ok (.iload_n 1, 1) := by decide +kernel
theorem dX7_failedLong_2 : decode cX7_failedLong 2 = .ok (.putfield 57, 3) := by decide +kernel
theorem dX7_failedLong_5 : decode cX7_failedLong 5 = .ok (.invokestatic 61, 3) := by decide +kernel
theorem dX7_failedLong_8 : decode cX7_failedLong 8 = .ok (.lreturn, 1) := by decide +kernel
theorem dX7_barred_0 : decode cX7_barred 0 = .ok (.iload_n 2, 1) := by decide +kernel
theorem dX7_barred_1 : decode cX7_barred 1 = .ok (.i2l, 1) := by decide +kernel
theorem dX7_barred_2 : decode cX7_barred 2 = .ok (.lconst 0, 1) := by decide +kernel
theorem dX7_barred_3 : decode cX7_barred 3 = .ok (.ldc2_w 65, 3) := by decide +kernel
theorem dX7_barred_6 : decode cX7_barred 6 = .ok (.invokestatic 67, 3) := by decide +kernel
theorem dX7_barred_9 : decode cX7_barred 9 = .ok (.ifCond .ne 10, 3) := by decide +kernel
theorem dX7_barred_12 : decode cX7_barred 12 = .ok (.aload_n 0, 1) := by decide +kernel
theorem dX7_barred_13 : decode cX7_barred 13 = .ok (.bipush (-2), 2) := by decide +kernel
theorem dX7_barred_15 : decode cX7_barred 15 = .ok (.invokevirtual 71, 3) := by decide +kernel
theorem dX7_barred_18 : decode cX7_barred 18 = .ok (.ireturn, 1) := by decide +kernel
theorem dX7_barred_19 : decode cX7_barred 19 = .ok (.aload_n 0, 1) := by decide +kernel
theorem dX7_barred_20 : decode cX7_barred 20 = .ok (.getfield 43, 3) := by decide +kernel
theorem dX7_barred_23 : decode cX7_barred 23 = .ok (.iload_n 1, 1) := by decide +kernel
theorem dX7_barred_24 : decode cX7_barred 24 = .ok (.iaload, 1) := by decide +kernel
theorem dX7_barred_25 : decode cX7_barred 25 = .ok (.ifCond .lt 19, 3) := by decide +kernel
theorem dX7_barred_28 : decode cX7_barred 28 = .ok (.aload_n 0, 1) := by decide +kernel
theorem dX7_barred_29 : decode cX7_barred 29 = .ok (.getfield 46, 3) := by decide +kernel
theorem dX7_barred_32 : decode cX7_barred 32 = .ok (.iload_n 1, 1) := by decide +kernel
theorem dX7_barred_33 : decode cX7_barred 33 = .ok (.iaload, 1) := by decide +kernel
theorem dX7_barred_34 : decode cX7_barred 34 = .ok (.iload_n 2, 1) := by decide +kernel
theorem dX7_barred_35 : decode cX7_barred 35 = .ok (.if_icmp .eq 9, 3) := by decide +kernel
theorem dX7_barred_38 : decode cX7_barred 38 = .ok (.aload_n 0, 1) := by decide +kernel
theorem dX7_barred_39 : decode cX7_barred 39 = .ok (.iconst 2, 1) := by decide +kernel
theorem dX7_barred_40 : decode cX7_barred 40 = .ok (.invokevirtual 75, 3) := by decide +kernel
theorem dX7_barred_43 : decode cX7_barred 43 = .ok (.ireturn, 1) := by decide +kernel
theorem dX7_barred_44 : decode cX7_barred 44 = .ok (.aload_n 0, 1) := by decide +kernel
theorem dX7_barred_45 : decode cX7_barred 45 = .ok (.getfield 43, 3) := by decide +kernel
theorem dX7_barred_48 : decode cX7_barred 48 = .ok (.iload_n 1, 1) := by decide +kernel
theorem dX7_barred_49 : decode cX7_barred 49 = .ok (.iaload, 1) := by decide +kernel
theorem dX7_barred_50 : decode cX7_barred 50 = .ok (.ifCond .ge 9, 3) := by decide +kernel
theorem dX7_barred_53 : decode cX7_barred 53 = .ok (.aload_n 0, 1) := by decide +kernel
theorem dX7_barred_54 : decode cX7_barred 54 = .ok (.iconst 1, 1) := by decide +kernel
theorem dX7_barred_55 : decode cX7_barred 55 = .ok (.invokevirtual 75, 3) := by decide +kernel
theorem dX7_barred_58 : decode cX7_barred 58 = .ok (.ireturn, 1) := by decide +kernel
theorem dX7_barred_59 : decode cX7_barred 59 = .ok (.lload 4, 2) := by decide +kernel
theorem dX7_barred_61 : decode cX7_barred 61 = .ok (.lconst 0, 1) := by decide +kernel
theorem dX7_barred_62 : decode cX7_barred 62 = .ok (.lcmp, 1) := by decide +kernel
theorem dX7_barred_63 : decode cX7_barred 63 = .ok (.ifCond .ge 9, 3) := by decide +kernel
theorem dX7_barred_66 : decode cX7_barred 66 = .ok (.aload_n 0, 1) := by decide +kernel
theorem dX7_barred_67 : decode cX7_barred 67 = .ok (.iconst 4, 1) := by decide +kernel
theorem dX7_barred_68 : decode cX7_barred 68 = .ok (.invokevirtual 75, 3) := by decide +kernel
theorem dX7_barred_71 : decode cX7_barred 71 = .ok (.ireturn, 1) := by decide +kernel
theorem dX7_barred_72 : decode cX7_barred 72 = .ok (.iload_n 3, 1) := by decide +kernel
theorem dX7_barred_73 : decode cX7_barred 73 = .ok (.lload 4, 2) := by decide +kernel
theorem dX7_barred_75 : decode cX7_barred 75 = .ok (.aload_n 0, 1) := by decide +kernel
theorem dX7_barred_76 : decode cX7_barred 76 = .ok (.getfield 43, 3) := by decide +kernel
theorem dX7_barred_79 : decode cX7_barred 79 = .ok (.iload_n 1, 1) := by decide +kernel
theorem dX7_barred_80 : decode cX7_barred 80 = .ok (.iaload, 1) := by decide +kernel
theorem dX7_barred_81 : decode cX7_barred 81 = .ok (.invokestatic 78, 3) := by decide +kernel
theorem dX7_barred_84 : decode cX7_barred 84 = .ok (.ifCond .eq 11, 3) := by decide +kernel
theorem dX7_barred_87 : decode cX7_barred 87 = .ok (.aload_n 0, 1) := by decide +kernel
theorem dX7_barred_88 : decode cX7_barred 88 = .ok (.iconst 3, 1) := by decide +kernel
theorem dX7_barred_89 : decode cX7_barred 89 = .ok (.invokevirtual 75, 3) := by decide +kernel
theorem dX7_barred_92 : decode cX7_barred 92 = .ok (.goto 4, 3) := by decide +kernel
theorem dX7_barred_95 : decode cX7_barred 95 = .ok (.iconst 0, 1) := by decide +kernel
theorem dX7_barred_96 : decode cX7_barred 96 = .ok (.ireturn, 1) := by decide +kernel
theorem dX7_noStair_0 : decode cX7_noStair 0 = .ok (.iload_n 1, 1) := by decide +kernel
theorem dX7_noStair_1 : decode cX7_noStair 1 = .ok (.i2l, 1) := by decide +kernel
theorem dX7_noStair_2 : decode cX7_noStair 2 = .ok (.lconst 0, 1) := by decide +kernel
theorem dX7_noStair_3 : decode cX7_noStair 3 = .ok (.aload_n 0, 1) := by decide +kernel
theorem dX7_noStair_4 : decode cX7_noStair 4 = .ok (.getfield 82, 3) := by decide +kernel
theorem dX7_noStair_7 : decode cX7_noStair 7 = .ok (.i2l, 1) := by decide +kernel
theorem dX7_noStair_8 : decode cX7_noStair 8 = .ok (.lconst 1, 1) := by decide +kernel
theorem dX7_noStair_9 : decode cX7_noStair 9 = .ok (.lsub, 1) := by decide +kernel
theorem dX7_noStair_10 : decode cX7_noStair 10 = .ok (.invokestatic 67, 3) := by decide +kernel
theorem dX7_noStair_13 : decode cX7_noStair 13 = .ok (.ifCond .ne 7, 3) := by decide +kernel
theorem dX7_noStair_16 : decode cX7_noStair 16 = .ok (.iconst 1, 1) := by decide +kernel
theorem dX7_noStair_17 : decode cX7_noStair 17 = .ok (.goto 4, 3) := by decide +kernel
theorem dX7_noStair_20 : decode cX7_noStair 20 = .ok (.iconst 0, 1) := by decide +kernel
theorem dX7_noStair_21 : decode cX7_noStair 21 = .ok (.ireturn, 1) := by decide +kernel
theorem dX7_of_0 : decode cX7_of 0 = .ok (.aload_n 0, 1) := by decide +kernel
theorem dX7_of_1 : decode cX7_of 1 = .ok (.getfield 13, 3) := by decide +kernel
theorem dX7_of_4 : decode cX7_of 4 = .ok (.bipush 41, 2) := by decide +kernel
theorem dX7_of_6 : decode cX7_of 6 = .ok (.iload_n 1, 1) := by decide +kernel
theorem dX7_of_7 : decode cX7_of 7 = .ok (.imul, 1) := by decide +kernel
theorem dX7_of_8 : decode cX7_of 8 = .ok (.iload_n 2, 1) := by decide +kernel
theorem dX7_of_9 : decode cX7_of 9 = .ok (.iadd, 1) := by decide +kernel
theorem dX7_of_10 : decode cX7_of 10 = .ok (.iaload, 1) := by decide +kernel
theorem dX7_of_11 : decode cX7_of 11 = .ok (.ireturn, 1) := by decide +kernel
theorem dX7_set_0 : decode cX7_set 0 = .ok (.aload_n 0, 1) := by decide +kernel
theorem dX7_set_1 : decode cX7_set 1 = .ok (.getfield 13, 3) := by decide +kernel
theorem dX7_set_4 : decode cX7_set 4 = .ok (.bipush 41, 2) := by decide +kernel
theorem dX7_set_6 : decode cX7_set 6 = .ok (.iload_n 1, 1) := by decide +kernel
theorem dX7_set_7 : decode cX7_set 7 = .ok (.imul, 1) := by decide +kernel
theorem dX7_set_8 : decode cX7_set 8 = .ok (.iload_n 2, 1) := by decide +kernel
theorem dX7_set_9 : decode cX7_set 9 = .ok (.iadd, 1) := by decide +kernel
theorem dX7_set_10 : decode cX7_set 10 = .ok (.lload_n 3, 1) := by decide +kernel
theorem dX7_set_11 : decode cX7_set 11 = .ok (.ldc2_w 85, 3) := by decide +kernel
theorem dX7_set_14 : decode cX7_set 14 = .ok (.lcmp, 1) := by decide +kernel
theorem dX7_set_15 : decode cX7_set 15 = .ok (.ifCond .le 8, 3) := by decide +kernel
theorem dX7_set_18 : decode cX7_set 18 = .ok (.ldc 87, 2) := by decide +kernel
theorem dX7_set_20 : decode cX7_set 20 = .ok (.goto 5, 3) := by decide +kernel
theorem dX7_set_23 : decode cX7_set 23 = .ok (.lload_n 3, 1) := by decide +kernel
theorem dX7_set_24 : decode cX7_set 24 = .ok (.l2i, 1) := by decide +kernel
theorem dX7_set_25 : decode cX7_set 25 = .ok (.iastore, 1) := by decide +kernel
theorem dX7_set_26 : decode cX7_set 26 = .ok (.return_, 1) := by decide +kernel
theorem dX7_keep_0 : decode cX7_keep 0 = .ok (.aload_n 0, 1) := by decide +kernel
theorem dX7_keep_1 : decode cX7_keep 1 = .ok (.getfield 7, 3) := by decide +kernel
theorem dX7_keep_4 : decode cX7_keep 4 = .ok (.aload_n 0, 1) := by decide +kernel
theorem dX7_keep_5 : decode cX7_keep 5 = .ok (.getfield 82, 3) := by decide +kernel
theorem dX7_keep_8 : decode cX7_keep 8 = .ok (.iload_n 1, 1) := by decide +kernel
theorem dX7_keep_9 : decode cX7_keep 9 = .ok (.iastore, 1) := by decide +kernel
theorem dX7_keep_10 : decode cX7_keep 10 = .ok (.aload_n 0, 1) := by decide +kernel
theorem dX7_keep_11 : decode cX7_keep 11 = .ok (.dup, 1) := by decide +kernel
theorem dX7_keep_12 : decode cX7_keep 12 = .ok (.getfield 82, 3) := by decide +kernel
theorem dX7_keep_15 : decode cX7_keep 15 = .ok (.iconst 1, 1) := by decide +kernel
theorem dX7_keep_16 : decode cX7_keep 16 = .ok (.iadd, 1) := by decide +kernel
theorem dX7_keep_17 : decode cX7_keep 17 = .ok (.putfield 82, 3) := by decide +kernel
theorem dX7_keep_20 : decode cX7_keep 20 = .ok (.aload_n 0, 1) := by decide +kernel
theorem dX7_keep_21 : decode cX7_keep 21 = .ok (.getfield 82, 3) := by decide +kernel
theorem dX7_keep_24 : decode cX7_keep 24 = .ok (.iconst 1, 1) := by decide +kernel
theorem dX7_keep_25 : decode cX7_keep 25 = .ok (.isub, 1) := by decide +kernel
theorem dX7_keep_26 : decode cX7_keep 26 = .ok (.ireturn, 1) := by decide +kernel
theorem dX7_layBucket_0 : decode cX7_layBucket 0 = .ok (.iconst 0, 1) := by decide +kernel
theorem dX7_layBucket_1 : decode cX7_layBucket 1 = .ok (.istore 4, 2) := by decide +kernel
theorem dX7_layBucket_3 : decode cX7_layBucket 3 = .ok (.iload 4, 2) := by decide +kernel
theorem dX7_layBucket_5 : decode cX7_layBucket 5 = .ok (.bipush 41, 2) := by decide +kernel
theorem dX7_layBucket_7 : decode cX7_layBucket 7 = .ok (.if_icmp .ge 32, 3) := by decide +kernel
theorem dX7_layBucket_10 : decode cX7_layBucket 10 = .ok (.aload_n 0, 1) := by decide +kernel
theorem dX7_layBucket_11 : decode cX7_layBucket 11 = .ok (.iload_n 1, 1) := by decide +kernel
theorem dX7_layBucket_12 : decode cX7_layBucket 12 = .ok (.iload 4, 2) := by decide +kernel
theorem dX7_layBucket_14 : decode cX7_layBucket 14 = .ok (.iload 4, 2) := by decide +kernel
theorem dX7_layBucket_16 : decode cX7_layBucket 16 = .ok (.ifCond .ne 7, 3) := by decide +kernel
theorem dX7_layBucket_19 : decode cX7_layBucket 19 = .ok (.lconst 0, 1) := by decide +kernel
theorem dX7_layBucket_20 : decode cX7_layBucket 20 = .ok (.goto 10, 3) := by decide +kernel
theorem dX7_layBucket_23 : decode cX7_layBucket 23 = .ok (.iload_n 2, 1) := by decide +kernel
theorem dX7_layBucket_24 : decode cX7_layBucket 24 = .ok (.iload_n 3, 1) := by decide +kernel
theorem dX7_layBucket_25 : decode cX7_layBucket 25 = .ok (.iload 4, 2) := by decide +kernel
theorem dX7_layBucket_27 : decode cX7_layBucket 27 = .ok (.imul, 1) := by decide +kernel
theorem dX7_layBucket_28 : decode cX7_layBucket 28 = .ok (.iadd, 1) := by decide +kernel
theorem dX7_layBucket_29 : decode cX7_layBucket 29 = .ok (.i2l, 1) := by decide +kernel
theorem dX7_layBucket_30 : decode cX7_layBucket 30 = .ok (.invokevirtual 88, 3) := by decide +kernel
theorem dX7_layBucket_33 : decode cX7_layBucket 33 = .ok (.iinc 4 1, 3) := by decide +kernel
theorem dX7_layBucket_36 : decode cX7_layBucket 36 = .ok (.goto (-33), 3) := by decide +kernel
theorem dX7_layBucket_39 : decode cX7_layBucket 39 = .ok (.return_, 1) := by decide +kernel
theorem dX7_layLate_0 : decode cX7_layLate 0 = .ok (.iconst 0, 1) := by decide +kernel
theorem dX7_layLate_1 : decode cX7_layLate 1 = .ok (.istore 4, 2) := by decide +kernel
theorem dX7_layLate_3 : decode cX7_layLate 3 = .ok (.iload 4, 2) := by decide +kernel
theorem dX7_layLate_5 : decode cX7_layLate 5 = .ok (.bipush 41, 2) := by decide +kernel
theorem dX7_layLate_7 : decode cX7_layLate 7 = .ok (.if_icmp .ge 33, 3) := by decide +kernel
theorem dX7_layLate_10 : decode cX7_layLate 10 = .ok (.aload_n 0, 1) := by decide +kernel
theorem dX7_layLate_11 : decode cX7_layLate 11 = .ok (.iload_n 1, 1) := by decide +kernel
theorem dX7_layLate_12 : decode cX7_layLate 12 = .ok (.iload 4, 2) := by decide +kernel
theorem dX7_layLate_14 : decode cX7_layLate 14 = .ok (.iload 4, 2) := by decide +kernel
theorem dX7_layLate_16 : decode cX7_layLate 16 = .ok (.iload_n 2, 1) := by decide +kernel
theorem dX7_layLate_17 : decode cX7_layLate 17 = .ok (.if_icmp .ge 7, 3) := by decide +kernel
theorem dX7_layLate_20 : decode cX7_layLate 20 = .ok (.lconst 0, 1) := by decide +kernel
theorem dX7_layLate_21 : decode cX7_layLate 21 = .ok (.goto 10, 3) := by decide +kernel
theorem dX7_layLate_24 : decode cX7_layLate 24 = .ok (.iload_n 3, 1) := by decide +kernel
theorem dX7_layLate_25 : decode cX7_layLate 25 = .ok (.iload 4, 2) := by decide +kernel
theorem dX7_layLate_27 : decode cX7_layLate 27 = .ok (.iload_n 2, 1) := by decide +kernel
theorem dX7_layLate_28 : decode cX7_layLate 28 = .ok (.isub, 1) := by decide +kernel
theorem dX7_layLate_29 : decode cX7_layLate 29 = .ok (.imul, 1) := by decide +kernel
theorem dX7_layLate_30 : decode cX7_layLate 30 = .ok (.i2l, 1) := by decide +kernel
theorem dX7_layLate_31 : decode cX7_layLate 31 = .ok (.invokevirtual 88, 3) := by decide +kernel
theorem dX7_layLate_34 : decode cX7_layLate 34 = .ok (.iinc 4 1, 3) := by decide +kernel
theorem dX7_layLate_37 : decode cX7_layLate 37 = .ok (.goto (-34), 3) := by decide +kernel
theorem dX7_layLate_40 : decode cX7_layLate 40 = .ok (.return_, 1) := by decide +kernel
theorem dX7_areSteps_0 : decode cX7_areSteps 0 = .ok (.iload_n 2, 1) := by decide +kernel
theorem dX7_areSteps_1 : decode cX7_areSteps 1 = .ok (.i2l, 1) := by decide +kernel
theorem dX7_areSteps_2 : decode cX7_areSteps 2 = .ok (.lconst 1, 1) := by decide +kernel
theorem dX7_areSteps_3 : decode cX7_areSteps 3 = .ok (.ldc2_w 92, 3) := by decide +kernel
theorem dX7_areSteps_6 : decode cX7_areSteps 6 = .ok (.invokestatic 67, 3) := by decide +kernel
theorem dX7_areSteps_9 : decode cX7_areSteps 9 = .ok (.istore_n 3, 1) := by decide +kernel
theorem dX7_areSteps_10 : decode cX7_areSteps 10 = .ok (.iconst 0, 1) := by decide +kernel
theorem dX7_areSteps_11 : decode cX7_areSteps 11 = .ok (.istore 4, 2) := by decide +kernel
theorem dX7_areSteps_13 : decode cX7_areSteps 13 = .ok (.iload 4, 2) := by decide +kernel
theorem dX7_areSteps_15 : decode cX7_areSteps 15 = .ok (.iload_n 2, 1) := by decide +kernel
theorem dX7_areSteps_16 : decode cX7_areSteps 16 = .ok (.if_icmp .ge 31, 3) := by decide +kernel
theorem dX7_areSteps_19 : decode cX7_areSteps 19 = .ok (.iload_n 3, 1) := by decide +kernel
theorem dX7_areSteps_20 : decode cX7_areSteps 20 = .ok (.ifCond .eq 27, 3) := by decide +kernel
theorem dX7_areSteps_23 : decode cX7_areSteps 23 = .ok (.aload_n 0, 1) := by decide +kernel
theorem dX7_areSteps_24 : decode cX7_areSteps 24 = .ok (.getfield 49, 3) := by decide +kernel
theorem dX7_areSteps_27 : decode cX7_areSteps 27 = .ok (.iload_n 1, 1) := by decide +kernel
theorem dX7_areSteps_28 : decode cX7_areSteps 28 = .ok (.iload 4, 2) := by decide +kernel
theorem dX7_areSteps_30 : decode cX7_areSteps 30 = .ok (.iadd, 1) := by decide +kernel
theorem dX7_areSteps_31 : decode cX7_areSteps 31 = .ok (.iaload, 1) := by decide +kernel
theorem dX7_areSteps_32 : decode cX7_areSteps 32 = .ok (.i2l, 1) := by decide +kernel
theorem dX7_areSteps_33 : decode cX7_areSteps 33 = .ok (.lconst 0, 1) := by decide +kernel
theorem dX7_areSteps_34 : decode cX7_areSteps 34 = .ok (.ldc2_w 94, 3) := by decide +kernel
theorem dX7_areSteps_37 : decode cX7_areSteps 37 = .ok (.invokestatic 67, 3) := by decide +kernel
theorem dX7_areSteps_40 : decode cX7_areSteps 40 = .ok (.istore_n 3, 1) := by decide +kernel
theorem dX7_areSteps_41 : decode cX7_areSteps 41 = .ok (.iinc 4 1, 3) := by decide +kernel
theorem dX7_areSteps_44 : decode cX7_areSteps 44 = .ok (.goto (-31), 3) := by decide +kernel
theorem dX7_areSteps_47 : decode cX7_areSteps 47 = .ok (.iload_n 3, 1) := by decide +kernel
theorem dX7_areSteps_48 : decode cX7_areSteps 48 = .ok (.ireturn, 1) := by decide +kernel
theorem dX7_steps_0 : decode cX7_steps 0 = .ok (.iload_n 1, 1) := by decide +kernel
theorem dX7_steps_1 : decode cX7_steps 1 = .ok (.invokestatic 96, 3) := by decide +kernel
theorem dX7_steps_4 : decode cX7_steps 4 = .ok (.ifCond .eq 9, 3) := by decide +kernel
theorem dX7_steps_7 : decode cX7_steps 7 = .ok (.aload_n 0, 1) := by decide +kernel
theorem dX7_steps_8 : decode cX7_steps 8 = .ok (.iconst (-1), 1) := by decide +kernel
theorem dX7_steps_9 : decode cX7_steps 9 = .ok (.invokevirtual 71, 3) := by decide +kernel
theorem dX7_steps_12 : decode cX7_steps 12 = .ok (.ireturn, 1) := by decide +kernel
theorem dX7_steps_13 : decode cX7_steps 13 = .ok (.aload_n 0, 1) := by decide +kernel
theorem dX7_steps_14 : decode cX7_steps 14 = .ok (.iload_n 1, 1) := by decide +kernel
theorem dX7_steps_15 : decode cX7_steps 15 = .ok (.iload_n 2, 1) := by decide +kernel
theorem dX7_steps_16 : decode cX7_steps 16 = .ok (.iload_n 3, 1) := by decide +kernel
theorem dX7_steps_17 : decode cX7_steps 17 = .ok (.iload 4, 2) := by decide +kernel
theorem dX7_steps_19 : decode cX7_steps 19 = .ok (.i2l, 1) := by decide +kernel
theorem dX7_steps_20 : decode cX7_steps 20 = .ok (.invokevirtual 100, 3) := by decide +kernel
theorem dX7_steps_23 : decode cX7_steps 23 = .ok (.istore 5, 2) := by decide +kernel
theorem dX7_steps_25 : decode cX7_steps 25 = .ok (.iload 5, 2) := by decide +kernel
theorem dX7_steps_27 : decode cX7_steps 27 = .ok (.ifCond .ge 6, 3) := by decide +kernel
theorem dX7_steps_30 : decode cX7_steps 30 = .ok (.iload 5, 2) := by decide +kernel
theorem dX7_steps_32 : decode cX7_steps 32 = .ok (.ireturn, 1) := by decide +kernel
theorem dX7_steps_33 : decode cX7_steps 33 = .ok (.bipush 60, 2) := by decide +kernel
theorem dX7_steps_35 : decode cX7_steps 35 = .ok (.iload_n 1, 1) := by decide +kernel
theorem dX7_steps_36 : decode cX7_steps 36 = .ok (.imul, 1) := by decide +kernel
theorem dX7_steps_37 : decode cX7_steps 37 = .ok (.iload_n 3, 1) := by decide +kernel
theorem dX7_steps_38 : decode cX7_steps 38 = .ok (.iadd, 1) := by decide +kernel
theorem dX7_steps_39 : decode cX7_steps 39 = .ok (.istore 6, 2) := by decide +kernel
theorem dX7_steps_41 : decode cX7_steps 41 = .ok (.aload_n 0, 1) := by decide +kernel
theorem dX7_steps_42 : decode cX7_steps 42 = .ok (.iload 6, 2) := by decide +kernel
theorem dX7_steps_44 : decode cX7_steps 44 = .ok (.iload 4, 2) := by decide +kernel
theorem dX7_steps_46 : decode cX7_steps 46 = .ok (.invokevirtual 104, 3) := by decide +kernel
theorem dX7_steps_49 : decode cX7_steps 49 = .ok (.ifCond .ne 10, 3) := by decide +kernel
theorem dX7_steps_52 : decode cX7_steps 52 = .ok (.aload_n 0, 1) := by decide +kernel
theorem dX7_steps_53 : decode cX7_steps 53 = .ok (.bipush (-2), 2) := by decide +kernel
theorem dX7_steps_55 : decode cX7_steps 55 = .ok (.invokevirtual 71, 3) := by decide +kernel
theorem dX7_steps_58 : decode cX7_steps 58 = .ok (.ireturn, 1) := by decide +kernel
theorem dX7_steps_59 : decode cX7_steps 59 = .ok (.aload_n 0, 1) := by decide +kernel
theorem dX7_steps_60 : decode cX7_steps 60 = .ok (.getfield 82, 3) := by decide +kernel
theorem dX7_steps_63 : decode cX7_steps 63 = .ok (.bipush 24, 2) := by decide +kernel
theorem dX7_steps_65 : decode cX7_steps 65 = .ok (.if_icmp .ne 10, 3) := by decide +kernel
theorem dX7_steps_68 : decode cX7_steps 68 = .ok (.aload_n 0, 1) := by decide +kernel
theorem dX7_steps_69 : decode cX7_steps 69 = .ok (.bipush (-4), 2) := by decide +kernel
theorem dX7_steps_71 : decode cX7_steps 71 = .ok (.invokevirtual 71, 3) := by decide +kernel
theorem dX7_steps_74 : decode cX7_steps 74 = .ok (.ireturn, 1) := by decide +kernel
theorem dX7_steps_75 : decode cX7_steps 75 = .ok (.aload_n 0, 1) := by decide +kernel
theorem dX7_steps_76 : decode cX7_steps 76 = .ok (.aload_n 0, 1) := by decide +kernel
theorem dX7_steps_77 : decode cX7_steps 77 = .ok (.getfield 82, 3) := by decide +kernel
theorem dX7_steps_80 : decode cX7_steps 80 = .ok (.iconst 0, 1) := by decide +kernel
theorem dX7_steps_81 : decode cX7_steps 81 = .ok (.lconst 0, 1) := by decide +kernel
theorem dX7_steps_82 : decode cX7_steps 82 = .ok (.invokevirtual 88, 3) := by decide +kernel
theorem dX7_steps_85 : decode cX7_steps 85 = .ok (.iconst 1, 1) := by decide +kernel
theorem dX7_steps_86 : decode cX7_steps 86 = .ok (.istore 7, 2) := by decide +kernel
theorem dX7_steps_88 : decode cX7_steps 88 = .ok (.iload 7, 2) := by decide +kernel
theorem dX7_steps_90 : decode cX7_steps 90 = .ok (.bipush 41, 2) := by decide +kernel
theorem dX7_steps_92 : decode cX7_steps 92 = .ok (.if_icmp .ge 50, 3) := by decide +kernel
theorem dX7_steps_95 : decode cX7_steps 95 = .ok (.aload_n 0, 1) := by decide +kernel
theorem dX7_steps_96 : decode cX7_steps 96 = .ok (.aload_n 0, 1) := by decide +kernel
theorem dX7_steps_97 : decode cX7_steps 97 = .ok (.getfield 82, 3) := by decide +kernel
theorem dX7_steps_100 : decode cX7_steps 100 = .ok (.iload 7, 2) := by decide +kernel
theorem dX7_steps_102 : decode cX7_steps 102 = .ok (.aload_n 0, 1) := by decide +kernel
theorem dX7_steps_103 : decode cX7_steps 103 = .ok (.aload_n 0, 1) := by decide +kernel
theorem dX7_steps_104 : decode cX7_steps 104 = .ok (.getfield 82, 3) := by decide +kernel
theorem dX7_steps_107 : decode cX7_steps 107 = .ok (.iload 7, 2) := by decide +kernel
theorem dX7_steps_109 : decode cX7_steps 109 = .ok (.iconst 1, 1) := by decide +kernel
theorem dX7_steps_110 : decode cX7_steps 110 = .ok (.isub, 1) := by decide +kernel
theorem dX7_steps_111 : decode cX7_steps 111 = .ok (.invokevirtual 108, 3) := by decide +kernel
theorem dX7_steps_114 : decode cX7_steps 114 = .ok (.aload_n 0, 1) := by decide +kernel
theorem dX7_steps_115 : decode cX7_steps 115 = .ok (.getfield 49, 3) := by decide +kernel
theorem dX7_steps_118 : decode cX7_steps 118 = .ok (.iload 6, 2) := by decide +kernel
theorem dX7_steps_120 : decode cX7_steps 120 = .ok (.iload 7, 2) := by decide +kernel
theorem dX7_steps_122 : decode cX7_steps 122 = .ok (.iload 4, 2) := by decide +kernel
theorem dX7_steps_124 : decode cX7_steps 124 = .ok (.invokestatic 112, 3) := by decide +kernel
theorem dX7_steps_127 : decode cX7_steps 127 = .ok (.iadd, 1) := by decide +kernel
theorem dX7_steps_128 : decode cX7_steps 128 = .ok (.iconst 1, 1) := by decide +kernel
theorem dX7_steps_129 : decode cX7_steps 129 = .ok (.isub, 1) := by decide +kernel
theorem dX7_steps_130 : decode cX7_steps 130 = .ok (.iaload, 1) := by decide +kernel
theorem dX7_steps_131 : decode cX7_steps 131 = .ok (.iadd, 1) := by decide +kernel
theorem dX7_steps_132 : decode cX7_steps 132 = .ok (.i2l, 1) := by decide +kernel
theorem dX7_steps_133 : decode cX7_steps 133 = .ok (.invokevirtual 88, 3) := by decide +kernel
theorem dX7_steps_136 : decode cX7_steps 136 = .ok (.iinc 7 1, 3) := by decide +kernel
theorem dX7_steps_139 : decode cX7_steps 139 = .ok (.goto (-51), 3) := by decide +kernel
theorem dX7_steps_142 : decode cX7_steps 142 = .ok (.aload_n 0, 1) := by decide +kernel
theorem dX7_steps_143 : decode cX7_steps 143 = .ok (.aload_n 0, 1) := by decide +kernel
theorem dX7_steps_144 : decode cX7_steps 144 = .ok (.iconst 0, 1) := by decide +kernel
theorem dX7_steps_145 : decode cX7_steps 145 = .ok (.invokevirtual 115, 3) := by decide +kernel
theorem dX7_steps_148 : decode cX7_steps 148 = .ok (.invokevirtual 71, 3) := by decide +kernel
theorem dX7_steps_151 : decode cX7_steps 151 = .ok (.ireturn, 1) := by decide +kernel
theorem dX7_bucket_0 : decode cX7_bucket 0 = .ok (.iload_n 1, 1) := by decide +kernel
theorem dX7_bucket_1 : decode cX7_bucket 1 = .ok (.i2l, 1) := by decide +kernel
theorem dX7_bucket_2 : decode cX7_bucket 2 = .ok (.lconst 0, 1) := by decide +kernel
theorem dX7_bucket_3 : decode cX7_bucket 3 = .ok (.ldc2_w 118, 3) := by decide +kernel
theorem dX7_bucket_6 : decode cX7_bucket 6 = .ok (.invokestatic 67, 3) := by decide +kernel
theorem dX7_bucket_9 : decode cX7_bucket 9 = .ok (.ifCond .eq 15, 3) := by decide +kernel
theorem dX7_bucket_12 : decode cX7_bucket 12 = .ok (.iload_n 2, 1) := by decide +kernel
theorem dX7_bucket_13 : decode cX7_bucket 13 = .ok (.i2l, 1) := by decide +kernel
theorem dX7_bucket_14 : decode cX7_bucket 14 = .ok (.lconst 0, 1) := by decide +kernel
theorem dX7_bucket_15 : decode cX7_bucket 15 = .ok (.ldc2_w 94, 3) := by decide +kernel
theorem dX7_bucket_18 : decode cX7_bucket 18 = .ok (.invokestatic 67, 3) := by decide +kernel
theorem dX7_bucket_21 : decode cX7_bucket 21 = .ok (.ifCond .ne 6, 3) := by decide +kernel
theorem dX7_bucket_24 : decode cX7_bucket 24 = .ok (.bipush (-2), 2) := by decide +kernel
theorem dX7_bucket_26 : decode cX7_bucket 26 = .ok (.ireturn, 1) := by decide +kernel
theorem dX7_bucket_27 : decode cX7_bucket 27 = .ok (.aload_n 0, 1) := by decide +kernel
theorem dX7_bucket_28 : decode cX7_bucket 28 = .ok (.getfield 82, 3) := by decide +kernel
theorem dX7_bucket_31 : decode cX7_bucket 31 = .ok (.bipush 24, 2) := by decide +kernel
theorem dX7_bucket_33 : decode cX7_bucket 33 = .ok (.if_icmp .ne 6, 3) := by decide +kernel
theorem dX7_bucket_36 : decode cX7_bucket 36 = .ok (.bipush (-4), 2) := by decide +kernel
theorem dX7_bucket_38 : decode cX7_bucket 38 = .ok (.ireturn, 1) := by decide +kernel
theorem dX7_bucket_39 : decode cX7_bucket 39 = .ok (.aload_n 0, 1) := by decide +kernel
theorem dX7_bucket_40 : decode cX7_bucket 40 = .ok (.aload_n 0, 1) := by decide +kernel
theorem dX7_bucket_41 : decode cX7_bucket 41 = .ok (.getfield 82, 3) := by decide +kernel
theorem dX7_bucket_44 : decode cX7_bucket 44 = .ok (.iload_n 1, 1) := by decide +kernel
theorem dX7_bucket_45 : decode cX7_bucket 45 = .ok (.iload_n 2, 1) := by decide +kernel
theorem dX7_bucket_46 : decode cX7_bucket 46 = .ok (.invokevirtual 120, 3) := by decide +kernel
theorem dX7_bucket_49 : decode cX7_bucket 49 = .ok (.aload_n 0, 1) := by decide +kernel
theorem dX7_bucket_50 : decode cX7_bucket 50 = .ok (.iconst 1, 1) := by decide +kernel
theorem dX7_bucket_51 : decode cX7_bucket 51 = .ok (.invokevirtual 115, 3) := by decide +kernel
theorem dX7_bucket_54 : decode cX7_bucket 54 = .ok (.ireturn, 1) := by decide +kernel
theorem dX7_late_0 : decode cX7_late 0 = .ok (.iload_n 1, 1) := by decide +kernel
theorem dX7_late_1 : decode cX7_late 1 = .ok (.i2l, 1) := by decide +kernel
theorem dX7_late_2 : decode cX7_late 2 = .ok (.lconst 0, 1) := by decide +kernel
theorem dX7_late_3 : decode cX7_late 3 = .ok (.ldc2_w 92, 3) := by decide +kernel
theorem dX7_late_6 : decode cX7_late 6 = .ok (.invokestatic 67, 3) := by decide +kernel
theorem dX7_late_9 : decode cX7_late 9 = .ok (.ifCond .eq 15, 3) := by decide +kernel
theorem dX7_late_12 : decode cX7_late 12 = .ok (.iload_n 2, 1) := by decide +kernel
theorem dX7_late_13 : decode cX7_late 13 = .ok (.i2l, 1) := by decide +kernel
theorem dX7_late_14 : decode cX7_late 14 = .ok (.lconst 0, 1) := by decide +kernel
theorem dX7_late_15 : decode cX7_late 15 = .ok (.ldc2_w 94, 3) := by decide +kernel
theorem dX7_late_18 : decode cX7_late 18 = .ok (.invokestatic 67, 3) := by decide +kernel
theorem dX7_late_21 : decode cX7_late 21 = .ok (.ifCond .ne 6, 3) := by decide +kernel
theorem dX7_late_24 : decode cX7_late 24 = .ok (.bipush (-2), 2) := by decide +kernel
theorem dX7_late_26 : decode cX7_late 26 = .ok (.ireturn, 1) := by decide +kernel
theorem dX7_late_27 : decode cX7_late 27 = .ok (.aload_n 0, 1) := by decide +kernel
theorem dX7_late_28 : decode cX7_late 28 = .ok (.getfield 82, 3) := by decide +kernel
theorem dX7_late_31 : decode cX7_late 31 = .ok (.bipush 24, 2) := by decide +kernel
theorem dX7_late_33 : decode cX7_late 33 = .ok (.if_icmp .ne 6, 3) := by decide +kernel
theorem dX7_late_36 : decode cX7_late 36 = .ok (.bipush (-4), 2) := by decide +kernel
theorem dX7_late_38 : decode cX7_late 38 = .ok (.ireturn, 1) := by decide +kernel
theorem dX7_late_39 : decode cX7_late 39 = .ok (.aload_n 0, 1) := by decide +kernel
theorem dX7_late_40 : decode cX7_late 40 = .ok (.aload_n 0, 1) := by decide +kernel
theorem dX7_late_41 : decode cX7_late 41 = .ok (.getfield 82, 3) := by decide +kernel
theorem dX7_late_44 : decode cX7_late 44 = .ok (.iload_n 1, 1) := by decide +kernel
theorem dX7_late_45 : decode cX7_late 45 = .ok (.iload_n 2, 1) := by decide +kernel
theorem dX7_late_46 : decode cX7_late 46 = .ok (.invokevirtual 124, 3) := by decide +kernel
theorem dX7_late_49 : decode cX7_late 49 = .ok (.aload_n 0, 1) := by decide +kernel
theorem dX7_late_50 : decode cX7_late 50 = .ok (.iconst 2, 1) := by decide +kernel
theorem dX7_late_51 : decode cX7_late 51 = .ok (.invokevirtual 115, 3) := by decide +kernel
theorem dX7_late_54 : decode cX7_late 54 = .ok (.ireturn, 1) := by decide +kernel
theorem dX7_readsNumber_0 : decode cX7_readsNumber 0 = .ok (.aload_n 0, 1) := by decide +kernel
theorem dX7_readsNumber_1 : decode cX7_readsNumber 1 = .ok (.getfield 127, 3) := by decide +kernel
theorem dX7_readsNumber_4 : decode cX7_readsNumber 4 = .ok (.istore 4, 2) := by decide +kernel
theorem dX7_readsNumber_6 : decode cX7_readsNumber 6 = .ok (.iconst 0, 1) := by decide +kernel
theorem dX7_readsNumber_7 : decode cX7_readsNumber 7 = .ok (.istore 5, 2) := by decide +kernel
theorem dX7_readsNumber_9 : decode cX7_readsNumber 9 = .ok (.aload_n 0, 1) := by decide +kernel
theorem dX7_readsNumber_10 : decode cX7_readsNumber 10 = .ok (.getfield 127, 3) := by decide +kernel
theorem dX7_readsNumber_13 : decode cX7_readsNumber 13 = .ok (.iload_n 2, 1) := by decide +kernel
theorem dX7_readsNumber_14 : decode cX7_readsNumber 14 = .ok (.if_icmp .ge 73, 3) := by decide +kernel
theorem dX7_readsNumber_17 : decode cX7_readsNumber 17 = .ok (.aload_n 0, 1) := by decide +kernel
theorem dX7_readsNumber_18 : decode cX7_readsNumber 18 = .ok (.getfield 127, 3) := by decide +kernel
theorem dX7_readsNumber_21 : decode cX7_readsNumber 21 = .ok (.iload 4, 2) := by decide +kernel
theorem dX7_readsNumber_23 : decode cX7_readsNumber 23 = .ok (.iconst 4, 1) := by decide +kernel
theorem dX7_readsNumber_24 : decode cX7_readsNumber 24 = .ok (.iadd, 1) := by decide +kernel
theorem dX7_readsNumber_25 : decode cX7_readsNumber 25 = .ok (.if_icmp .ge 62, 3) := by decide +kernel
theorem dX7_readsNumber_28 : decode cX7_readsNumber 28 = .ok (.aload_n 0, 1) := by decide +kernel
theorem dX7_readsNumber_29 : decode cX7_readsNumber 29 = .ok (.getfield 49, 3) := by decide +kernel
theorem dX7_readsNumber_32 : decode cX7_readsNumber 32 = .ok (.iload_n 1, 1) := by decide +kernel
theorem dX7_readsNumber_33 : decode cX7_readsNumber 33 = .ok (.aload_n 0, 1) := by decide +kernel
theorem dX7_readsNumber_34 : decode cX7_readsNumber 34 = .ok (.getfield 127, 3) := by decide +kernel
theorem dX7_readsNumber_37 : decode cX7_readsNumber 37 = .ok (.iadd, 1) := by decide +kernel
theorem dX7_readsNumber_38 : decode cX7_readsNumber 38 = .ok (.iaload, 1) := by decide +kernel
theorem dX7_readsNumber_39 : decode cX7_readsNumber 39 = .ok (.i2l, 1) := by decide +kernel
theorem dX7_readsNumber_40 : decode cX7_readsNumber 40 = .ok (.ldc2_w 130, 3) := by decide +kernel
theorem dX7_readsNumber_43 : decode cX7_readsNumber 43 = .ok (.ldc2_w 132, 3) := by decide +kernel
theorem dX7_readsNumber_46 : decode cX7_readsNumber 46 = .ok (.invokestatic 67, 3) := by decide +kernel
theorem dX7_readsNumber_49 : decode cX7_readsNumber 49 = .ok (.ifCond .eq 38, 3) := by decide +kernel
theorem dX7_readsNumber_52 : decode cX7_readsNumber 52 = .ok (.bipush 10, 2) := by decide +kernel
theorem dX7_readsNumber_54 : decode cX7_readsNumber 54 = .ok (.iload 5, 2) := by decide +kernel
theorem dX7_readsNumber_56 : decode cX7_readsNumber 56 = .ok (.imul, 1) := by decide +kernel
theorem dX7_readsNumber_57 : decode cX7_readsNumber 57 = .ok (.aload_n 0, 1) := by decide +kernel
theorem dX7_readsNumber_58 : decode cX7_readsNumber 58 = .ok (.getfield 49, 3) := by decide +kernel
theorem dX7_readsNumber_61 : decode cX7_readsNumber 61 = .ok (.iload_n 1, 1) := by decide +kernel
theorem dX7_readsNumber_62 : decode cX7_readsNumber 62 = .ok (.aload_n 0, 1) := by decide +kernel
theorem dX7_readsNumber_63 : decode cX7_readsNumber 63 = .ok (.getfield 127, 3) := by decide +kernel
theorem dX7_readsNumber_66 : decode cX7_readsNumber 66 = .ok (.iadd, 1) := by decide +kernel
theorem dX7_readsNumber_67 : decode cX7_readsNumber 67 = .ok (.iaload, 1) := by decide +kernel
theorem dX7_readsNumber_68 : decode cX7_readsNumber 68 = .ok (.iadd, 1) := by decide +kernel
theorem dX7_readsNumber_69 : decode cX7_readsNumber 69 = .ok (.bipush 48, 2) := by decide +kernel
theorem dX7_readsNumber_71 : decode cX7_readsNumber 71 = .ok (.isub, 1) := by decide +kernel
theorem dX7_readsNumber_72 : decode cX7_readsNumber 72 = .ok (.istore 5, 2) := by decide +kernel
theorem dX7_readsNumber_74 : decode cX7_readsNumber 74 = .ok (.aload_n 0, 1) := by decide +kernel
theorem dX7_readsNumber_75 : decode cX7_readsNumber 75 = .ok (.dup, 1) := by decide +kernel
theorem dX7_readsNumber_76 : decode cX7_readsNumber 76 = .ok (.getfield 127, 3) := by decide +kernel
theorem dX7_readsNumber_79 : decode cX7_readsNumber 79 = .ok (.iconst 1, 1) := by decide +kernel
theorem dX7_readsNumber_80 : decode cX7_readsNumber 80 = .ok (.iadd, 1) := by decide +kernel
theorem dX7_readsNumber_81 : decode cX7_readsNumber 81 = .ok (.putfield 127, 3) := by decide +kernel
theorem dX7_readsNumber_84 : decode cX7_readsNumber 84 = .ok (.goto (-75), 3) := by decide +kernel
theorem dX7_readsNumber_87 : decode cX7_readsNumber 87 = .ok (.aload_n 0, 1) := by decide +kernel
theorem dX7_readsNumber_88 : decode cX7_readsNumber 88 = .ok (.iload 5, 2) := by decide +kernel
theorem dX7_readsNumber_90 : decode cX7_readsNumber 90 = .ok (.putfield 134, 3) := by decide +kernel
theorem dX7_readsNumber_93 : decode cX7_readsNumber 93 = .ok (.iload 5, 2) := by decide +kernel
theorem dX7_readsNumber_95 : decode cX7_readsNumber 95 = .ok (.iload_n 3, 1) := by decide +kernel
theorem dX7_readsNumber_96 : decode cX7_readsNumber 96 = .ok (.if_icmp .le 9, 3) := by decide +kernel
theorem dX7_readsNumber_99 : decode cX7_readsNumber 99 = .ok (.aload_n 0, 1) := by decide +kernel
theorem dX7_readsNumber_100 : decode cX7_readsNumber 100 = .ok (.iload 4, 2) := by decide +kernel
theorem dX7_readsNumber_102 : decode cX7_readsNumber 102 = .ok (.putfield 127, 3) := by decide +kernel
theorem dX7_readsNumber_105 : decode cX7_readsNumber 105 = .ok (.aload_n 0, 1) := by decide +kernel
theorem dX7_readsNumber_106 : decode cX7_readsNumber 106 = .ok (.getfield 127, 3) := by decide +kernel
theorem dX7_readsNumber_109 : decode cX7_readsNumber 109 = .ok (.iload 4, 2) := by decide +kernel
theorem dX7_readsNumber_111 : decode cX7_readsNumber 111 = .ok (.if_icmp .le 7, 3) := by decide +kernel
theorem dX7_readsNumber_114 : decode cX7_readsNumber 114 = .ok (.iconst 1, 1) := by decide +kernel
theorem dX7_readsNumber_115 : decode cX7_readsNumber 115 = .ok (.goto 4, 3) := by decide +kernel
theorem dX7_readsNumber_118 : decode cX7_readsNumber 118 = .ok (.iconst 0, 1) := by decide +kernel
theorem dX7_readsNumber_119 : decode cX7_readsNumber 119 = .ok (.ireturn, 1) := by decide +kernel
theorem dX7_readsItem_0 : decode cX7_readsItem 0 = .ok (.aload_n 0, 1) := by decide +kernel
theorem dX7_readsItem_1 : decode cX7_readsItem 1 = .ok (.getfield 127, 3) := by decide +kernel
theorem dX7_readsItem_4 : decode cX7_readsItem 4 = .ok (.iload_n 2, 1) := by decide +kernel
theorem dX7_readsItem_5 : decode cX7_readsItem 5 = .ok (.if_icmp .ge 17, 3) := by decide +kernel
theorem dX7_readsItem_8 : decode cX7_readsItem 8 = .ok (.aload_n 0, 1) := by decide +kernel
theorem dX7_readsItem_9 : decode cX7_readsItem 9 = .ok (.getfield 49, 3) := by decide +kernel
theorem dX7_readsItem_12 : decode cX7_readsItem 12 = .ok (.iload_n 1, 1) := by decide +kernel
theorem dX7_readsItem_13 : decode cX7_readsItem 13 = .ok (.aload_n 0, 1) := by decide +kernel
theorem dX7_readsItem_14 : decode cX7_readsItem 14 = .ok (.getfield 127, 3) := by decide +kernel
theorem dX7_readsItem_17 : decode cX7_readsItem 17 = .ok (.iadd, 1) := by decide +kernel
theorem dX7_readsItem_18 : decode cX7_readsItem 18 = .ok (.iaload, 1) := by decide +kernel
theorem dX7_readsItem_19 : decode cX7_readsItem 19 = .ok (.goto 4, 3) := by decide +kernel
theorem dX7_readsItem_22 : decode cX7_readsItem 22 = .ok (.iconst 0, 1) := by decide +kernel
theorem dX7_readsItem_23 : decode cX7_readsItem 23 = .ok (.istore_n 3, 1) := by decide +kernel
theorem dX7_readsItem_24 : decode cX7_readsItem 24 = .ok (.iload_n 3, 1) := by decide +kernel
theorem dX7_readsItem_25 : decode cX7_readsItem 25 = .ok (.bipush 114, 2) := by decide +kernel
theorem dX7_readsItem_27 : decode cX7_readsItem 27 = .ok (.if_icmp .ne 7, 3) := by decide +kernel
theorem dX7_readsItem_30 : decode cX7_readsItem 30 = .ok (.iconst 0, 1) := by decide +kernel
theorem dX7_readsItem_31 : decode cX7_readsItem 31 = .ok (.goto 25, 3) := by decide +kernel
theorem dX7_readsItem_34 : decode cX7_readsItem 34 = .ok (.iload_n 3, 1) := by decide +kernel
theorem dX7_readsItem_35 : decode cX7_readsItem 35 = .ok (.bipush 98, 2) := by decide +kernel
theorem dX7_readsItem_37 : decode cX7_readsItem 37 = .ok (.if_icmp .ne 7, 3) := by decide +kernel
theorem dX7_readsItem_40 : decode cX7_readsItem 40 = .ok (.iconst 1, 1) := by decide +kernel
theorem dX7_readsItem_41 : decode cX7_readsItem 41 = .ok (.goto 15, 3) := by decide +kernel
theorem dX7_readsItem_44 : decode cX7_readsItem 44 = .ok (.iload_n 3, 1) := by decide +kernel
theorem dX7_readsItem_45 : decode cX7_readsItem 45 = .ok (.bipush 108, 2) := by decide +kernel
theorem dX7_readsItem_47 : decode cX7_readsItem 47 = .ok (.if_icmp .ne 7, 3) := by decide +kernel
theorem dX7_readsItem_50 : decode cX7_readsItem 50 = .ok (.iconst 2, 1) := by decide +kernel
theorem dX7_readsItem_51 : decode cX7_readsItem 51 = .ok (.goto 5, 3) := by decide +kernel
theorem dX7_readsItem_54 : decode cX7_readsItem 54 = .ok (.bipush (-9), 2) := by decide +kernel
theorem dX7_readsItem_56 : decode cX7_readsItem 56 = .ok (.istore 4, 2) := by decide +kernel
theorem dX7_readsItem_58 : decode cX7_readsItem 58 = .ok (.iload 4, 2) := by decide +kernel
theorem dX7_readsItem_60 : decode cX7_readsItem 60 = .ok (.ifCond .ge 5, 3) := by decide +kernel
theorem dX7_readsItem_63 : decode cX7_readsItem 63 = .ok (.iconst 0, 1) := by decide +kernel
theorem dX7_readsItem_64 : decode cX7_readsItem 64 = .ok (.ireturn, 1) := by decide +kernel
theorem dX7_readsItem_65 : decode cX7_readsItem 65 = .ok (.aload_n 0, 1) := by decide +kernel
theorem dX7_readsItem_66 : decode cX7_readsItem 66 = .ok (.dup, 1) := by decide +kernel
theorem dX7_readsItem_67 : decode cX7_readsItem 67 = .ok (.getfield 127, 3) := by decide +kernel
theorem dX7_readsItem_70 : decode cX7_readsItem 70 = .ok (.iconst 1, 1) := by decide +kernel
theorem dX7_readsItem_71 : decode cX7_readsItem 71 = .ok (.iadd, 1) := by decide +kernel
theorem dX7_readsItem_72 : decode cX7_readsItem 72 = .ok (.putfield 127, 3) := by decide +kernel
theorem dX7_readsItem_75 : decode cX7_readsItem 75 = .ok (.iload 4, 2) := by decide +kernel
theorem dX7_readsItem_77 : decode cX7_readsItem 77 = .ok (.ifCond .le 77, 3) := by decide +kernel
theorem dX7_readsItem_80 : decode cX7_readsItem 80 = .ok (.aload_n 0, 1) := by decide +kernel
theorem dX7_readsItem_81 : decode cX7_readsItem 81 = .ok (.iload_n 1, 1) := by decide +kernel
theorem dX7_readsItem_82 : decode cX7_readsItem 82 = .ok (.iload_n 2, 1) := by decide +kernel
theorem dX7_readsItem_83 : decode cX7_readsItem 83 = .ok (.iload 4, 2) := by decide +kernel
theorem dX7_readsItem_85 : decode cX7_readsItem 85 = .ok (.iconst 1, 1) := by decide +kernel
theorem dX7_readsItem_86 : decode cX7_readsItem 86 = .ok (.if_icmp .ne 9, 3) := by decide +kernel
theorem dX7_readsItem_89 : decode cX7_readsItem 89 = .ok (.sipush 9999, 3) := by decide +kernel
theorem dX7_readsItem_92 : decode cX7_readsItem 92 = .ok (.goto 5, 3) := by decide +kernel
theorem dX7_readsItem_95 : decode cX7_readsItem 95 = .ok (.bipush 40, 2) := by decide +kernel
theorem dX7_readsItem_97 : decode cX7_readsItem 97 = .ok (.invokevirtual 137, 3) := by decide +kernel
theorem dX7_readsItem_100 : decode cX7_readsItem 100 = .ok (.ifCond .ne 5, 3) := by decide +kernel
theorem dX7_readsItem_103 : decode cX7_readsItem 103 = .ok (.iconst 0, 1) := by decide +kernel
theorem dX7_readsItem_104 : decode cX7_readsItem 104 = .ok (.ireturn, 1) := by decide +kernel
theorem dX7_readsItem_105 : decode cX7_readsItem 105 = .ok (.aload_n 0, 1) := by decide +kernel
theorem dX7_readsItem_106 : decode cX7_readsItem 106 = .ok (.getfield 19, 3) := by decide +kernel
theorem dX7_readsItem_109 : decode cX7_readsItem 109 = .ok (.aload_n 0, 1) := by decide +kernel
theorem dX7_readsItem_110 : decode cX7_readsItem 110 = .ok (.getfield 141, 3) := by decide +kernel
theorem dX7_readsItem_113 : decode cX7_readsItem 113 = .ok (.aload_n 0, 1) := by decide +kernel
theorem dX7_readsItem_114 : decode cX7_readsItem 114 = .ok (.getfield 134, 3) := by decide +kernel
theorem dX7_readsItem_117 : decode cX7_readsItem 117 = .ok (.iastore, 1) := by decide +kernel
theorem dX7_readsItem_118 : decode cX7_readsItem 118 = .ok (.aload_n 0, 1) := by decide +kernel
theorem dX7_readsItem_119 : decode cX7_readsItem 119 = .ok (.getfield 127, 3) := by decide +kernel
theorem dX7_readsItem_122 : decode cX7_readsItem 122 = .ok (.iload_n 2, 1) := by decide +kernel
theorem dX7_readsItem_123 : decode cX7_readsItem 123 = .ok (.if_icmp .eq 19, 3) := by decide +kernel
theorem dX7_readsItem_126 : decode cX7_readsItem 126 = .ok (.aload_n 0, 1) := by decide +kernel
theorem dX7_readsItem_127 : decode cX7_readsItem 127 = .ok (.getfield 49, 3) := by decide +kernel
theorem dX7_readsItem_130 : decode cX7_readsItem 130 = .ok (.iload_n 1, 1) := by decide +kernel
theorem dX7_readsItem_131 : decode cX7_readsItem 131 = .ok (.aload_n 0, 1) := by decide +kernel
theorem dX7_readsItem_132 : decode cX7_readsItem 132 = .ok (.getfield 127, 3) := by decide +kernel
theorem dX7_readsItem_135 : decode cX7_readsItem 135 = .ok (.iadd, 1) := by decide +kernel
theorem dX7_readsItem_136 : decode cX7_readsItem 136 = .ok (.iaload, 1) := by decide +kernel
theorem dX7_readsItem_137 : decode cX7_readsItem 137 = .ok (.bipush 114, 2) := by decide +kernel
theorem dX7_readsItem_139 : decode cX7_readsItem 139 = .ok (.if_icmp .eq 5, 3) := by decide +kernel
theorem dX7_readsItem_142 : decode cX7_readsItem 142 = .ok (.iconst 0, 1) := by decide +kernel
theorem dX7_readsItem_143 : decode cX7_readsItem 143 = .ok (.ireturn, 1) := by decide +kernel
theorem dX7_readsItem_144 : decode cX7_readsItem 144 = .ok (.aload_n 0, 1) := by decide +kernel
theorem dX7_readsItem_145 : decode cX7_readsItem 145 = .ok (.dup, 1) := by decide +kernel
theorem dX7_readsItem_146 : decode cX7_readsItem 146 = .ok (.getfield 127, 3) := by decide +kernel
theorem dX7_readsItem_149 : decode cX7_readsItem 149 = .ok (.iconst 1, 1) := by decide +kernel
theorem dX7_readsItem_150 : decode cX7_readsItem 150 = .ok (.iadd, 1) := by decide +kernel
theorem dX7_readsItem_151 : decode cX7_readsItem 151 = .ok (.putfield 127, 3) := by decide +kernel
theorem dX7_readsItem_154 : decode cX7_readsItem 154 = .ok (.aload_n 0, 1) := by decide +kernel
theorem dX7_readsItem_155 : decode cX7_readsItem 155 = .ok (.getfield 16, 3) := by decide +kernel
theorem dX7_readsItem_158 : decode cX7_readsItem 158 = .ok (.aload_n 0, 1) := by decide +kernel
theorem dX7_readsItem_159 : decode cX7_readsItem 159 = .ok (.getfield 141, 3) := by decide +kernel
theorem dX7_readsItem_162 : decode cX7_readsItem 162 = .ok (.iload 4, 2) := by decide +kernel
theorem dX7_readsItem_164 : decode cX7_readsItem 164 = .ok (.iastore, 1) := by decide +kernel
theorem dX7_readsItem_165 : decode cX7_readsItem 165 = .ok (.aload_n 0, 1) := by decide +kernel
theorem dX7_readsItem_166 : decode cX7_readsItem 166 = .ok (.iload_n 1, 1) := by decide +kernel
theorem dX7_readsItem_167 : decode cX7_readsItem 167 = .ok (.iload_n 2, 1) := by decide +kernel
theorem dX7_readsItem_168 : decode cX7_readsItem 168 = .ok (.sipush 999, 3) := by decide +kernel
theorem dX7_readsItem_171 : decode cX7_readsItem 171 = .ok (.invokevirtual 137, 3) := by decide +kernel
theorem dX7_readsItem_174 : decode cX7_readsItem 174 = .ok (.istore 5, 2) := by decide +kernel
theorem dX7_readsItem_176 : decode cX7_readsItem 176 = .ok (.aload_n 0, 1) := by decide +kernel
theorem dX7_readsItem_177 : decode cX7_readsItem 177 = .ok (.getfield 22, 3) := by decide +kernel
theorem dX7_readsItem_180 : decode cX7_readsItem 180 = .ok (.aload_n 0, 1) := by decide +kernel
theorem dX7_readsItem_181 : decode cX7_readsItem 181 = .ok (.getfield 141, 3) := by decide +kernel
theorem dX7_readsItem_184 : decode cX7_readsItem 184 = .ok (.aload_n 0, 1) := by decide +kernel
theorem dX7_readsItem_185 : decode cX7_readsItem 185 = .ok (.getfield 134, 3) := by decide +kernel
theorem dX7_readsItem_188 : decode cX7_readsItem 188 = .ok (.iastore, 1) := by decide +kernel
theorem dX7_readsItem_189 : decode cX7_readsItem 189 = .ok (.aload_n 0, 1) := by decide +kernel
theorem dX7_readsItem_190 : decode cX7_readsItem 190 = .ok (.dup, 1) := by decide +kernel
theorem dX7_readsItem_191 : decode cX7_readsItem 191 = .ok (.getfield 141, 3) := by decide +kernel
theorem dX7_readsItem_194 : decode cX7_readsItem 194 = .ok (.iload 5, 2) := by decide +kernel
theorem dX7_readsItem_196 : decode cX7_readsItem 196 = .ok (.ifCond .eq 7, 3) := by decide +kernel
theorem dX7_readsItem_199 : decode cX7_readsItem 199 = .ok (.iconst 1, 1) := by decide +kernel
theorem dX7_readsItem_200 : decode cX7_readsItem 200 = .ok (.goto 4, 3) := by decide +kernel
theorem dX7_readsItem_203 : decode cX7_readsItem 203 = .ok (.iconst 0, 1) := by decide +kernel
theorem dX7_readsItem_204 : decode cX7_readsItem 204 = .ok (.iadd, 1) := by decide +kernel
theorem dX7_readsItem_205 : decode cX7_readsItem 205 = .ok (.putfield 141, 3) := by decide +kernel
theorem dX7_readsItem_208 : decode cX7_readsItem 208 = .ok (.iload 5, 2) := by decide +kernel
theorem dX7_readsItem_210 : decode cX7_readsItem 210 = .ok (.ireturn, 1) := by decide +kernel
theorem dX7_readStair_0 : decode cX7_readStair 0 = .ok (.aload_n 0, 1) := by decide +kernel
theorem dX7_readStair_1 : decode cX7_readStair 1 = .ok (.iconst 0, 1) := by decide +kernel
theorem dX7_readStair_2 : decode cX7_readStair 2 = .ok (.putfield 127, 3) := by decide +kernel
theorem dX7_readStair_5 : decode cX7_readStair 5 = .ok (.aload_n 0, 1) := by decide +kernel
theorem dX7_readStair_6 : decode cX7_readStair 6 = .ok (.iconst 0, 1) := by decide +kernel
theorem dX7_readStair_7 : decode cX7_readStair 7 = .ok (.putfield 141, 3) := by decide +kernel
theorem dX7_readStair_10 : decode cX7_readStair 10 = .ok (.aload_n 0, 1) := by decide +kernel
theorem dX7_readStair_11 : decode cX7_readStair 11 = .ok (.iconst 0, 1) := by decide +kernel
theorem dX7_readStair_12 : decode cX7_readStair 12 = .ok (.putfield 144, 3) := by decide +kernel
theorem dX7_readStair_15 : decode cX7_readStair 15 = .ok (.iconst 1, 1) := by decide +kernel
theorem dX7_readStair_16 : decode cX7_readStair 16 = .ok (.istore_n 3, 1) := by decide +kernel
theorem dX7_readStair_17 : decode cX7_readStair 17 = .ok (.iload_n 3, 1) := by decide +kernel
theorem dX7_readStair_18 : decode cX7_readStair 18 = .ok (.ifCond .eq 123, 3) := by decide +kernel
theorem dX7_readStair_21 : decode cX7_readStair 21 = .ok (.aload_n 0, 1) := by decide +kernel
theorem dX7_readStair_22 : decode cX7_readStair 22 = .ok (.iload_n 1, 1) := by decide +kernel
theorem dX7_readStair_23 : decode cX7_readStair 23 = .ok (.iload_n 2, 1) := by decide +kernel
theorem dX7_readStair_24 : decode cX7_readStair 24 = .ok (.invokevirtual 147, 3) := by decide +kernel
theorem dX7_readStair_27 : decode cX7_readStair 27 = .ok (.ifCond .ne 8, 3) := by decide +kernel
theorem dX7_readStair_30 : decode cX7_readStair 30 = .ok (.aload_n 0, 1) := by decide +kernel
theorem dX7_readStair_31 : decode cX7_readStair 31 = .ok (.getfield 127, 3) := by decide +kernel
theorem dX7_readStair_34 : decode cX7_readStair 34 = .ok (.ireturn, 1) := by decide +kernel
theorem dX7_readStair_35 : decode cX7_readStair 35 = .ok (.aload_n 0, 1) := by decide +kernel
theorem dX7_readStair_36 : decode cX7_readStair 36 = .ok (.getfield 127, 3) := by decide +kernel
theorem dX7_readStair_39 : decode cX7_readStair 39 = .ok (.iload_n 2, 1) := by decide +kernel
theorem dX7_readStair_40 : decode cX7_readStair 40 = .ok (.if_icmp .ge 7, 3) := by decide +kernel
theorem dX7_readStair_43 : decode cX7_readStair 43 = .ok (.iconst 1, 1) := by decide +kernel
theorem dX7_readStair_44 : decode cX7_readStair 44 = .ok (.goto 4, 3) := by decide +kernel
theorem dX7_readStair_47 : decode cX7_readStair 47 = .ok (.iconst 0, 1) := by decide +kernel
theorem dX7_readStair_48 : decode cX7_readStair 48 = .ok (.istore_n 3, 1) := by decide +kernel
theorem dX7_readStair_49 : decode cX7_readStair 49 = .ok (.iload_n 3, 1) := by decide +kernel
theorem dX7_readStair_50 : decode cX7_readStair 50 = .ok (.ifCond .eq (-33), 3) := by decide +kernel
theorem dX7_readStair_53 : decode cX7_readStair 53 = .ok (.aload_n 0, 1) := by decide +kernel
theorem dX7_readStair_54 : decode cX7_readStair 54 = .ok (.getfield 49, 3) := by decide +kernel
theorem dX7_readStair_57 : decode cX7_readStair 57 = .ok (.iload_n 1, 1) := by decide +kernel
theorem dX7_readStair_58 : decode cX7_readStair 58 = .ok (.aload_n 0, 1) := by decide +kernel
theorem dX7_readStair_59 : decode cX7_readStair 59 = .ok (.getfield 127, 3) := by decide +kernel
theorem dX7_readStair_62 : decode cX7_readStair 62 = .ok (.iadd, 1) := by decide +kernel
theorem dX7_readStair_63 : decode cX7_readStair 63 = .ok (.iaload, 1) := by decide +kernel
theorem dX7_readStair_64 : decode cX7_readStair 64 = .ok (.istore 4, 2) := by decide +kernel
theorem dX7_readStair_66 : decode cX7_readStair 66 = .ok (.iload 4, 2) := by decide +kernel
theorem dX7_readStair_68 : decode cX7_readStair 68 = .ok (.bipush 38, 2) := by decide +kernel
theorem dX7_readStair_70 : decode cX7_readStair 70 = .ok (.if_icmp .eq 10, 3) := by decide +kernel
theorem dX7_readStair_73 : decode cX7_readStair 73 = .ok (.iload 4, 2) := by decide +kernel
theorem dX7_readStair_75 : decode cX7_readStair 75 = .ok (.bipush 43, 2) := by decide +kernel
theorem dX7_readStair_77 : decode cX7_readStair 77 = .ok (.if_icmp .ne 32, 3) := by decide +kernel
theorem dX7_readStair_80 : decode cX7_readStair 80 = .ok (.aload_n 0, 1) := by decide +kernel
theorem dX7_readStair_81 : decode cX7_readStair 81 = .ok (.getfield 144, 3) := by decide +kernel
theorem dX7_readStair_84 : decode cX7_readStair 84 = .ok (.ifCond .eq 12, 3) := by decide +kernel
theorem dX7_readStair_87 : decode cX7_readStair 87 = .ok (.iload 4, 2) := by decide +kernel
theorem dX7_readStair_89 : decode cX7_readStair 89 = .ok (.aload_n 0, 1) := by decide +kernel
theorem dX7_readStair_90 : decode cX7_readStair 90 = .ok (.getfield 144, 3) := by decide +kernel
theorem dX7_readStair_93 : decode cX7_readStair 93 = .ok (.if_icmp .ne 16, 3) := by decide +kernel
theorem dX7_readStair_96 : decode cX7_readStair 96 = .ok (.aload_n 0, 1) := by decide +kernel
theorem dX7_readStair_97 : decode cX7_readStair 97 = .ok (.getfield 141, 3) := by decide +kernel
theorem dX7_readStair_100 : decode cX7_readStair 100 = .ok (.bipush 6, 2) := by decide +kernel
theorem dX7_readStair_102 : decode cX7_readStair 102 = .ok (.if_icmp .ge 7, 3) := by decide +kernel
theorem dX7_readStair_105 : decode cX7_readStair 105 = .ok (.iconst 1, 1) := by decide +kernel
theorem dX7_readStair_106 : decode cX7_readStair 106 = .ok (.goto 4, 3) := by decide +kernel
theorem dX7_readStair_109 : decode cX7_readStair 109 = .ok (.iconst 0, 1) := by decide +kernel
theorem dX7_readStair_110 : decode cX7_readStair 110 = .ok (.istore 5, 2) := by decide +kernel
theorem dX7_readStair_112 : decode cX7_readStair 112 = .ok (.iload 5, 2) := by decide +kernel
theorem dX7_readStair_114 : decode cX7_readStair 114 = .ok (.ifCond .ne 8, 3) := by decide +kernel
theorem dX7_readStair_117 : decode cX7_readStair 117 = .ok (.aload_n 0, 1) := by decide +kernel
theorem dX7_readStair_118 : decode cX7_readStair 118 = .ok (.getfield 127, 3) := by decide +kernel
theorem dX7_readStair_121 : decode cX7_readStair 121 = .ok (.ireturn, 1) := by decide +kernel
theorem dX7_readStair_122 : decode cX7_readStair 122 = .ok (.aload_n 0, 1) := by decide +kernel
theorem dX7_readStair_123 : decode cX7_readStair 123 = .ok (.iload 4, 2) := by decide +kernel
theorem dX7_readStair_125 : decode cX7_readStair 125 = .ok (.putfield 144, 3) := by decide +kernel
theorem dX7_readStair_128 : decode cX7_readStair 128 = .ok (.aload_n 0, 1) := by decide +kernel
theorem dX7_readStair_129 : decode cX7_readStair 129 = .ok (.dup, 1) := by decide +kernel
theorem dX7_readStair_130 : decode cX7_readStair 130 = .ok (.getfield 127, 3) := by decide +kernel
theorem dX7_readStair_133 : decode cX7_readStair 133 = .ok (.iconst 1, 1) := by decide +kernel
theorem dX7_readStair_134 : decode cX7_readStair 134 = .ok (.iadd, 1) := by decide +kernel
theorem dX7_readStair_135 : decode cX7_readStair 135 = .ok (.putfield 127, 3) := by decide +kernel
theorem dX7_readStair_138 : decode cX7_readStair 138 = .ok (.goto (-121), 3) := by decide +kernel
theorem dX7_readStair_141 : decode cX7_readStair 141 = .ok (.bipush (-9), 2) := by decide +kernel
theorem dX7_readStair_143 : decode cX7_readStair 143 = .ok (.ireturn, 1) := by decide +kernel
theorem dX7_layItem_0 : decode cX7_layItem 0 = .ok (.aload_n 0, 1) := by decide +kernel
theorem dX7_layItem_1 : decode cX7_layItem 1 = .ok (.getfield 16, 3) := by decide +kernel
theorem dX7_layItem_4 : decode cX7_layItem 4 = .ok (.iload_n 2, 1) := by decide +kernel
theorem dX7_layItem_5 : decode cX7_layItem 5 = .ok (.iaload, 1) := by decide +kernel
theorem dX7_layItem_6 : decode cX7_layItem 6 = .ok (.iconst 1, 1) := by decide +kernel
theorem dX7_layItem_7 : decode cX7_layItem 7 = .ok (.if_icmp .ne 23, 3) := by decide +kernel
theorem dX7_layItem_10 : decode cX7_layItem 10 = .ok (.aload_n 0, 1) := by decide +kernel
theorem dX7_layItem_11 : decode cX7_layItem 11 = .ok (.iload_n 1, 1) := by decide +kernel
theorem dX7_layItem_12 : decode cX7_layItem 12 = .ok (.aload_n 0, 1) := by decide +kernel
theorem dX7_layItem_13 : decode cX7_layItem 13 = .ok (.getfield 19, 3) := by decide +kernel
theorem dX7_layItem_16 : decode cX7_layItem 16 = .ok (.iload_n 2, 1) := by decide +kernel
theorem dX7_layItem_17 : decode cX7_layItem 17 = .ok (.iaload, 1) := by decide +kernel
theorem dX7_layItem_18 : decode cX7_layItem 18 = .ok (.aload_n 0, 1) := by decide +kernel
theorem dX7_layItem_19 : decode cX7_layItem 19 = .ok (.getfield 22, 3) := by decide +kernel
theorem dX7_layItem_22 : decode cX7_layItem 22 = .ok (.iload_n 2, 1) := by decide +kernel
theorem dX7_layItem_23 : decode cX7_layItem 23 = .ok (.iaload, 1) := by decide +kernel
theorem dX7_layItem_24 : decode cX7_layItem 24 = .ok (.invokevirtual 120, 3) := by decide +kernel
theorem dX7_layItem_27 : decode cX7_layItem 27 = .ok (.goto 34, 3) := by decide +kernel
theorem dX7_layItem_30 : decode cX7_layItem 30 = .ok (.aload_n 0, 1) := by decide +kernel
theorem dX7_layItem_31 : decode cX7_layItem 31 = .ok (.iload_n 1, 1) := by decide +kernel
theorem dX7_layItem_32 : decode cX7_layItem 32 = .ok (.aload_n 0, 1) := by decide +kernel
theorem dX7_layItem_33 : decode cX7_layItem 33 = .ok (.getfield 16, 3) := by decide +kernel
theorem dX7_layItem_36 : decode cX7_layItem 36 = .ok (.iload_n 2, 1) := by decide +kernel
theorem dX7_layItem_37 : decode cX7_layItem 37 = .ok (.iaload, 1) := by decide +kernel
theorem dX7_layItem_38 : decode cX7_layItem 38 = .ok (.iconst 2, 1) := by decide +kernel
theorem dX7_layItem_39 : decode cX7_layItem 39 = .ok (.if_icmp .ne 12, 3) := by decide +kernel
theorem dX7_layItem_42 : decode cX7_layItem 42 = .ok (.aload_n 0, 1) := by decide +kernel
theorem dX7_layItem_43 : decode cX7_layItem 43 = .ok (.getfield 19, 3) := by decide +kernel
theorem dX7_layItem_46 : decode cX7_layItem 46 = .ok (.iload_n 2, 1) := by decide +kernel
theorem dX7_layItem_47 : decode cX7_layItem 47 = .ok (.iaload, 1) := by decide +kernel
theorem dX7_layItem_48 : decode cX7_layItem 48 = .ok (.goto 4, 3) := by decide +kernel
theorem dX7_layItem_51 : decode cX7_layItem 51 = .ok (.iconst 0, 1) := by decide +kernel
theorem dX7_layItem_52 : decode cX7_layItem 52 = .ok (.aload_n 0, 1) := by decide +kernel
theorem dX7_layItem_53 : decode cX7_layItem 53 = .ok (.getfield 22, 3) := by decide +kernel
theorem dX7_layItem_56 : decode cX7_layItem 56 = .ok (.iload_n 2, 1) := by decide +kernel
theorem dX7_layItem_57 : decode cX7_layItem 57 = .ok (.iaload, 1) := by decide +kernel
theorem dX7_layItem_58 : decode cX7_layItem 58 = .ok (.invokevirtual 124, 3) := by decide +kernel
theorem dX7_layItem_61 : decode cX7_layItem 61 = .ok (.return_, 1) := by decide +kernel
theorem dX7_text_0 : decode cX7_text 0 = .ok (.iload_n 1, 1) := by decide +kernel
theorem dX7_text_1 : decode cX7_text 1 = .ok (.invokestatic 96, 3) := by decide +kernel
theorem dX7_text_4 : decode cX7_text 4 = .ok (.ifCond .eq 9, 3) := by decide +kernel
theorem dX7_text_7 : decode cX7_text 7 = .ok (.aload_n 0, 1) := by decide +kernel
theorem dX7_text_8 : decode cX7_text 8 = .ok (.iconst (-1), 1) := by decide +kernel
theorem dX7_text_9 : decode cX7_text 9 = .ok (.invokevirtual 71, 3) := by decide +kernel
theorem dX7_text_12 : decode cX7_text 12 = .ok (.ireturn, 1) := by decide +kernel
theorem dX7_text_13 : decode cX7_text 13 = .ok (.aload_n 0, 1) := by decide +kernel
theorem dX7_text_14 : decode cX7_text 14 = .ok (.iload_n 1, 1) := by decide +kernel
theorem dX7_text_15 : decode cX7_text 15 = .ok (.iload_n 2, 1) := by decide +kernel
theorem dX7_text_16 : decode cX7_text 16 = .ok (.iload_n 3, 1) := by decide +kernel
theorem dX7_text_17 : decode cX7_text 17 = .ok (.iload 4, 2) := by decide +kernel
theorem dX7_text_19 : decode cX7_text 19 = .ok (.i2l, 1) := by decide +kernel
theorem dX7_text_20 : decode cX7_text 20 = .ok (.invokevirtual 100, 3) := by decide +kernel
theorem dX7_text_23 : decode cX7_text 23 = .ok (.istore 5, 2) := by decide +kernel
theorem dX7_text_25 : decode cX7_text 25 = .ok (.iload 5, 2) := by decide +kernel
theorem dX7_text_27 : decode cX7_text 27 = .ok (.ifCond .ge 6, 3) := by decide +kernel
theorem dX7_text_30 : decode cX7_text 30 = .ok (.iload 5, 2) := by decide +kernel
theorem dX7_text_32 : decode cX7_text 32 = .ok (.ireturn, 1) := by decide +kernel
theorem dX7_text_33 : decode cX7_text 33 = .ok (.aload_n 0, 1) := by decide +kernel
theorem dX7_text_34 : decode cX7_text 34 = .ok (.bipush 60, 2) := by decide +kernel
theorem dX7_text_36 : decode cX7_text 36 = .ok (.iload_n 1, 1) := by decide +kernel
theorem dX7_text_37 : decode cX7_text 37 = .ok (.imul, 1) := by decide +kernel
theorem dX7_text_38 : decode cX7_text 38 = .ok (.iload_n 3, 1) := by decide +kernel
theorem dX7_text_39 : decode cX7_text 39 = .ok (.iadd, 1) := by decide +kernel
theorem dX7_text_40 : decode cX7_text 40 = .ok (.iload 4, 2) := by decide +kernel
theorem dX7_text_42 : decode cX7_text 42 = .ok (.invokevirtual 150, 3) := by decide +kernel
theorem dX7_text_45 : decode cX7_text 45 = .ok (.istore 6, 2) := by decide +kernel
theorem dX7_text_47 : decode cX7_text 47 = .ok (.iload 6, 2) := by decide +kernel
theorem dX7_text_49 : decode cX7_text 49 = .ok (.ifCond .lt 13, 3) := by decide +kernel
theorem dX7_text_52 : decode cX7_text 52 = .ok (.aload_n 0, 1) := by decide +kernel
theorem dX7_text_53 : decode cX7_text 53 = .ok (.bipush (-100), 2) := by decide +kernel
theorem dX7_text_55 : decode cX7_text 55 = .ok (.iload 6, 2) := by decide +kernel
theorem dX7_text_57 : decode cX7_text 57 = .ok (.isub, 1) := by decide +kernel
theorem dX7_text_58 : decode cX7_text 58 = .ok (.invokevirtual 71, 3) := by decide +kernel
theorem dX7_text_61 : decode cX7_text 61 = .ok (.ireturn, 1) := by decide +kernel
theorem dX7_text_62 : decode cX7_text 62 = .ok (.aload_n 0, 1) := by decide +kernel
theorem dX7_text_63 : decode cX7_text 63 = .ok (.getfield 82, 3) := by decide +kernel
theorem dX7_text_66 : decode cX7_text 66 = .ok (.bipush 24, 2) := by decide +kernel
theorem dX7_text_68 : decode cX7_text 68 = .ok (.if_icmp .ne 10, 3) := by decide +kernel
theorem dX7_text_71 : decode cX7_text 71 = .ok (.aload_n 0, 1) := by decide +kernel
theorem dX7_text_72 : decode cX7_text 72 = .ok (.bipush (-4), 2) := by decide +kernel
theorem dX7_text_74 : decode cX7_text 74 = .ok (.invokevirtual 71, 3) := by decide +kernel
theorem dX7_text_77 : decode cX7_text 77 = .ok (.ireturn, 1) := by decide +kernel
theorem dX7_text_78 : decode cX7_text 78 = .ok (.aload_n 0, 1) := by decide +kernel
theorem dX7_text_79 : decode cX7_text 79 = .ok (.aload_n 0, 1) := by decide +kernel
theorem dX7_text_80 : decode cX7_text 80 = .ok (.getfield 82, 3) := by decide +kernel
theorem dX7_text_83 : decode cX7_text 83 = .ok (.iconst 0, 1) := by decide +kernel
theorem dX7_text_84 : decode cX7_text 84 = .ok (.invokevirtual 153, 3) := by decide +kernel
theorem dX7_text_87 : decode cX7_text 87 = .ok (.iconst 1, 1) := by decide +kernel
theorem dX7_text_88 : decode cX7_text 88 = .ok (.istore 7, 2) := by decide +kernel
theorem dX7_text_90 : decode cX7_text 90 = .ok (.iload 7, 2) := by decide +kernel
theorem dX7_text_92 : decode cX7_text 92 = .ok (.aload_n 0, 1) := by decide +kernel
theorem dX7_text_93 : decode cX7_text 93 = .ok (.getfield 141, 3) := by decide +kernel
theorem dX7_text_96 : decode cX7_text 96 = .ok (.if_icmp .ge 45, 3) := by decide +kernel
theorem dX7_text_99 : decode cX7_text 99 = .ok (.aload_n 0, 1) := by decide +kernel
theorem dX7_text_100 : decode cX7_text 100 = .ok (.bipush 84, 2) := by decide +kernel
theorem dX7_text_102 : decode cX7_text 102 = .ok (.iload 7, 2) := by decide +kernel
theorem dX7_text_104 : decode cX7_text 104 = .ok (.invokevirtual 153, 3) := by decide +kernel
theorem dX7_text_107 : decode cX7_text 107 = .ok (.aload_n 0, 1) := by decide +kernel
theorem dX7_text_108 : decode cX7_text 108 = .ok (.aload_n 0, 1) := by decide +kernel
theorem dX7_text_109 : decode cX7_text 109 = .ok (.getfield 144, 3) := by decide +kernel
theorem dX7_text_112 : decode cX7_text 112 = .ok (.bipush 38, 2) := by decide +kernel
theorem dX7_text_114 : decode cX7_text 114 = .ok (.if_icmp .ne 7, 3) := by decide +kernel
theorem dX7_text_117 : decode cX7_text 117 = .ok (.iconst 0, 1) := by decide +kernel
theorem dX7_text_118 : decode cX7_text 118 = .ok (.goto 4, 3) := by decide +kernel
theorem dX7_text_121 : decode cX7_text 121 = .ok (.iconst 1, 1) := by decide +kernel
theorem dX7_text_122 : decode cX7_text 122 = .ok (.aload_n 0, 1) := by decide +kernel
theorem dX7_text_123 : decode cX7_text 123 = .ok (.getfield 82, 3) := by decide +kernel
theorem dX7_text_126 : decode cX7_text 126 = .ok (.bipush 84, 2) := by decide +kernel
theorem dX7_text_128 : decode cX7_text 128 = .ok (.aload_n 0, 1) := by decide +kernel
theorem dX7_text_129 : decode cX7_text 129 = .ok (.getfield 82, 3) := by decide +kernel
theorem dX7_text_132 : decode cX7_text 132 = .ok (.invokevirtual 157, 3) := by decide +kernel
theorem dX7_text_135 : decode cX7_text 135 = .ok (.iinc 7 1, 3) := by decide +kernel
theorem dX7_text_138 : decode cX7_text 138 = .ok (.goto (-48), 3) := by decide +kernel
theorem dX7_text_141 : decode cX7_text 141 = .ok (.aload_n 0, 1) := by decide +kernel
theorem dX7_text_142 : decode cX7_text 142 = .ok (.aload_n 0, 1) := by decide +kernel
theorem dX7_text_143 : decode cX7_text 143 = .ok (.aload_n 0, 1) := by decide +kernel
theorem dX7_text_144 : decode cX7_text 144 = .ok (.getfield 141, 3) := by decide +kernel
theorem dX7_text_147 : decode cX7_text 147 = .ok (.iconst 1, 1) := by decide +kernel
theorem dX7_text_148 : decode cX7_text 148 = .ok (.if_icmp .le 7, 3) := by decide +kernel
theorem dX7_text_151 : decode cX7_text 151 = .ok (.iconst 0, 1) := by decide +kernel
theorem dX7_text_152 : decode cX7_text 152 = .ok (.goto 9, 3) := by decide +kernel
theorem dX7_text_155 : decode cX7_text 155 = .ok (.aload_n 0, 1) := by decide +kernel
theorem dX7_text_156 : decode cX7_text 156 = .ok (.getfield 16, 3) := by decide +kernel
theorem dX7_text_159 : decode cX7_text 159 = .ok (.iconst 0, 1) := by decide +kernel
theorem dX7_text_160 : decode cX7_text 160 = .ok (.iaload, 1) := by decide +kernel
theorem dX7_text_161 : decode cX7_text 161 = .ok (.invokevirtual 115, 3) := by decide +kernel
theorem dX7_text_164 : decode cX7_text 164 = .ok (.invokevirtual 71, 3) := by decide +kernel
theorem dX7_text_167 : decode cX7_text 167 = .ok (.ireturn, 1) := by decide +kernel
theorem dX7_at_0 : decode cX7_at 0 = .ok (.aload_n 0, 1) := by decide +kernel
theorem dX7_at_1 : decode cX7_at 1 = .ok (.iload_n 1, 1) := by decide +kernel
theorem dX7_at_2 : decode cX7_at 2 = .ok (.invokevirtual 161, 3) := by decide +kernel
theorem dX7_at_5 : decode cX7_at 5 = .ok (.ifCond .eq 5, 3) := by decide +kernel
theorem dX7_at_8 : decode cX7_at 8 = .ok (.iconst (-1), 1) := by decide +kernel
theorem dX7_at_9 : decode cX7_at 9 = .ok (.ireturn, 1) := by decide +kernel
theorem dX7_at_10 : decode cX7_at 10 = .ok (.iload_n 2, 1) := by decide +kernel
theorem dX7_at_11 : decode cX7_at 11 = .ok (.i2l, 1) := by decide +kernel
theorem dX7_at_12 : decode cX7_at 12 = .ok (.lconst 0, 1) := by decide +kernel
theorem dX7_at_13 : decode cX7_at 13 = .ok (.ldc2_w 92, 3) := by decide +kernel
theorem dX7_at_16 : decode cX7_at 16 = .ok (.invokestatic 67, 3) := by decide +kernel
theorem dX7_at_19 : decode cX7_at 19 = .ok (.ifCond .eq 12, 3) := by decide +kernel
theorem dX7_at_22 : decode cX7_at 22 = .ok (.aload_n 0, 1) := by decide +kernel
theorem dX7_at_23 : decode cX7_at 23 = .ok (.iload_n 1, 1) := by decide +kernel
theorem dX7_at_24 : decode cX7_at 24 = .ok (.iload_n 2, 1) := by decide +kernel
theorem dX7_at_25 : decode cX7_at 25 = .ok (.invokevirtual 108, 3) := by decide +kernel
theorem dX7_at_28 : decode cX7_at 28 = .ok (.goto 5, 3) := by decide +kernel
theorem dX7_at_31 : decode cX7_at 31 = .ok (.bipush (-2), 2) := by decide +kernel
theorem dX7_at_33 : decode cX7_at 33 = .ok (.ireturn, 1) := by decide +kernel
theorem dX7_layBoth_0 : decode cX7_layBoth 0 = .ok (.iconst 0, 1) := by decide +kernel
theorem dX7_layBoth_1 : decode cX7_layBoth 1 = .ok (.istore 5, 2) := by decide +kernel
theorem dX7_layBoth_3 : decode cX7_layBoth 3 = .ok (.iconst 0, 1) := by decide +kernel
theorem dX7_layBoth_4 : decode cX7_layBoth 4 = .ok (.istore 6, 2) := by decide +kernel
theorem dX7_layBoth_6 : decode cX7_layBoth 6 = .ok (.iload 6, 2) := by decide +kernel
theorem dX7_layBoth_8 : decode cX7_layBoth 8 = .ok (.bipush 41, 2) := by decide +kernel
theorem dX7_layBoth_10 : decode cX7_layBoth 10 = .ok (.if_icmp .ge 172, 3) := by decide +kernel
theorem dX7_layBoth_13 : decode cX7_layBoth 13 = .ok (.iload_n 1, 1) := by decide +kernel
theorem dX7_layBoth_14 : decode cX7_layBoth 14 = .ok (.iconst 2, 1) := by decide +kernel
theorem dX7_layBoth_15 : decode cX7_layBoth 15 = .ok (.if_icmp .ge 55, 3) := by decide +kernel
theorem dX7_layBoth_18 : decode cX7_layBoth 18 = .ok (.aload_n 0, 1) := by decide +kernel
theorem dX7_layBoth_19 : decode cX7_layBoth 19 = .ok (.iload 4, 2) := by decide +kernel
theorem dX7_layBoth_21 : decode cX7_layBoth 21 = .ok (.iload 6, 2) := by decide +kernel
theorem dX7_layBoth_23 : decode cX7_layBoth 23 = .ok (.iload_n 1, 1) := by decide +kernel
theorem dX7_layBoth_24 : decode cX7_layBoth 24 = .ok (.ifCond .ne 24, 3) := by decide +kernel
theorem dX7_layBoth_27 : decode cX7_layBoth 27 = .ok (.aload_n 0, 1) := by decide +kernel
theorem dX7_layBoth_28 : decode cX7_layBoth 28 = .ok (.iload_n 2, 1) := by decide +kernel
theorem dX7_layBoth_29 : decode cX7_layBoth 29 = .ok (.iload 6, 2) := by decide +kernel
theorem dX7_layBoth_31 : decode cX7_layBoth 31 = .ok (.invokevirtual 108, 3) := by decide +kernel
theorem dX7_layBoth_34 : decode cX7_layBoth 34 = .ok (.aload_n 0, 1) := by decide +kernel
theorem dX7_layBoth_35 : decode cX7_layBoth 35 = .ok (.iload_n 3, 1) := by decide +kernel
theorem dX7_layBoth_36 : decode cX7_layBoth 36 = .ok (.iload 6, 2) := by decide +kernel
theorem dX7_layBoth_38 : decode cX7_layBoth 38 = .ok (.invokevirtual 108, 3) := by decide +kernel
theorem dX7_layBoth_41 : decode cX7_layBoth 41 = .ok (.invokestatic 112, 3) := by decide +kernel
theorem dX7_layBoth_44 : decode cX7_layBoth 44 = .ok (.i2l, 1) := by decide +kernel
theorem dX7_layBoth_45 : decode cX7_layBoth 45 = .ok (.goto 19, 3) := by decide +kernel
theorem dX7_layBoth_48 : decode cX7_layBoth 48 = .ok (.aload_n 0, 1) := by decide +kernel
theorem dX7_layBoth_49 : decode cX7_layBoth 49 = .ok (.iload_n 2, 1) := by decide +kernel
theorem dX7_layBoth_50 : decode cX7_layBoth 50 = .ok (.iload 6, 2) := by decide +kernel
theorem dX7_layBoth_52 : decode cX7_layBoth 52 = .ok (.invokevirtual 108, 3) := by decide +kernel
theorem dX7_layBoth_55 : decode cX7_layBoth 55 = .ok (.aload_n 0, 1) := by decide +kernel
theorem dX7_layBoth_56 : decode cX7_layBoth 56 = .ok (.iload_n 3, 1) := by decide +kernel
theorem dX7_layBoth_57 : decode cX7_layBoth 57 = .ok (.iload 6, 2) := by decide +kernel
theorem dX7_layBoth_59 : decode cX7_layBoth 59 = .ok (.invokevirtual 108, 3) := by decide +kernel
theorem dX7_layBoth_62 : decode cX7_layBoth 62 = .ok (.iadd, 1) := by decide +kernel
theorem dX7_layBoth_63 : decode cX7_layBoth 63 = .ok (.i2l, 1) := by decide +kernel
theorem dX7_layBoth_64 : decode cX7_layBoth 64 = .ok (.invokevirtual 88, 3) := by decide +kernel
theorem dX7_layBoth_67 : decode cX7_layBoth 67 = .ok (.goto 109, 3) := by decide +kernel
theorem dX7_layBoth_70 : decode cX7_layBoth 70 = .ok (.iload_n 1, 1) := by decide +kernel
theorem dX7_layBoth_71 : decode cX7_layBoth 71 = .ok (.iconst 2, 1) := by decide +kernel
theorem dX7_layBoth_72 : decode cX7_layBoth 72 = .ok (.if_icmp .ne 23, 3) := by decide +kernel
theorem dX7_layBoth_75 : decode cX7_layBoth 75 = .ok (.aload_n 0, 1) := by decide +kernel
theorem dX7_layBoth_76 : decode cX7_layBoth 76 = .ok (.iload 4, 2) := by decide +kernel
theorem dX7_layBoth_78 : decode cX7_layBoth 78 = .ok (.iload 6, 2) := by decide +kernel
theorem dX7_layBoth_80 : decode cX7_layBoth 80 = .ok (.aload_n 0, 1) := by decide +kernel
theorem dX7_layBoth_81 : decode cX7_layBoth 81 = .ok (.iload_n 2, 1) := by decide +kernel
theorem dX7_layBoth_82 : decode cX7_layBoth 82 = .ok (.iload_n 3, 1) := by decide +kernel
theorem dX7_layBoth_83 : decode cX7_layBoth 83 = .ok (.iload 6, 2) := by decide +kernel
theorem dX7_layBoth_85 : decode cX7_layBoth 85 = .ok (.invokevirtual 164, 3) := by decide +kernel
theorem dX7_layBoth_88 : decode cX7_layBoth 88 = .ok (.i2l, 1) := by decide +kernel
theorem dX7_layBoth_89 : decode cX7_layBoth 89 = .ok (.invokevirtual 88, 3) := by decide +kernel
theorem dX7_layBoth_92 : decode cX7_layBoth 92 = .ok (.goto 84, 3) := by decide +kernel
theorem dX7_layBoth_95 : decode cX7_layBoth 95 = .ok (.iload 5, 2) := by decide +kernel
theorem dX7_layBoth_97 : decode cX7_layBoth 97 = .ok (.iload_n 1, 1) := by decide +kernel
theorem dX7_layBoth_98 : decode cX7_layBoth 98 = .ok (.iconst 3, 1) := by decide +kernel
theorem dX7_layBoth_99 : decode cX7_layBoth 99 = .ok (.if_icmp .ne 14, 3) := by decide +kernel
theorem dX7_layBoth_102 : decode cX7_layBoth 102 = .ok (.aload_n 0, 1) := by decide +kernel
theorem dX7_layBoth_103 : decode cX7_layBoth 103 = .ok (.iload_n 2, 1) := by decide +kernel
theorem dX7_layBoth_104 : decode cX7_layBoth 104 = .ok (.iload_n 3, 1) := by decide +kernel
theorem dX7_layBoth_105 : decode cX7_layBoth 105 = .ok (.iload 6, 2) := by decide +kernel
theorem dX7_layBoth_107 : decode cX7_layBoth 107 = .ok (.invokevirtual 168, 3) := by decide +kernel
theorem dX7_layBoth_110 : decode cX7_layBoth 110 = .ok (.goto 18, 3) := by decide +kernel
theorem dX7_layBoth_113 : decode cX7_layBoth 113 = .ok (.aload_n 0, 1) := by decide +kernel
theorem dX7_layBoth_114 : decode cX7_layBoth 114 = .ok (.iload_n 2, 1) := by decide +kernel
theorem dX7_layBoth_115 : decode cX7_layBoth 115 = .ok (.iload 6, 2) := by decide +kernel
theorem dX7_layBoth_117 : decode cX7_layBoth 117 = .ok (.invokevirtual 108, 3) := by decide +kernel
theorem dX7_layBoth_120 : decode cX7_layBoth 120 = .ok (.aload_n 0, 1) := by decide +kernel
theorem dX7_layBoth_121 : decode cX7_layBoth 121 = .ok (.iload_n 3, 1) := by decide +kernel
theorem dX7_layBoth_122 : decode cX7_layBoth 122 = .ok (.iload 6, 2) := by decide +kernel
theorem dX7_layBoth_124 : decode cX7_layBoth 124 = .ok (.invokevirtual 108, 3) := by decide +kernel
theorem dX7_layBoth_127 : decode cX7_layBoth 127 = .ok (.isub, 1) := by decide +kernel
theorem dX7_layBoth_128 : decode cX7_layBoth 128 = .ok (.invokestatic 171, 3) := by decide +kernel
theorem dX7_layBoth_131 : decode cX7_layBoth 131 = .ok (.istore 5, 2) := by decide +kernel
theorem dX7_layBoth_133 : decode cX7_layBoth 133 = .ok (.aload_n 0, 1) := by decide +kernel
theorem dX7_layBoth_134 : decode cX7_layBoth 134 = .ok (.iload 4, 2) := by decide +kernel
theorem dX7_layBoth_136 : decode cX7_layBoth 136 = .ok (.iload 6, 2) := by decide +kernel
theorem dX7_layBoth_138 : decode cX7_layBoth 138 = .ok (.iload_n 1, 1) := by decide +kernel
theorem dX7_layBoth_139 : decode cX7_layBoth 139 = .ok (.iconst 3, 1) := by decide +kernel
theorem dX7_layBoth_140 : decode cX7_layBoth 140 = .ok (.if_icmp .ne 12, 3) := by decide +kernel
theorem dX7_layBoth_143 : decode cX7_layBoth 143 = .ok (.iload 6, 2) := by decide +kernel
theorem dX7_layBoth_145 : decode cX7_layBoth 145 = .ok (.ifCond .ne 7, 3) := by decide +kernel
theorem dX7_layBoth_148 : decode cX7_layBoth 148 = .ok (.lconst 0, 1) := by decide +kernel
theorem dX7_layBoth_149 : decode cX7_layBoth 149 = .ok (.goto 6, 3) := by decide +kernel
theorem dX7_layBoth_152 : decode cX7_layBoth 152 = .ok (.iload 5, 2) := by decide +kernel
theorem dX7_layBoth_154 : decode cX7_layBoth 154 = .ok (.i2l, 1) := by decide +kernel
theorem dX7_layBoth_155 : decode cX7_layBoth 155 = .ok (.invokevirtual 88, 3) := by decide +kernel
theorem dX7_layBoth_158 : decode cX7_layBoth 158 = .ok (.iload_n 1, 1) := by decide +kernel
theorem dX7_layBoth_159 : decode cX7_layBoth 159 = .ok (.iconst 3, 1) := by decide +kernel
theorem dX7_layBoth_160 : decode cX7_layBoth 160 = .ok (.if_icmp .ne 12, 3) := by decide +kernel
theorem dX7_layBoth_163 : decode cX7_layBoth 163 = .ok (.iload 6, 2) := by decide +kernel
theorem dX7_layBoth_165 : decode cX7_layBoth 165 = .ok (.ifCond .ne 7, 3) := by decide +kernel
theorem dX7_layBoth_168 : decode cX7_layBoth 168 = .ok (.iconst 0, 1) := by decide +kernel
theorem dX7_layBoth_169 : decode cX7_layBoth 169 = .ok (.goto 5, 3) := by decide +kernel
theorem dX7_layBoth_172 : decode cX7_layBoth 172 = .ok (.iload 5, 2) := by decide +kernel
theorem dX7_layBoth_174 : decode cX7_layBoth 174 = .ok (.istore 5, 2) := by decide +kernel
theorem dX7_layBoth_176 : decode cX7_layBoth 176 = .ok (.iinc 6 1, 3) := by decide +kernel
theorem dX7_layBoth_179 : decode cX7_layBoth 179 = .ok (.goto (-173), 3) := by decide +kernel
theorem dX7_layBoth_182 : decode cX7_layBoth 182 = .ok (.return_, 1) := by decide +kernel
theorem dX7_alongAt_0 : decode cX7_alongAt 0 = .ok (.aload_n 0, 1) := by decide +kernel
theorem dX7_alongAt_1 : decode cX7_alongAt 1 = .ok (.iload_n 1, 1) := by decide +kernel
theorem dX7_alongAt_2 : decode cX7_alongAt 2 = .ok (.iconst 0, 1) := by decide +kernel
theorem dX7_alongAt_3 : decode cX7_alongAt 3 = .ok (.invokevirtual 108, 3) := by decide +kernel
theorem dX7_alongAt_6 : decode cX7_alongAt 6 = .ok (.aload_n 0, 1) := by decide +kernel
theorem dX7_alongAt_7 : decode cX7_alongAt 7 = .ok (.iload_n 2, 1) := by decide +kernel
theorem dX7_alongAt_8 : decode cX7_alongAt 8 = .ok (.iload_n 3, 1) := by decide +kernel
theorem dX7_alongAt_9 : decode cX7_alongAt 9 = .ok (.invokevirtual 108, 3) := by decide +kernel
theorem dX7_alongAt_12 : decode cX7_alongAt 12 = .ok (.iadd, 1) := by decide +kernel
theorem dX7_alongAt_13 : decode cX7_alongAt 13 = .ok (.istore 4, 2) := by decide +kernel
theorem dX7_alongAt_15 : decode cX7_alongAt 15 = .ok (.iconst 1, 1) := by decide +kernel
theorem dX7_alongAt_16 : decode cX7_alongAt 16 = .ok (.istore 5, 2) := by decide +kernel
theorem dX7_alongAt_18 : decode cX7_alongAt 18 = .ok (.iload 5, 2) := by decide +kernel
theorem dX7_alongAt_20 : decode cX7_alongAt 20 = .ok (.iload_n 3, 1) := by decide +kernel
theorem dX7_alongAt_21 : decode cX7_alongAt 21 = .ok (.if_icmp .gt 33, 3) := by decide +kernel
theorem dX7_alongAt_24 : decode cX7_alongAt 24 = .ok (.iload 4, 2) := by decide +kernel
theorem dX7_alongAt_26 : decode cX7_alongAt 26 = .ok (.aload_n 0, 1) := by decide +kernel
theorem dX7_alongAt_27 : decode cX7_alongAt 27 = .ok (.iload_n 1, 1) := by decide +kernel
theorem dX7_alongAt_28 : decode cX7_alongAt 28 = .ok (.iload 5, 2) := by decide +kernel
theorem dX7_alongAt_30 : decode cX7_alongAt 30 = .ok (.invokevirtual 108, 3) := by decide +kernel
theorem dX7_alongAt_33 : decode cX7_alongAt 33 = .ok (.aload_n 0, 1) := by decide +kernel
theorem dX7_alongAt_34 : decode cX7_alongAt 34 = .ok (.iload_n 2, 1) := by decide +kernel
theorem dX7_alongAt_35 : decode cX7_alongAt 35 = .ok (.iload_n 3, 1) := by decide +kernel
theorem dX7_alongAt_36 : decode cX7_alongAt 36 = .ok (.iload 5, 2) := by decide +kernel
theorem dX7_alongAt_38 : decode cX7_alongAt 38 = .ok (.isub, 1) := by decide +kernel
theorem dX7_alongAt_39 : decode cX7_alongAt 39 = .ok (.invokevirtual 108, 3) := by decide +kernel
theorem dX7_alongAt_42 : decode cX7_alongAt 42 = .ok (.iadd, 1) := by decide +kernel
theorem dX7_alongAt_43 : decode cX7_alongAt 43 = .ok (.invokestatic 112, 3) := by decide +kernel
theorem dX7_alongAt_46 : decode cX7_alongAt 46 = .ok (.istore 4, 2) := by decide +kernel
theorem dX7_alongAt_48 : decode cX7_alongAt 48 = .ok (.iinc 5 1, 3) := by decide +kernel
theorem dX7_alongAt_51 : decode cX7_alongAt 51 = .ok (.goto (-33), 3) := by decide +kernel
theorem dX7_alongAt_54 : decode cX7_alongAt 54 = .ok (.iload 4, 2) := by decide +kernel
theorem dX7_alongAt_56 : decode cX7_alongAt 56 = .ok (.ireturn, 1) := by decide +kernel
theorem dX7_outAt_0 : decode cX7_outAt 0 = .ok (.iconst 0, 1) := by decide +kernel
theorem dX7_outAt_1 : decode cX7_outAt 1 = .ok (.istore 4, 2) := by decide +kernel
theorem dX7_outAt_3 : decode cX7_outAt 3 = .ok (.iconst 0, 1) := by decide +kernel
theorem dX7_outAt_4 : decode cX7_outAt 4 = .ok (.istore 5, 2) := by decide +kernel
theorem dX7_outAt_6 : decode cX7_outAt 6 = .ok (.iload 5, 2) := by decide +kernel
theorem dX7_outAt_8 : decode cX7_outAt 8 = .ok (.bipush 40, 2) := by decide +kernel
theorem dX7_outAt_10 : decode cX7_outAt 10 = .ok (.iload_n 3, 1) := by decide +kernel
theorem dX7_outAt_11 : decode cX7_outAt 11 = .ok (.isub, 1) := by decide +kernel
theorem dX7_outAt_12 : decode cX7_outAt 12 = .ok (.if_icmp .gt 33, 3) := by decide +kernel
theorem dX7_outAt_15 : decode cX7_outAt 15 = .ok (.iload 4, 2) := by decide +kernel
theorem dX7_outAt_17 : decode cX7_outAt 17 = .ok (.aload_n 0, 1) := by decide +kernel
theorem dX7_outAt_18 : decode cX7_outAt 18 = .ok (.iload_n 1, 1) := by decide +kernel
theorem dX7_outAt_19 : decode cX7_outAt 19 = .ok (.iload_n 3, 1) := by decide +kernel
theorem dX7_outAt_20 : decode cX7_outAt 20 = .ok (.iload 5, 2) := by decide +kernel
theorem dX7_outAt_22 : decode cX7_outAt 22 = .ok (.iadd, 1) := by decide +kernel
theorem dX7_outAt_23 : decode cX7_outAt 23 = .ok (.invokevirtual 108, 3) := by decide +kernel
theorem dX7_outAt_26 : decode cX7_outAt 26 = .ok (.aload_n 0, 1) := by decide +kernel
theorem dX7_outAt_27 : decode cX7_outAt 27 = .ok (.iload_n 2, 1) := by decide +kernel
theorem dX7_outAt_28 : decode cX7_outAt 28 = .ok (.iload 5, 2) := by decide +kernel
theorem dX7_outAt_30 : decode cX7_outAt 30 = .ok (.invokevirtual 108, 3) := by decide +kernel
theorem dX7_outAt_33 : decode cX7_outAt 33 = .ok (.isub, 1) := by decide +kernel
theorem dX7_outAt_34 : decode cX7_outAt 34 = .ok (.invokestatic 171, 3) := by decide +kernel
theorem dX7_outAt_37 : decode cX7_outAt 37 = .ok (.istore 4, 2) := by decide +kernel
theorem dX7_outAt_39 : decode cX7_outAt 39 = .ok (.iinc 5 1, 3) := by decide +kernel
theorem dX7_outAt_42 : decode cX7_outAt 42 = .ok (.goto (-36), 3) := by decide +kernel
theorem dX7_outAt_45 : decode cX7_outAt 45 = .ok (.iload 4, 2) := by decide +kernel
theorem dX7_outAt_47 : decode cX7_outAt 47 = .ok (.ireturn, 1) := by decide +kernel
theorem dX7_layMoved_0 : decode cX7_layMoved 0 = .ok (.iconst 0, 1) := by decide +kernel
theorem dX7_layMoved_1 : decode cX7_layMoved 1 = .ok (.istore 5, 2) := by decide +kernel
theorem dX7_layMoved_3 : decode cX7_layMoved 3 = .ok (.iload 5, 2) := by decide +kernel
theorem dX7_layMoved_5 : decode cX7_layMoved 5 = .ok (.bipush 41, 2) := by decide +kernel
theorem dX7_layMoved_7 : decode cX7_layMoved 7 = .ok (.if_icmp .ge 88, 3) := by decide +kernel
theorem dX7_layMoved_10 : decode cX7_layMoved 10 = .ok (.iload_n 1, 1) := by decide +kernel
theorem dX7_layMoved_11 : decode cX7_layMoved 11 = .ok (.ifCond .ne 17, 3) := by decide +kernel
theorem dX7_layMoved_14 : decode cX7_layMoved 14 = .ok (.iload 5, 2) := by decide +kernel
theorem dX7_layMoved_16 : decode cX7_layMoved 16 = .ok (.iload_n 3, 1) := by decide +kernel
theorem dX7_layMoved_17 : decode cX7_layMoved 17 = .ok (.if_icmp .ge 7, 3) := by decide +kernel
theorem dX7_layMoved_20 : decode cX7_layMoved 20 = .ok (.iconst 1, 1) := by decide +kernel
theorem dX7_layMoved_21 : decode cX7_layMoved 21 = .ok (.goto 17, 3) := by decide +kernel
theorem dX7_layMoved_24 : decode cX7_layMoved 24 = .ok (.iconst 0, 1) := by decide +kernel
theorem dX7_layMoved_25 : decode cX7_layMoved 25 = .ok (.goto 13, 3) := by decide +kernel
theorem dX7_layMoved_28 : decode cX7_layMoved 28 = .ok (.iload 5, 2) := by decide +kernel
theorem dX7_layMoved_30 : decode cX7_layMoved 30 = .ok (.ifCond .ne 7, 3) := by decide +kernel
theorem dX7_layMoved_33 : decode cX7_layMoved 33 = .ok (.iconst 1, 1) := by decide +kernel
theorem dX7_layMoved_34 : decode cX7_layMoved 34 = .ok (.goto 4, 3) := by decide +kernel
theorem dX7_layMoved_37 : decode cX7_layMoved 37 = .ok (.iconst 0, 1) := by decide +kernel
theorem dX7_layMoved_38 : decode cX7_layMoved 38 = .ok (.istore 6, 2) := by decide +kernel
theorem dX7_layMoved_40 : decode cX7_layMoved 40 = .ok (.aload_n 0, 1) := by decide +kernel
theorem dX7_layMoved_41 : decode cX7_layMoved 41 = .ok (.iload 4, 2) := by decide +kernel
theorem dX7_layMoved_43 : decode cX7_layMoved 43 = .ok (.iload 5, 2) := by decide +kernel
theorem dX7_layMoved_45 : decode cX7_layMoved 45 = .ok (.iload 6, 2) := by decide +kernel
theorem dX7_layMoved_47 : decode cX7_layMoved 47 = .ok (.ifCond .eq 7, 3) := by decide +kernel
theorem dX7_layMoved_50 : decode cX7_layMoved 50 = .ok (.lconst 0, 1) := by decide +kernel
theorem dX7_layMoved_51 : decode cX7_layMoved 51 = .ok (.goto 35, 3) := by decide +kernel
theorem dX7_layMoved_54 : decode cX7_layMoved 54 = .ok (.iload_n 1, 1) := by decide +kernel
theorem dX7_layMoved_55 : decode cX7_layMoved 55 = .ok (.ifCond .ne 16, 3) := by decide +kernel
theorem dX7_layMoved_58 : decode cX7_layMoved 58 = .ok (.aload_n 0, 1) := by decide +kernel
theorem dX7_layMoved_59 : decode cX7_layMoved 59 = .ok (.iload_n 2, 1) := by decide +kernel
theorem dX7_layMoved_60 : decode cX7_layMoved 60 = .ok (.iload 5, 2) := by decide +kernel
theorem dX7_layMoved_62 : decode cX7_layMoved 62 = .ok (.iload_n 3, 1) := by decide +kernel
theorem dX7_layMoved_63 : decode cX7_layMoved 63 = .ok (.isub, 1) := by decide +kernel
theorem dX7_layMoved_64 : decode cX7_layMoved 64 = .ok (.invokevirtual 108, 3) := by decide +kernel
theorem dX7_layMoved_67 : decode cX7_layMoved 67 = .ok (.i2l, 1) := by decide +kernel
theorem dX7_layMoved_68 : decode cX7_layMoved 68 = .ok (.goto 18, 3) := by decide +kernel
theorem dX7_layMoved_71 : decode cX7_layMoved 71 = .ok (.aload_n 0, 1) := by decide +kernel
theorem dX7_layMoved_72 : decode cX7_layMoved 72 = .ok (.iload_n 2, 1) := by decide +kernel
theorem dX7_layMoved_73 : decode cX7_layMoved 73 = .ok (.bipush 40, 2) := by decide +kernel
theorem dX7_layMoved_75 : decode cX7_layMoved 75 = .ok (.iload 5, 2) := by decide +kernel
theorem dX7_layMoved_77 : decode cX7_layMoved 77 = .ok (.iload_n 3, 1) := by decide +kernel
theorem dX7_layMoved_78 : decode cX7_layMoved 78 = .ok (.iadd, 1) := by decide +kernel
theorem dX7_layMoved_79 : decode cX7_layMoved 79 = .ok (.invokestatic 112, 3) := by decide +kernel
theorem dX7_layMoved_82 : decode cX7_layMoved 82 = .ok (.invokevirtual 108, 3) := by decide +kernel
theorem dX7_layMoved_85 : decode cX7_layMoved 85 = .ok (.i2l, 1) := by decide +kernel
theorem dX7_layMoved_86 : decode cX7_layMoved 86 = .ok (.invokevirtual 88, 3) := by decide +kernel
theorem dX7_layMoved_89 : decode cX7_layMoved 89 = .ok (.iinc 5 1, 3) := by decide +kernel
theorem dX7_layMoved_92 : decode cX7_layMoved 92 = .ok (.goto (-89), 3) := by decide +kernel
theorem dX7_layMoved_95 : decode cX7_layMoved 95 = .ok (.return_, 1) := by decide +kernel
theorem dX7_make_0 : decode cX7_make 0 = .ok (.aload_n 0, 1) := by decide +kernel
theorem dX7_make_1 : decode cX7_make 1 = .ok (.iload_n 2, 1) := by decide +kernel
theorem dX7_make_2 : decode cX7_make 2 = .ok (.invokevirtual 161, 3) := by decide +kernel
theorem dX7_make_5 : decode cX7_make 5 = .ok (.ifCond .ne 11, 3) := by decide +kernel
theorem dX7_make_8 : decode cX7_make 8 = .ok (.aload_n 0, 1) := by decide +kernel
theorem dX7_make_9 : decode cX7_make 9 = .ok (.iload_n 3, 1) := by decide +kernel
theorem dX7_make_10 : decode cX7_make 10 = .ok (.invokevirtual 161, 3) := by decide +kernel
theorem dX7_make_13 : decode cX7_make 13 = .ok (.ifCond .eq 5, 3) := by decide +kernel
theorem dX7_make_16 : decode cX7_make 16 = .ok (.iconst (-1), 1) := by decide +kernel
theorem dX7_make_17 : decode cX7_make 17 = .ok (.ireturn, 1) := by decide +kernel
theorem dX7_make_18 : decode cX7_make 18 = .ok (.iload_n 1, 1) := by decide +kernel
theorem dX7_make_19 : decode cX7_make 19 = .ok (.i2l, 1) := by decide +kernel
theorem dX7_make_20 : decode cX7_make 20 = .ok (.lconst 0, 1) := by decide +kernel
theorem dX7_make_21 : decode cX7_make 21 = .ok (.ldc2_w 174, 3) := by decide +kernel
theorem dX7_make_24 : decode cX7_make 24 = .ok (.invokestatic 67, 3) := by decide +kernel
theorem dX7_make_27 : decode cX7_make 27 = .ok (.ifCond .ne 6, 3) := by decide +kernel
theorem dX7_make_30 : decode cX7_make 30 = .ok (.bipush (-2), 2) := by decide +kernel
theorem dX7_make_32 : decode cX7_make 32 = .ok (.ireturn, 1) := by decide +kernel
theorem dX7_make_33 : decode cX7_make 33 = .ok (.aload_n 0, 1) := by decide +kernel
theorem dX7_make_34 : decode cX7_make 34 = .ok (.getfield 82, 3) := by decide +kernel
theorem dX7_make_37 : decode cX7_make 37 = .ok (.bipush 24, 2) := by decide +kernel
theorem dX7_make_39 : decode cX7_make 39 = .ok (.if_icmp .ne 6, 3) := by decide +kernel
theorem dX7_make_42 : decode cX7_make 42 = .ok (.bipush (-4), 2) := by decide +kernel
theorem dX7_make_44 : decode cX7_make 44 = .ok (.ireturn, 1) := by decide +kernel
theorem dX7_make_45 : decode cX7_make 45 = .ok (.aload_n 0, 1) := by decide +kernel
theorem dX7_make_46 : decode cX7_make 46 = .ok (.iload_n 1, 1) := by decide +kernel
theorem dX7_make_47 : decode cX7_make 47 = .ok (.iload_n 2, 1) := by decide +kernel
theorem dX7_make_48 : decode cX7_make 48 = .ok (.iload_n 3, 1) := by decide +kernel
theorem dX7_make_49 : decode cX7_make 49 = .ok (.aload_n 0, 1) := by decide +kernel
theorem dX7_make_50 : decode cX7_make 50 = .ok (.getfield 82, 3) := by decide +kernel
theorem dX7_make_53 : decode cX7_make 53 = .ok (.invokevirtual 157, 3) := by decide +kernel
theorem dX7_make_56 : decode cX7_make 56 = .ok (.aload_n 0, 1) := by decide +kernel
theorem dX7_make_57 : decode cX7_make 57 = .ok (.iconst 0, 1) := by decide +kernel
theorem dX7_make_58 : decode cX7_make 58 = .ok (.invokevirtual 115, 3) := by decide +kernel
theorem dX7_make_61 : decode cX7_make 61 = .ok (.ireturn, 1) := by decide +kernel
theorem dX7_move_0 : decode cX7_move 0 = .ok (.aload_n 0, 1) := by decide +kernel
theorem dX7_move_1 : decode cX7_move 1 = .ok (.iload_n 2, 1) := by decide +kernel
theorem dX7_move_2 : decode cX7_move 2 = .ok (.invokevirtual 161, 3) := by decide +kernel
theorem dX7_move_5 : decode cX7_move 5 = .ok (.ifCond .eq 5, 3) := by decide +kernel
theorem dX7_move_8 : decode cX7_move 8 = .ok (.iconst (-1), 1) := by decide +kernel
theorem dX7_move_9 : decode cX7_move 9 = .ok (.ireturn, 1) := by decide +kernel
theorem dX7_move_10 : decode cX7_move 10 = .ok (.iload_n 1, 1) := by decide +kernel
theorem dX7_move_11 : decode cX7_move 11 = .ok (.i2l, 1) := by decide +kernel
theorem dX7_move_12 : decode cX7_move 12 = .ok (.lconst 0, 1) := by decide +kernel
theorem dX7_move_13 : decode cX7_move 13 = .ok (.lconst 1, 1) := by decide +kernel
theorem dX7_move_14 : decode cX7_move 14 = .ok (.invokestatic 67, 3) := by decide +kernel
theorem dX7_move_17 : decode cX7_move 17 = .ok (.ifCond .eq 15, 3) := by decide +kernel
theorem dX7_move_20 : decode cX7_move 20 = .ok (.iload_n 3, 1) := by decide +kernel
theorem dX7_move_21 : decode cX7_move 21 = .ok (.i2l, 1) := by decide +kernel
theorem dX7_move_22 : decode cX7_move 22 = .ok (.lconst 0, 1) := by decide +kernel
theorem dX7_move_23 : decode cX7_move 23 = .ok (.ldc2_w 92, 3) := by decide +kernel
theorem dX7_move_26 : decode cX7_move 26 = .ok (.invokestatic 67, 3) := by decide +kernel
theorem dX7_move_29 : decode cX7_move 29 = .ok (.ifCond .ne 6, 3) := by decide +kernel
theorem dX7_move_32 : decode cX7_move 32 = .ok (.bipush (-2), 2) := by decide +kernel
theorem dX7_move_34 : decode cX7_move 34 = .ok (.ireturn, 1) := by decide +kernel
theorem dX7_move_35 : decode cX7_move 35 = .ok (.aload_n 0, 1) := by decide +kernel
theorem dX7_move_36 : decode cX7_move 36 = .ok (.getfield 82, 3) := by decide +kernel
theorem dX7_move_39 : decode cX7_move 39 = .ok (.bipush 24, 2) := by decide +kernel
theorem dX7_move_41 : decode cX7_move 41 = .ok (.if_icmp .ne 6, 3) := by decide +kernel
theorem dX7_move_44 : decode cX7_move 44 = .ok (.bipush (-4), 2) := by decide +kernel
theorem dX7_move_46 : decode cX7_move 46 = .ok (.ireturn, 1) := by decide +kernel
theorem dX7_move_47 : decode cX7_move 47 = .ok (.aload_n 0, 1) := by decide +kernel
theorem dX7_move_48 : decode cX7_move 48 = .ok (.iload_n 1, 1) := by decide +kernel
theorem dX7_move_49 : decode cX7_move 49 = .ok (.iload_n 2, 1) := by decide +kernel
theorem dX7_move_50 : decode cX7_move 50 = .ok (.iload_n 3, 1) := by decide +kernel
theorem dX7_move_51 : decode cX7_move 51 = .ok (.aload_n 0, 1) := by decide +kernel
theorem dX7_move_52 : decode cX7_move 52 = .ok (.getfield 82, 3) := by decide +kernel
theorem dX7_move_55 : decode cX7_move 55 = .ok (.invokevirtual 176, 3) := by decide +kernel
theorem dX7_move_58 : decode cX7_move 58 = .ok (.aload_n 0, 1) := by decide +kernel
theorem dX7_move_59 : decode cX7_move 59 = .ok (.iconst 0, 1) := by decide +kernel
theorem dX7_move_60 : decode cX7_move 60 = .ok (.invokevirtual 115, 3) := by decide +kernel
theorem dX7_move_63 : decode cX7_move 63 = .ok (.ireturn, 1) := by decide +kernel
theorem dX7_laterBy_0 : decode cX7_laterBy 0 = .ok (.iconst 0, 1) := by decide +kernel
theorem dX7_laterBy_1 : decode cX7_laterBy 1 = .ok (.istore 4, 2) := by decide +kernel
theorem dX7_laterBy_3 : decode cX7_laterBy 3 = .ok (.iload_n 3, 1) := by decide +kernel
theorem dX7_laterBy_4 : decode cX7_laterBy 4 = .ok (.iload 4, 2) := by decide +kernel
theorem dX7_laterBy_6 : decode cX7_laterBy 6 = .ok (.iadd, 1) := by decide +kernel
theorem dX7_laterBy_7 : decode cX7_laterBy 7 = .ok (.bipush 41, 2) := by decide +kernel
theorem dX7_laterBy_9 : decode cX7_laterBy 9 = .ok (.if_icmp .ge 30, 3) := by decide +kernel
theorem dX7_laterBy_12 : decode cX7_laterBy 12 = .ok (.aload_n 0, 1) := by decide +kernel
theorem dX7_laterBy_13 : decode cX7_laterBy 13 = .ok (.iload_n 2, 1) := by decide +kernel
theorem dX7_laterBy_14 : decode cX7_laterBy 14 = .ok (.iload_n 3, 1) := by decide +kernel
theorem dX7_laterBy_15 : decode cX7_laterBy 15 = .ok (.iload 4, 2) := by decide +kernel
theorem dX7_laterBy_17 : decode cX7_laterBy 17 = .ok (.iadd, 1) := by decide +kernel
theorem dX7_laterBy_18 : decode cX7_laterBy 18 = .ok (.invokevirtual 108, 3) := by decide +kernel
theorem dX7_laterBy_21 : decode cX7_laterBy 21 = .ok (.aload_n 0, 1) := by decide +kernel
theorem dX7_laterBy_22 : decode cX7_laterBy 22 = .ok (.iload_n 1, 1) := by decide +kernel
theorem dX7_laterBy_23 : decode cX7_laterBy 23 = .ok (.iload_n 3, 1) := by decide +kernel
theorem dX7_laterBy_24 : decode cX7_laterBy 24 = .ok (.invokevirtual 108, 3) := by decide +kernel
theorem dX7_laterBy_27 : decode cX7_laterBy 27 = .ok (.if_icmp .lt 6, 3) := by decide +kernel
theorem dX7_laterBy_30 : decode cX7_laterBy 30 = .ok (.iload 4, 2) := by decide +kernel
theorem dX7_laterBy_32 : decode cX7_laterBy 32 = .ok (.ireturn, 1) := by decide +kernel
theorem dX7_laterBy_33 : decode cX7_laterBy 33 = .ok (.iinc 4 1, 3) := by decide +kernel
theorem dX7_laterBy_36 : decode cX7_laterBy 36 = .ok (.goto (-33), 3) := by decide +kernel
theorem dX7_laterBy_39 : decode cX7_laterBy 39 = .ok (.bipush (-9), 2) := by decide +kernel
theorem dX7_laterBy_41 : decode cX7_laterBy 41 = .ok (.ireturn, 1) := by decide +kernel
theorem dX7_waitOf_0 : decode cX7_waitOf 0 = .ok (.iconst 0, 1) := by decide +kernel
theorem dX7_waitOf_1 : decode cX7_waitOf 1 = .ok (.istore 4, 2) := by decide +kernel
theorem dX7_waitOf_3 : decode cX7_waitOf 3 = .ok (.iconst 0, 1) := by decide +kernel
theorem dX7_waitOf_4 : decode cX7_waitOf 4 = .ok (.istore 5, 2) := by decide +kernel
theorem dX7_waitOf_6 : decode cX7_waitOf 6 = .ok (.iload 5, 2) := by decide +kernel
theorem dX7_waitOf_8 : decode cX7_waitOf 8 = .ok (.iload_n 3, 1) := by decide +kernel
theorem dX7_waitOf_9 : decode cX7_waitOf 9 = .ok (.if_icmp .gt 36, 3) := by decide +kernel
theorem dX7_waitOf_12 : decode cX7_waitOf 12 = .ok (.aload_n 0, 1) := by decide +kernel
theorem dX7_waitOf_13 : decode cX7_waitOf 13 = .ok (.iload_n 1, 1) := by decide +kernel
theorem dX7_waitOf_14 : decode cX7_waitOf 14 = .ok (.iload_n 2, 1) := by decide +kernel
theorem dX7_waitOf_15 : decode cX7_waitOf 15 = .ok (.iload 5, 2) := by decide +kernel
theorem dX7_waitOf_17 : decode cX7_waitOf 17 = .ok (.invokevirtual 179, 3) := by decide +kernel
theorem dX7_waitOf_20 : decode cX7_waitOf 20 = .ok (.istore 6, 2) := by decide +kernel
theorem dX7_waitOf_22 : decode cX7_waitOf 22 = .ok (.iload 6, 2) := by decide +kernel
theorem dX7_waitOf_24 : decode cX7_waitOf 24 = .ok (.ifCond .ge 6, 3) := by decide +kernel
theorem dX7_waitOf_27 : decode cX7_waitOf 27 = .ok (.bipush (-9), 2) := by decide +kernel
theorem dX7_waitOf_29 : decode cX7_waitOf 29 = .ok (.ireturn, 1) := by decide +kernel
theorem dX7_waitOf_30 : decode cX7_waitOf 30 = .ok (.iload 4, 2) := by decide +kernel
theorem dX7_waitOf_32 : decode cX7_waitOf 32 = .ok (.iload 6, 2) := by decide +kernel
theorem dX7_waitOf_34 : decode cX7_waitOf 34 = .ok (.invokestatic 171, 3) := by decide +kernel
theorem dX7_waitOf_37 : decode cX7_waitOf 37 = .ok (.istore 4, 2) := by decide +kernel
theorem dX7_waitOf_39 : decode cX7_waitOf 39 = .ok (.iinc 5 1, 3) := by decide +kernel
theorem dX7_waitOf_42 : decode cX7_waitOf 42 = .ok (.goto (-36), 3) := by decide +kernel
theorem dX7_waitOf_45 : decode cX7_waitOf 45 = .ok (.iload 4, 2) := by decide +kernel
theorem dX7_waitOf_47 : decode cX7_waitOf 47 = .ok (.ireturn, 1) := by decide +kernel
theorem dX7_heapOf_0 : decode cX7_heapOf 0 = .ok (.iconst 0, 1) := by decide +kernel
theorem dX7_heapOf_1 : decode cX7_heapOf 1 = .ok (.istore_n 3, 1) := by decide +kernel
theorem dX7_heapOf_2 : decode cX7_heapOf 2 = .ok (.iconst 0, 1) := by decide +kernel
theorem dX7_heapOf_3 : decode cX7_heapOf 3 = .ok (.istore 4, 2) := by decide +kernel
theorem dX7_heapOf_5 : decode cX7_heapOf 5 = .ok (.iload 4, 2) := by decide +kernel
theorem dX7_heapOf_7 : decode cX7_heapOf 7 = .ok (.bipush 41, 2) := by decide +kernel
theorem dX7_heapOf_9 : decode cX7_heapOf 9 = .ok (.if_icmp .ge 29, 3) := by decide +kernel
theorem dX7_heapOf_12 : decode cX7_heapOf 12 = .ok (.iload_n 3, 1) := by decide +kernel
theorem dX7_heapOf_13 : decode cX7_heapOf 13 = .ok (.aload_n 0, 1) := by decide +kernel
theorem dX7_heapOf_14 : decode cX7_heapOf 14 = .ok (.iload_n 1, 1) := by decide +kernel
theorem dX7_heapOf_15 : decode cX7_heapOf 15 = .ok (.iload 4, 2) := by decide +kernel
theorem dX7_heapOf_17 : decode cX7_heapOf 17 = .ok (.invokevirtual 108, 3) := by decide +kernel
theorem dX7_heapOf_20 : decode cX7_heapOf 20 = .ok (.aload_n 0, 1) := by decide +kernel
theorem dX7_heapOf_21 : decode cX7_heapOf 21 = .ok (.iload_n 2, 1) := by decide +kernel
theorem dX7_heapOf_22 : decode cX7_heapOf 22 = .ok (.iload 4, 2) := by decide +kernel
theorem dX7_heapOf_24 : decode cX7_heapOf 24 = .ok (.invokevirtual 108, 3) := by decide +kernel
theorem dX7_heapOf_27 : decode cX7_heapOf 27 = .ok (.isub, 1) := by decide +kernel
theorem dX7_heapOf_28 : decode cX7_heapOf 28 = .ok (.invokestatic 171, 3) := by decide +kernel
theorem dX7_heapOf_31 : decode cX7_heapOf 31 = .ok (.istore_n 3, 1) := by decide +kernel
theorem dX7_heapOf_32 : decode cX7_heapOf 32 = .ok (.iinc 4 1, 3) := by decide +kernel
theorem dX7_heapOf_35 : decode cX7_heapOf 35 = .ok (.goto (-30), 3) := by decide +kernel
theorem dX7_heapOf_38 : decode cX7_heapOf 38 = .ok (.iload_n 3, 1) := by decide +kernel
theorem dX7_heapOf_39 : decode cX7_heapOf 39 = .ok (.ireturn, 1) := by decide +kernel
theorem dX7_delay_0 : decode cX7_delay 0 = .ok (.aload_n 0, 1) := by decide +kernel
theorem dX7_delay_1 : decode cX7_delay 1 = .ok (.iload_n 1, 1) := by decide +kernel
theorem dX7_delay_2 : decode cX7_delay 2 = .ok (.invokevirtual 161, 3) := by decide +kernel
theorem dX7_delay_5 : decode cX7_delay 5 = .ok (.ifCond .ne 11, 3) := by decide +kernel
theorem dX7_delay_8 : decode cX7_delay 8 = .ok (.aload_n 0, 1) := by decide +kernel
theorem dX7_delay_9 : decode cX7_delay 9 = .ok (.iload_n 2, 1) := by decide +kernel
theorem dX7_delay_10 : decode cX7_delay 10 = .ok (.invokevirtual 161, 3) := by decide +kernel
theorem dX7_delay_13 : decode cX7_delay 13 = .ok (.ifCond .eq 7, 3) := by decide +kernel
theorem dX7_delay_16 : decode cX7_delay 16 = .ok (.iconst (-1), 1) := by decide +kernel
theorem dX7_delay_17 : decode cX7_delay 17 = .ok (.goto 11, 3) := by decide +kernel
theorem dX7_delay_20 : decode cX7_delay 20 = .ok (.aload_n 0, 1) := by decide +kernel
theorem dX7_delay_21 : decode cX7_delay 21 = .ok (.iload_n 1, 1) := by decide +kernel
theorem dX7_delay_22 : decode cX7_delay 22 = .ok (.iload_n 2, 1) := by decide +kernel
theorem dX7_delay_23 : decode cX7_delay 23 = .ok (.bipush 20, 2) := by decide +kernel
theorem dX7_delay_25 : decode cX7_delay 25 = .ok (.invokevirtual 182, 3) := by decide +kernel
theorem dX7_delay_28 : decode cX7_delay 28 = .ok (.ireturn, 1) := by decide +kernel
theorem dX7_heap_0 : decode cX7_heap 0 = .ok (.aload_n 0, 1) := by decide +kernel
theorem dX7_heap_1 : decode cX7_heap 1 = .ok (.iload_n 1, 1) := by decide +kernel
theorem dX7_heap_2 : decode cX7_heap 2 = .ok (.invokevirtual 161, 3) := by decide +kernel
theorem dX7_heap_5 : decode cX7_heap 5 = .ok (.ifCond .ne 11, 3) := by decide +kernel
theorem dX7_heap_8 : decode cX7_heap 8 = .ok (.aload_n 0, 1) := by decide +kernel
theorem dX7_heap_9 : decode cX7_heap 9 = .ok (.iload_n 2, 1) := by decide +kernel
theorem dX7_heap_10 : decode cX7_heap 10 = .ok (.invokevirtual 161, 3) := by decide +kernel
theorem dX7_heap_13 : decode cX7_heap 13 = .ok (.ifCond .eq 7, 3) := by decide +kernel
theorem dX7_heap_16 : decode cX7_heap 16 = .ok (.iconst (-1), 1) := by decide +kernel
theorem dX7_heap_17 : decode cX7_heap 17 = .ok (.goto 9, 3) := by decide +kernel
theorem dX7_heap_20 : decode cX7_heap 20 = .ok (.aload_n 0, 1) := by decide +kernel
theorem dX7_heap_21 : decode cX7_heap 21 = .ok (.iload_n 1, 1) := by decide +kernel
theorem dX7_heap_22 : decode cX7_heap 22 = .ok (.iload_n 2, 1) := by decide +kernel
theorem dX7_heap_23 : decode cX7_heap 23 = .ok (.invokevirtual 185, 3) := by decide +kernel
theorem dX7_heap_26 : decode cX7_heap 26 = .ok (.ireturn, 1) := by decide +kernel
theorem dX7_within_0 : decode cX7_within 0 = .ok (.aload_n 0, 1) := by decide +kernel
theorem dX7_within_1 : decode cX7_within 1 = .ok (.iload_n 1, 1) := by decide +kernel
theorem dX7_within_2 : decode cX7_within 2 = .ok (.invokevirtual 161, 3) := by decide +kernel
theorem dX7_within_5 : decode cX7_within 5 = .ok (.ifCond .ne 11, 3) := by decide +kernel
theorem dX7_within_8 : decode cX7_within 8 = .ok (.aload_n 0, 1) := by decide +kernel
theorem dX7_within_9 : decode cX7_within 9 = .ok (.iload_n 2, 1) := by decide +kernel
theorem dX7_within_10 : decode cX7_within 10 = .ok (.invokevirtual 161, 3) := by decide +kernel
theorem dX7_within_13 : decode cX7_within 13 = .ok (.ifCond .eq 5, 3) := by decide +kernel
theorem dX7_within_16 : decode cX7_within 16 = .ok (.iconst (-1), 1) := by decide +kernel
theorem dX7_within_17 : decode cX7_within 17 = .ok (.ireturn, 1) := by decide +kernel
theorem dX7_within_18 : decode cX7_within 18 = .ok (.aload_n 0, 1) := by decide +kernel
theorem dX7_within_19 : decode cX7_within 19 = .ok (.iload_n 1, 1) := by decide +kernel
theorem dX7_within_20 : decode cX7_within 20 = .ok (.iload_n 2, 1) := by decide +kernel
theorem dX7_within_21 : decode cX7_within 21 = .ok (.invokevirtual 185, 3) := by decide +kernel
theorem dX7_within_24 : decode cX7_within 24 = .ok (.ifCond .ne 7, 3) := by decide +kernel
theorem dX7_within_27 : decode cX7_within 27 = .ok (.iconst 1, 1) := by decide +kernel
theorem dX7_within_28 : decode cX7_within 28 = .ok (.goto 4, 3) := by decide +kernel
theorem dX7_within_31 : decode cX7_within 31 = .ok (.iconst 0, 1) := by decide +kernel
theorem dX7_within_32 : decode cX7_within 32 = .ok (.ireturn, 1) := by decide +kernel
theorem dX7_noNode_0 : decode cX7_noNode 0 = .ok (.iload_n 0, 1) := by decide +kernel
theorem dX7_noNode_1 : decode cX7_noNode 1 = .ok (.i2l, 1) := by decide +kernel
theorem dX7_noNode_2 : decode cX7_noNode 2 = .ok (.lconst 0, 1) := by decide +kernel
theorem dX7_noNode_3 : decode cX7_noNode 3 = .ok (.ldc2_w 188, 3) := by decide +kernel
theorem dX7_noNode_6 : decode cX7_noNode 6 = .ok (.invokestatic 67, 3) := by decide +kernel
theorem dX7_noNode_9 : decode cX7_noNode 9 = .ok (.ifCond .ne 7, 3) := by decide +kernel
theorem dX7_noNode_12 : decode cX7_noNode 12 = .ok (.iconst 1, 1) := by decide +kernel
theorem dX7_noNode_13 : decode cX7_noNode 13 = .ok (.goto 4, 3) := by decide +kernel
theorem dX7_noNode_16 : decode cX7_noNode 16 = .ok (.iconst 0, 1) := by decide +kernel
theorem dX7_noNode_17 : decode cX7_noNode 17 = .ok (.ireturn, 1) := by decide +kernel
theorem dX7_noFlow_0 : decode cX7_noFlow 0 = .ok (.iload_n 1, 1) := by decide +kernel
theorem dX7_noFlow_1 : decode cX7_noFlow 1 = .ok (.i2l, 1) := by decide +kernel
theorem dX7_noFlow_2 : decode cX7_noFlow 2 = .ok (.lconst 0, 1) := by decide +kernel
theorem dX7_noFlow_3 : decode cX7_noFlow 3 = .ok (.aload_n 0, 1) := by decide +kernel
theorem dX7_noFlow_4 : decode cX7_noFlow 4 = .ok (.getfield 190, 3) := by decide +kernel
theorem dX7_noFlow_7 : decode cX7_noFlow 7 = .ok (.i2l, 1) := by decide +kernel
theorem dX7_noFlow_8 : decode cX7_noFlow 8 = .ok (.lconst 1, 1) := by decide +kernel
theorem dX7_noFlow_9 : decode cX7_noFlow 9 = .ok (.lsub, 1) := by decide +kernel
theorem dX7_noFlow_10 : decode cX7_noFlow 10 = .ok (.invokestatic 67, 3) := by decide +kernel
theorem dX7_noFlow_13 : decode cX7_noFlow 13 = .ok (.ifCond .ne 7, 3) := by decide +kernel
theorem dX7_noFlow_16 : decode cX7_noFlow 16 = .ok (.iconst 1, 1) := by decide +kernel
theorem dX7_noFlow_17 : decode cX7_noFlow 17 = .ok (.goto 4, 3) := by decide +kernel
theorem dX7_noFlow_20 : decode cX7_noFlow 20 = .ok (.iconst 0, 1) := by decide +kernel
theorem dX7_noFlow_21 : decode cX7_noFlow 21 = .ok (.ireturn, 1) := by decide +kernel
theorem dX7_serve_0 : decode cX7_serve 0 = .ok (.iload_n 1, 1) := by decide +kernel
theorem dX7_serve_1 : decode cX7_serve 1 = .ok (.invokestatic 193, 3) := by decide +kernel
theorem dX7_serve_4 : decode cX7_serve 4 = .ok (.ifCond .ne 17, 3) := by decide +kernel
theorem dX7_serve_7 : decode cX7_serve 7 = .ok (.iload_n 2, 1) := by decide +kernel
theorem dX7_serve_8 : decode cX7_serve 8 = .ok (.bipush (-9), 2) := by decide +kernel
theorem dX7_serve_10 : decode cX7_serve 10 = .ok (.if_icmp .eq 13, 3) := by decide +kernel
theorem dX7_serve_13 : decode cX7_serve 13 = .ok (.aload_n 0, 1) := by decide +kernel
theorem dX7_serve_14 : decode cX7_serve 14 = .ok (.iload_n 2, 1) := by decide +kernel
theorem dX7_serve_15 : decode cX7_serve 15 = .ok (.invokevirtual 161, 3) := by decide +kernel
theorem dX7_serve_18 : decode cX7_serve 18 = .ok (.ifCond .eq 5, 3) := by decide +kernel
theorem dX7_serve_21 : decode cX7_serve 21 = .ok (.iconst (-1), 1) := by decide +kernel
theorem dX7_serve_22 : decode cX7_serve 22 = .ok (.ireturn, 1) := by decide +kernel
theorem dX7_serve_23 : decode cX7_serve 23 = .ok (.aload_n 0, 1) := by decide +kernel
theorem dX7_serve_24 : decode cX7_serve 24 = .ok (.getfield 25, 3) := by decide +kernel
theorem dX7_serve_27 : decode cX7_serve 27 = .ok (.iload_n 1, 1) := by decide +kernel
theorem dX7_serve_28 : decode cX7_serve 28 = .ok (.iaload, 1) := by decide +kernel
theorem dX7_serve_29 : decode cX7_serve 29 = .ok (.istore_n 3, 1) := by decide +kernel
theorem dX7_serve_30 : decode cX7_serve 30 = .ok (.aload_n 0, 1) := by decide +kernel
theorem dX7_serve_31 : decode cX7_serve 31 = .ok (.getfield 25, 3) := by decide +kernel
theorem dX7_serve_34 : decode cX7_serve 34 = .ok (.iload_n 1, 1) := by decide +kernel
theorem dX7_serve_35 : decode cX7_serve 35 = .ok (.iload_n 2, 1) := by decide +kernel
theorem dX7_serve_36 : decode cX7_serve 36 = .ok (.iastore, 1) := by decide +kernel
theorem dX7_serve_37 : decode cX7_serve 37 = .ok (.iload_n 3, 1) := by decide +kernel
theorem dX7_serve_38 : decode cX7_serve 38 = .ok (.ireturn, 1) := by decide +kernel
theorem dX7_wayFault_0 : decode cX7_wayFault 0 = .ok (.iload_n 2, 1) := by decide +kernel
theorem dX7_wayFault_1 : decode cX7_wayFault 1 = .ok (.i2l, 1) := by decide +kernel
theorem dX7_wayFault_2 : decode cX7_wayFault 2 = .ok (.lconst 1, 1) := by decide +kernel
theorem dX7_wayFault_3 : decode cX7_wayFault 3 = .ok (.ldc2_w 174, 3) := by decide +kernel
theorem dX7_wayFault_6 : decode cX7_wayFault 6 = .ok (.invokestatic 67, 3) := by decide +kernel
theorem dX7_wayFault_9 : decode cX7_wayFault 9 = .ok (.ifCond .ne 6, 3) := by decide +kernel
theorem dX7_wayFault_12 : decode cX7_wayFault 12 = .ok (.bipush (-2), 2) := by decide +kernel
theorem dX7_wayFault_14 : decode cX7_wayFault 14 = .ok (.ireturn, 1) := by decide +kernel
theorem dX7_wayFault_15 : decode cX7_wayFault 15 = .ok (.iconst 0, 1) := by decide +kernel
theorem dX7_wayFault_16 : decode cX7_wayFault 16 = .ok (.istore_n 3, 1) := by decide +kernel
theorem dX7_wayFault_17 : decode cX7_wayFault 17 = .ok (.iload_n 3, 1) := by decide +kernel
theorem dX7_wayFault_18 : decode cX7_wayFault 18 = .ok (.iload_n 2, 1) := by decide +kernel
theorem dX7_wayFault_19 : decode cX7_wayFault 19 = .ok (.if_icmp .ge 25, 3) := by decide +kernel
theorem dX7_wayFault_22 : decode cX7_wayFault 22 = .ok (.aload_n 0, 1) := by decide +kernel
theorem dX7_wayFault_23 : decode cX7_wayFault 23 = .ok (.getfield 49, 3) := by decide +kernel
theorem dX7_wayFault_26 : decode cX7_wayFault 26 = .ok (.iload_n 1, 1) := by decide +kernel
theorem dX7_wayFault_27 : decode cX7_wayFault 27 = .ok (.iload_n 3, 1) := by decide +kernel
theorem dX7_wayFault_28 : decode cX7_wayFault 28 = .ok (.iadd, 1) := by decide +kernel
theorem dX7_wayFault_29 : decode cX7_wayFault 29 = .ok (.iaload, 1) := by decide +kernel
theorem dX7_wayFault_30 : decode cX7_wayFault 30 = .ok (.invokestatic 193, 3) := by decide +kernel
theorem dX7_wayFault_33 : decode cX7_wayFault 33 = .ok (.ifCond .eq 5, 3) := by decide +kernel
theorem dX7_wayFault_36 : decode cX7_wayFault 36 = .ok (.iconst (-1), 1) := by decide +kernel
theorem dX7_wayFault_37 : decode cX7_wayFault 37 = .ok (.ireturn, 1) := by decide +kernel
theorem dX7_wayFault_38 : decode cX7_wayFault 38 = .ok (.iinc 3 1, 3) := by decide +kernel
theorem dX7_wayFault_41 : decode cX7_wayFault 41 = .ok (.goto (-24), 3) := by decide +kernel
theorem dX7_wayFault_44 : decode cX7_wayFault 44 = .ok (.iconst 0, 1) := by decide +kernel
theorem dX7_wayFault_45 : decode cX7_wayFault 45 = .ok (.istore_n 3, 1) := by decide +kernel
theorem dX7_wayFault_46 : decode cX7_wayFault 46 = .ok (.iload_n 3, 1) := by decide +kernel
theorem dX7_wayFault_47 : decode cX7_wayFault 47 = .ok (.iload_n 2, 1) := by decide +kernel
theorem dX7_wayFault_48 : decode cX7_wayFault 48 = .ok (.if_icmp .ge 47, 3) := by decide +kernel
theorem dX7_wayFault_51 : decode cX7_wayFault 51 = .ok (.iconst 0, 1) := by decide +kernel
theorem dX7_wayFault_52 : decode cX7_wayFault 52 = .ok (.istore 4, 2) := by decide +kernel
theorem dX7_wayFault_54 : decode cX7_wayFault 54 = .ok (.iload 4, 2) := by decide +kernel
theorem dX7_wayFault_56 : decode cX7_wayFault 56 = .ok (.iload_n 3, 1) := by decide +kernel
theorem dX7_wayFault_57 : decode cX7_wayFault 57 = .ok (.if_icmp .ge 32, 3) := by decide +kernel
theorem dX7_wayFault_60 : decode cX7_wayFault 60 = .ok (.aload_n 0, 1) := by decide +kernel
theorem dX7_wayFault_61 : decode cX7_wayFault 61 = .ok (.getfield 49, 3) := by decide +kernel
theorem dX7_wayFault_64 : decode cX7_wayFault 64 = .ok (.iload_n 1, 1) := by decide +kernel
theorem dX7_wayFault_65 : decode cX7_wayFault 65 = .ok (.iload_n 3, 1) := by decide +kernel
theorem dX7_wayFault_66 : decode cX7_wayFault 66 = .ok (.iadd, 1) := by decide +kernel
theorem dX7_wayFault_67 : decode cX7_wayFault 67 = .ok (.iaload, 1) := by decide +kernel
theorem dX7_wayFault_68 : decode cX7_wayFault 68 = .ok (.aload_n 0, 1) := by decide +kernel
theorem dX7_wayFault_69 : decode cX7_wayFault 69 = .ok (.getfield 49, 3) := by decide +kernel
theorem dX7_wayFault_72 : decode cX7_wayFault 72 = .ok (.iload_n 1, 1) := by decide +kernel
theorem dX7_wayFault_73 : decode cX7_wayFault 73 = .ok (.iload 4, 2) := by decide +kernel
theorem dX7_wayFault_75 : decode cX7_wayFault 75 = .ok (.iadd, 1) := by decide +kernel
theorem dX7_wayFault_76 : decode cX7_wayFault 76 = .ok (.iaload, 1) := by decide +kernel
theorem dX7_wayFault_77 : decode cX7_wayFault 77 = .ok (.if_icmp .ne 6, 3) := by decide +kernel
theorem dX7_wayFault_80 : decode cX7_wayFault 80 = .ok (.bipush (-3), 2) := by decide +kernel
theorem dX7_wayFault_82 : decode cX7_wayFault 82 = .ok (.ireturn, 1) := by decide +kernel
theorem dX7_wayFault_83 : decode cX7_wayFault 83 = .ok (.iinc 4 1, 3) := by decide +kernel
theorem dX7_wayFault_86 : decode cX7_wayFault 86 = .ok (.goto (-32), 3) := by decide +kernel
theorem dX7_wayFault_89 : decode cX7_wayFault 89 = .ok (.iinc 3 1, 3) := by decide +kernel
theorem dX7_wayFault_92 : decode cX7_wayFault 92 = .ok (.goto (-46), 3) := by decide +kernel
theorem dX7_wayFault_95 : decode cX7_wayFault 95 = .ok (.iconst 0, 1) := by decide +kernel
theorem dX7_wayFault_96 : decode cX7_wayFault 96 = .ok (.ireturn, 1) := by decide +kernel
theorem dX7_flow_0 : decode cX7_flow 0 = .ok (.aload_n 0, 1) := by decide +kernel
theorem dX7_flow_1 : decode cX7_flow 1 = .ok (.iload_n 1, 1) := by decide +kernel
theorem dX7_flow_2 : decode cX7_flow 2 = .ok (.invokevirtual 161, 3) := by decide +kernel
theorem dX7_flow_5 : decode cX7_flow 5 = .ok (.ifCond .ne 10, 3) := by decide +kernel
theorem dX7_flow_8 : decode cX7_flow 8 = .ok (.iload_n 2, 1) := by decide +kernel
theorem dX7_flow_9 : decode cX7_flow 9 = .ok (.invokestatic 96, 3) := by decide +kernel
theorem dX7_flow_12 : decode cX7_flow 12 = .ok (.ifCond .eq 9, 3) := by decide +kernel
theorem dX7_flow_15 : decode cX7_flow 15 = .ok (.aload_n 0, 1) := by decide +kernel
theorem dX7_flow_16 : decode cX7_flow 16 = .ok (.iconst (-1), 1) := by decide +kernel
theorem dX7_flow_17 : decode cX7_flow 17 = .ok (.invokevirtual 71, 3) := by decide +kernel
theorem dX7_flow_20 : decode cX7_flow 20 = .ok (.ireturn, 1) := by decide +kernel
theorem dX7_flow_21 : decode cX7_flow 21 = .ok (.aload_n 0, 1) := by decide +kernel
theorem dX7_flow_22 : decode cX7_flow 22 = .ok (.iload_n 2, 1) := by decide +kernel
theorem dX7_flow_23 : decode cX7_flow 23 = .ok (.iload_n 3, 1) := by decide +kernel
theorem dX7_flow_24 : decode cX7_flow 24 = .ok (.iload 4, 2) := by decide +kernel
theorem dX7_flow_26 : decode cX7_flow 26 = .ok (.iload 5, 2) := by decide +kernel
theorem dX7_flow_28 : decode cX7_flow 28 = .ok (.i2l, 1) := by decide +kernel
theorem dX7_flow_29 : decode cX7_flow 29 = .ok (.invokevirtual 100, 3) := by decide +kernel
theorem dX7_flow_32 : decode cX7_flow 32 = .ok (.istore 6, 2) := by decide +kernel
theorem dX7_flow_34 : decode cX7_flow 34 = .ok (.iload 6, 2) := by decide +kernel
theorem dX7_flow_36 : decode cX7_flow 36 = .ok (.ifCond .ge 6, 3) := by decide +kernel
theorem dX7_flow_39 : decode cX7_flow 39 = .ok (.iload 6, 2) := by decide +kernel
theorem dX7_flow_41 : decode cX7_flow 41 = .ok (.ireturn, 1) := by decide +kernel
theorem dX7_flow_42 : decode cX7_flow 42 = .ok (.bipush 60, 2) := by decide +kernel
theorem dX7_flow_44 : decode cX7_flow 44 = .ok (.iload_n 2, 1) := by decide +kernel
theorem dX7_flow_45 : decode cX7_flow 45 = .ok (.imul, 1) := by decide +kernel
theorem dX7_flow_46 : decode cX7_flow 46 = .ok (.iload 4, 2) := by decide +kernel
theorem dX7_flow_48 : decode cX7_flow 48 = .ok (.iadd, 1) := by decide +kernel
theorem dX7_flow_49 : decode cX7_flow 49 = .ok (.istore 7, 2) := by decide +kernel
theorem dX7_flow_51 : decode cX7_flow 51 = .ok (.aload_n 0, 1) := by decide +kernel
theorem dX7_flow_52 : decode cX7_flow 52 = .ok (.iload 7, 2) := by decide +kernel
theorem dX7_flow_54 : decode cX7_flow 54 = .ok (.iload 5, 2) := by decide +kernel
theorem dX7_flow_56 : decode cX7_flow 56 = .ok (.invokevirtual 196, 3) := by decide +kernel
theorem dX7_flow_59 : decode cX7_flow 59 = .ok (.ifCond .ge 16, 3) := by decide +kernel
theorem dX7_flow_62 : decode cX7_flow 62 = .ok (.aload_n 0, 1) := by decide +kernel
theorem dX7_flow_63 : decode cX7_flow 63 = .ok (.aload_n 0, 1) := by decide +kernel
theorem dX7_flow_64 : decode cX7_flow 64 = .ok (.iload 7, 2) := by decide +kernel
theorem dX7_flow_66 : decode cX7_flow 66 = .ok (.iload 5, 2) := by decide +kernel
theorem dX7_flow_68 : decode cX7_flow 68 = .ok (.invokevirtual 196, 3) := by decide +kernel
theorem dX7_flow_71 : decode cX7_flow 71 = .ok (.invokevirtual 71, 3) := by decide +kernel
theorem dX7_flow_74 : decode cX7_flow 74 = .ok (.ireturn, 1) := by decide +kernel
theorem dX7_flow_75 : decode cX7_flow 75 = .ok (.aload_n 0, 1) := by decide +kernel
theorem dX7_flow_76 : decode cX7_flow 76 = .ok (.getfield 190, 3) := by decide +kernel
theorem dX7_flow_79 : decode cX7_flow 79 = .ok (.iconst 5, 1) := by decide +kernel
theorem dX7_flow_80 : decode cX7_flow 80 = .ok (.if_icmp .ne 10, 3) := by decide +kernel
theorem dX7_flow_83 : decode cX7_flow 83 = .ok (.aload_n 0, 1) := by decide +kernel
theorem dX7_flow_84 : decode cX7_flow 84 = .ok (.bipush (-4), 2) := by decide +kernel
theorem dX7_flow_86 : decode cX7_flow 86 = .ok (.invokevirtual 71, 3) := by decide +kernel
theorem dX7_flow_89 : decode cX7_flow 89 = .ok (.ireturn, 1) := by decide +kernel
theorem dX7_flow_90 : decode cX7_flow 90 = .ok (.aload_n 0, 1) := by decide +kernel
theorem dX7_flow_91 : decode cX7_flow 91 = .ok (.getfield 28, 3) := by decide +kernel
theorem dX7_flow_94 : decode cX7_flow 94 = .ok (.aload_n 0, 1) := by decide +kernel
theorem dX7_flow_95 : decode cX7_flow 95 = .ok (.getfield 190, 3) := by decide +kernel
theorem dX7_flow_98 : decode cX7_flow 98 = .ok (.iload_n 1, 1) := by decide +kernel
theorem dX7_flow_99 : decode cX7_flow 99 = .ok (.iastore, 1) := by decide +kernel
theorem dX7_flow_100 : decode cX7_flow 100 = .ok (.aload_n 0, 1) := by decide +kernel
theorem dX7_flow_101 : decode cX7_flow 101 = .ok (.getfield 31, 3) := by decide +kernel
theorem dX7_flow_104 : decode cX7_flow 104 = .ok (.aload_n 0, 1) := by decide +kernel
theorem dX7_flow_105 : decode cX7_flow 105 = .ok (.getfield 190, 3) := by decide +kernel
theorem dX7_flow_108 : decode cX7_flow 108 = .ok (.iload 5, 2) := by decide +kernel
theorem dX7_flow_110 : decode cX7_flow 110 = .ok (.iastore, 1) := by decide +kernel
theorem dX7_flow_111 : decode cX7_flow 111 = .ok (.iconst 0, 1) := by decide +kernel
theorem dX7_flow_112 : decode cX7_flow 112 = .ok (.istore 8, 2) := by decide +kernel
theorem dX7_flow_114 : decode cX7_flow 114 = .ok (.iload 8, 2) := by decide +kernel
theorem dX7_flow_116 : decode cX7_flow 116 = .ok (.iload 5, 2) := by decide +kernel
theorem dX7_flow_118 : decode cX7_flow 118 = .ok (.if_icmp .ge 33, 3) := by decide +kernel
theorem dX7_flow_121 : decode cX7_flow 121 = .ok (.aload_n 0, 1) := by decide +kernel
theorem dX7_flow_122 : decode cX7_flow 122 = .ok (.getfield 34, 3) := by decide +kernel
theorem dX7_flow_125 : decode cX7_flow 125 = .ok (.iconst 4, 1) := by decide +kernel
theorem dX7_flow_126 : decode cX7_flow 126 = .ok (.aload_n 0, 1) := by decide +kernel
theorem dX7_flow_127 : decode cX7_flow 127 = .ok (.getfield 190, 3) := by decide +kernel
theorem dX7_flow_130 : decode cX7_flow 130 = .ok (.imul, 1) := by decide +kernel
theorem dX7_flow_131 : decode cX7_flow 131 = .ok (.iload 8, 2) := by decide +kernel
theorem dX7_flow_133 : decode cX7_flow 133 = .ok (.iadd, 1) := by decide +kernel
theorem dX7_flow_134 : decode cX7_flow 134 = .ok (.aload_n 0, 1) := by decide +kernel
theorem dX7_flow_135 : decode cX7_flow 135 = .ok (.getfield 49, 3) := by decide +kernel
theorem dX7_flow_138 : decode cX7_flow 138 = .ok (.iload 7, 2) := by decide +kernel
theorem dX7_flow_140 : decode cX7_flow 140 = .ok (.iload 8, 2) := by decide +kernel
theorem dX7_flow_142 : decode cX7_flow 142 = .ok (.iadd, 1) := by decide +kernel
theorem dX7_flow_143 : decode cX7_flow 143 = .ok (.iaload, 1) := by decide +kernel
theorem dX7_flow_144 : decode cX7_flow 144 = .ok (.iastore, 1) := by decide +kernel
theorem dX7_flow_145 : decode cX7_flow 145 = .ok (.iinc 8 1, 3) := by decide +kernel
theorem dX7_flow_148 : decode cX7_flow 148 = .ok (.goto (-34), 3) := by decide +kernel
theorem dX7_flow_151 : decode cX7_flow 151 = .ok (.aload_n 0, 1) := by decide +kernel
theorem dX7_flow_152 : decode cX7_flow 152 = .ok (.dup, 1) := by decide +kernel
theorem dX7_flow_153 : decode cX7_flow 153 = .ok (.getfield 190, 3) := by decide +kernel
theorem dX7_flow_156 : decode cX7_flow 156 = .ok (.iconst 1, 1) := by decide +kernel
theorem dX7_flow_157 : decode cX7_flow 157 = .ok (.iadd, 1) := by decide +kernel
theorem dX7_flow_158 : decode cX7_flow 158 = .ok (.putfield 190, 3) := by decide +kernel
theorem dX7_flow_161 : decode cX7_flow 161 = .ok (.aload_n 0, 1) := by decide +kernel
theorem dX7_flow_162 : decode cX7_flow 162 = .ok (.aload_n 0, 1) := by decide +kernel
theorem dX7_flow_163 : decode cX7_flow 163 = .ok (.getfield 190, 3) := by decide +kernel
theorem dX7_flow_166 : decode cX7_flow 166 = .ok (.iconst 1, 1) := by decide +kernel
theorem dX7_flow_167 : decode cX7_flow 167 = .ok (.isub, 1) := by decide +kernel
theorem dX7_flow_168 : decode cX7_flow 168 = .ok (.invokevirtual 71, 3) := by decide +kernel
theorem dX7_flow_171 : decode cX7_flow 171 = .ok (.ireturn, 1) := by decide +kernel
theorem dX7_ofFlow_0 : decode cX7_ofFlow 0 = .ok (.aload_n 0, 1) := by decide +kernel
theorem dX7_ofFlow_1 : decode cX7_ofFlow 1 = .ok (.iload_n 1, 1) := by decide +kernel
theorem dX7_ofFlow_2 : decode cX7_ofFlow 2 = .ok (.invokevirtual 199, 3) := by decide +kernel
theorem dX7_ofFlow_5 : decode cX7_ofFlow 5 = .ok (.ifCond .eq 5, 3) := by decide +kernel
theorem dX7_ofFlow_8 : decode cX7_ofFlow 8 = .ok (.iconst (-1), 1) := by decide +kernel
theorem dX7_ofFlow_9 : decode cX7_ofFlow 9 = .ok (.ireturn, 1) := by decide +kernel
theorem dX7_ofFlow_10 : decode cX7_ofFlow 10 = .ok (.iload_n 2, 1) := by decide +kernel
theorem dX7_ofFlow_11 : decode cX7_ofFlow 11 = .ok (.ifCond .eq 8, 3) := by decide +kernel
theorem dX7_ofFlow_14 : decode cX7_ofFlow 14 = .ok (.iload_n 2, 1) := by decide +kernel
theorem dX7_ofFlow_15 : decode cX7_ofFlow 15 = .ok (.iconst 1, 1) := by decide +kernel
theorem dX7_ofFlow_16 : decode cX7_ofFlow 16 = .ok (.if_icmp .ne 23, 3) := by decide +kernel
theorem dX7_ofFlow_19 : decode cX7_ofFlow 19 = .ok (.iload_n 2, 1) := by decide +kernel
theorem dX7_ofFlow_20 : decode cX7_ofFlow 20 = .ok (.ifCond .ne 12, 3) := by decide +kernel
theorem dX7_ofFlow_23 : decode cX7_ofFlow 23 = .ok (.aload_n 0, 1) := by decide +kernel
theorem dX7_ofFlow_24 : decode cX7_ofFlow 24 = .ok (.getfield 28, 3) := by decide +kernel
theorem dX7_ofFlow_27 : decode cX7_ofFlow 27 = .ok (.iload_n 1, 1) := by decide +kernel
theorem dX7_ofFlow_28 : decode cX7_ofFlow 28 = .ok (.iaload, 1) := by decide +kernel
theorem dX7_ofFlow_29 : decode cX7_ofFlow 29 = .ok (.goto 9, 3) := by decide +kernel
theorem dX7_ofFlow_32 : decode cX7_ofFlow 32 = .ok (.aload_n 0, 1) := by decide +kernel
theorem dX7_ofFlow_33 : decode cX7_ofFlow 33 = .ok (.getfield 31, 3) := by decide +kernel
theorem dX7_ofFlow_36 : decode cX7_ofFlow 36 = .ok (.iload_n 1, 1) := by decide +kernel
theorem dX7_ofFlow_37 : decode cX7_ofFlow 37 = .ok (.iaload, 1) := by decide +kernel
theorem dX7_ofFlow_38 : decode cX7_ofFlow 38 = .ok (.ireturn, 1) := by decide +kernel
theorem dX7_ofFlow_39 : decode cX7_ofFlow 39 = .ok (.iload_n 2, 1) := by decide +kernel
theorem dX7_ofFlow_40 : decode cX7_ofFlow 40 = .ok (.i2l, 1) := by decide +kernel
theorem dX7_ofFlow_41 : decode cX7_ofFlow 41 = .ok (.ldc2_w 202, 3) := by decide +kernel
theorem dX7_ofFlow_44 : decode cX7_ofFlow 44 = .ok (.ldc2_w 204, 3) := by decide +kernel
theorem dX7_ofFlow_47 : decode cX7_ofFlow 47 = .ok (.aload_n 0, 1) := by decide +kernel
theorem dX7_ofFlow_48 : decode cX7_ofFlow 48 = .ok (.getfield 31, 3) := by decide +kernel
theorem dX7_ofFlow_51 : decode cX7_ofFlow 51 = .ok (.iload_n 1, 1) := by decide +kernel
theorem dX7_ofFlow_52 : decode cX7_ofFlow 52 = .ok (.iaload, 1) := by decide +kernel
end
section
theorem dX7_ofFlow_53 : decode cX7_ofFlow 53 = .ok (.i2l, 1) := by decide +kernel
theorem dX7_ofFlow_54 : decode cX7_ofFlow 54 = .ok (.ladd, 1) := by decide +kernel
theorem dX7_ofFlow_55 : decode cX7_ofFlow 55 = .ok (.invokestatic 67, 3) := by decide +kernel
theorem dX7_ofFlow_58 : decode cX7_ofFlow 58 = .ok (.ifCond .eq 19, 3) := by decide +kernel
theorem dX7_ofFlow_61 : decode cX7_ofFlow 61 = .ok (.aload_n 0, 1) := by decide +kernel
theorem dX7_ofFlow_62 : decode cX7_ofFlow 62 = .ok (.getfield 34, 3) := by decide +kernel
theorem dX7_ofFlow_65 : decode cX7_ofFlow 65 = .ok (.iconst 4, 1) := by decide +kernel
theorem dX7_ofFlow_66 : decode cX7_ofFlow 66 = .ok (.iload_n 1, 1) := by decide +kernel
theorem dX7_ofFlow_67 : decode cX7_ofFlow 67 = .ok (.imul, 1) := by decide +kernel
theorem dX7_ofFlow_68 : decode cX7_ofFlow 68 = .ok (.iload_n 2, 1) := by decide +kernel
theorem dX7_ofFlow_69 : decode cX7_ofFlow 69 = .ok (.iadd, 1) := by decide +kernel
theorem dX7_ofFlow_70 : decode cX7_ofFlow 70 = .ok (.bipush 10, 2) := by decide +kernel
theorem dX7_ofFlow_72 : decode cX7_ofFlow 72 = .ok (.isub, 1) := by decide +kernel
theorem dX7_ofFlow_73 : decode cX7_ofFlow 73 = .ok (.iaload, 1) := by decide +kernel
theorem dX7_ofFlow_74 : decode cX7_ofFlow 74 = .ok (.goto 5, 3) := by decide +kernel
theorem dX7_ofFlow_77 : decode cX7_ofFlow 77 = .ok (.bipush (-2), 2) := by decide +kernel
theorem dX7_ofFlow_79 : decode cX7_ofFlow 79 = .ok (.ireturn, 1) := by decide +kernel
theorem dX7_rule_0 : decode cX7_rule 0 = .ok (.iload_n 1, 1) := by decide +kernel
theorem dX7_rule_1 : decode cX7_rule 1 = .ok (.i2l, 1) := by decide +kernel
theorem dX7_rule_2 : decode cX7_rule 2 = .ok (.lconst 0, 1) := by decide +kernel
theorem dX7_rule_3 : decode cX7_rule 3 = .ok (.ldc2_w 65, 3) := by decide +kernel
theorem dX7_rule_6 : decode cX7_rule 6 = .ok (.invokestatic 67, 3) := by decide +kernel
theorem dX7_rule_9 : decode cX7_rule 9 = .ok (.ifCond .ne 6, 3) := by decide +kernel
theorem dX7_rule_12 : decode cX7_rule 12 = .ok (.bipush (-2), 2) := by decide +kernel
theorem dX7_rule_14 : decode cX7_rule 14 = .ok (.ireturn, 1) := by decide +kernel
theorem dX7_rule_15 : decode cX7_rule 15 = .ok (.aload_n 0, 1) := by decide +kernel
theorem dX7_rule_16 : decode cX7_rule 16 = .ok (.getfield 206, 3) := by decide +kernel
theorem dX7_rule_19 : decode cX7_rule 19 = .ok (.istore_n 2, 1) := by decide +kernel
theorem dX7_rule_20 : decode cX7_rule 20 = .ok (.aload_n 0, 1) := by decide +kernel
theorem dX7_rule_21 : decode cX7_rule 21 = .ok (.iload_n 1, 1) := by decide +kernel
theorem dX7_rule_22 : decode cX7_rule 22 = .ok (.putfield 206, 3) := by decide +kernel
theorem dX7_rule_25 : decode cX7_rule 25 = .ok (.iload_n 2, 1) := by decide +kernel
theorem dX7_rule_26 : decode cX7_rule 26 = .ok (.ireturn, 1) := by decide +kernel
theorem dX7_layRounds_0 : decode cX7_layRounds 0 = .ok (.iconst 0, 1) := by decide +kernel
theorem dX7_layRounds_1 : decode cX7_layRounds 1 = .ok (.istore_n 1, 1) := by decide +kernel
theorem dX7_layRounds_2 : decode cX7_layRounds 2 = .ok (.iload_n 1, 1) := by decide +kernel
theorem dX7_layRounds_3 : decode cX7_layRounds 3 = .ok (.bipush 6, 2) := by decide +kernel
theorem dX7_layRounds_5 : decode cX7_layRounds 5 = .ok (.if_icmp .ge 16, 3) := by decide +kernel
theorem dX7_layRounds_8 : decode cX7_layRounds 8 = .ok (.aload_n 0, 1) := by decide +kernel
theorem dX7_layRounds_9 : decode cX7_layRounds 9 = .ok (.getfield 37, 3) := by decide +kernel
theorem dX7_layRounds_12 : decode cX7_layRounds 12 = .ok (.iload_n 1, 1) := by decide +kernel
theorem dX7_layRounds_13 : decode cX7_layRounds 13 = .ok (.iconst 0, 1) := by decide +kernel
theorem dX7_layRounds_14 : decode cX7_layRounds 14 = .ok (.iastore, 1) := by decide +kernel
theorem dX7_layRounds_15 : decode cX7_layRounds 15 = .ok (.iinc 1 1, 3) := by decide +kernel
theorem dX7_layRounds_18 : decode cX7_layRounds 18 = .ok (.goto (-16), 3) := by decide +kernel
theorem dX7_layRounds_21 : decode cX7_layRounds 21 = .ok (.iconst 1, 1) := by decide +kernel
theorem dX7_layRounds_22 : decode cX7_layRounds 22 = .ok (.istore_n 1, 1) := by decide +kernel
theorem dX7_layRounds_23 : decode cX7_layRounds 23 = .ok (.iconst 0, 1) := by decide +kernel
theorem dX7_layRounds_24 : decode cX7_layRounds 24 = .ok (.istore_n 2, 1) := by decide +kernel
theorem dX7_layRounds_25 : decode cX7_layRounds 25 = .ok (.iload_n 2, 1) := by decide +kernel
theorem dX7_layRounds_26 : decode cX7_layRounds 26 = .ok (.bipush 7, 2) := by decide +kernel
theorem dX7_layRounds_28 : decode cX7_layRounds 28 = .ok (.if_icmp .ge 132, 3) := by decide +kernel
theorem dX7_layRounds_31 : decode cX7_layRounds 31 = .ok (.iload_n 1, 1) := by decide +kernel
theorem dX7_layRounds_32 : decode cX7_layRounds 32 = .ok (.ifCond .eq 128, 3) := by decide +kernel
theorem dX7_layRounds_35 : decode cX7_layRounds 35 = .ok (.iconst 0, 1) := by decide +kernel
theorem dX7_layRounds_36 : decode cX7_layRounds 36 = .ok (.istore_n 1, 1) := by decide +kernel
theorem dX7_layRounds_37 : decode cX7_layRounds 37 = .ok (.iconst 0, 1) := by decide +kernel
theorem dX7_layRounds_38 : decode cX7_layRounds 38 = .ok (.istore_n 3, 1) := by decide +kernel
theorem dX7_layRounds_39 : decode cX7_layRounds 39 = .ok (.iload_n 3, 1) := by decide +kernel
theorem dX7_layRounds_40 : decode cX7_layRounds 40 = .ok (.aload_n 0, 1) := by decide +kernel
theorem dX7_layRounds_41 : decode cX7_layRounds 41 = .ok (.getfield 190, 3) := by decide +kernel
theorem dX7_layRounds_44 : decode cX7_layRounds 44 = .ok (.if_icmp .ge 110, 3) := by decide +kernel
theorem dX7_layRounds_47 : decode cX7_layRounds 47 = .ok (.iconst 1, 1) := by decide +kernel
theorem dX7_layRounds_48 : decode cX7_layRounds 48 = .ok (.istore 4, 2) := by decide +kernel
theorem dX7_layRounds_50 : decode cX7_layRounds 50 = .ok (.iload 4, 2) := by decide +kernel
theorem dX7_layRounds_52 : decode cX7_layRounds 52 = .ok (.aload_n 0, 1) := by decide +kernel
theorem dX7_layRounds_53 : decode cX7_layRounds 53 = .ok (.getfield 31, 3) := by decide +kernel
theorem dX7_layRounds_56 : decode cX7_layRounds 56 = .ok (.iload_n 3, 1) := by decide +kernel
theorem dX7_layRounds_57 : decode cX7_layRounds 57 = .ok (.iaload, 1) := by decide +kernel
theorem dX7_layRounds_58 : decode cX7_layRounds 58 = .ok (.if_icmp .ge 90, 3) := by decide +kernel
theorem dX7_layRounds_61 : decode cX7_layRounds 61 = .ok (.aload_n 0, 1) := by decide +kernel
theorem dX7_layRounds_62 : decode cX7_layRounds 62 = .ok (.getfield 34, 3) := by decide +kernel
theorem dX7_layRounds_65 : decode cX7_layRounds 65 = .ok (.iconst 4, 1) := by decide +kernel
theorem dX7_layRounds_66 : decode cX7_layRounds 66 = .ok (.iload_n 3, 1) := by decide +kernel
theorem dX7_layRounds_67 : decode cX7_layRounds 67 = .ok (.imul, 1) := by decide +kernel
theorem dX7_layRounds_68 : decode cX7_layRounds 68 = .ok (.iload 4, 2) := by decide +kernel
theorem dX7_layRounds_70 : decode cX7_layRounds 70 = .ok (.iadd, 1) := by decide +kernel
theorem dX7_layRounds_71 : decode cX7_layRounds 71 = .ok (.iconst 1, 1) := by decide +kernel
theorem dX7_layRounds_72 : decode cX7_layRounds 72 = .ok (.isub, 1) := by decide +kernel
theorem dX7_layRounds_73 : decode cX7_layRounds 73 = .ok (.iaload, 1) := by decide +kernel
theorem dX7_layRounds_74 : decode cX7_layRounds 74 = .ok (.istore 5, 2) := by decide +kernel
theorem dX7_layRounds_76 : decode cX7_layRounds 76 = .ok (.aload_n 0, 1) := by decide +kernel
theorem dX7_layRounds_77 : decode cX7_layRounds 77 = .ok (.getfield 34, 3) := by decide +kernel
theorem dX7_layRounds_80 : decode cX7_layRounds 80 = .ok (.iconst 4, 1) := by decide +kernel
theorem dX7_layRounds_81 : decode cX7_layRounds 81 = .ok (.iload_n 3, 1) := by decide +kernel
theorem dX7_layRounds_82 : decode cX7_layRounds 82 = .ok (.imul, 1) := by decide +kernel
theorem dX7_layRounds_83 : decode cX7_layRounds 83 = .ok (.iload 4, 2) := by decide +kernel
theorem dX7_layRounds_85 : decode cX7_layRounds 85 = .ok (.iadd, 1) := by decide +kernel
theorem dX7_layRounds_86 : decode cX7_layRounds 86 = .ok (.iaload, 1) := by decide +kernel
theorem dX7_layRounds_87 : decode cX7_layRounds 87 = .ok (.istore 6, 2) := by decide +kernel
theorem dX7_layRounds_89 : decode cX7_layRounds 89 = .ok (.iload_n 1, 1) := by decide +kernel
theorem dX7_layRounds_90 : decode cX7_layRounds 90 = .ok (.ifCond .ne 20, 3) := by decide +kernel
theorem dX7_layRounds_93 : decode cX7_layRounds 93 = .ok (.aload_n 0, 1) := by decide +kernel
theorem dX7_layRounds_94 : decode cX7_layRounds 94 = .ok (.getfield 37, 3) := by decide +kernel
theorem dX7_layRounds_97 : decode cX7_layRounds 97 = .ok (.iload 6, 2) := by decide +kernel
theorem dX7_layRounds_99 : decode cX7_layRounds 99 = .ok (.iaload, 1) := by decide +kernel
theorem dX7_layRounds_100 : decode cX7_layRounds 100 = .ok (.aload_n 0, 1) := by decide +kernel
theorem dX7_layRounds_101 : decode cX7_layRounds 101 = .ok (.getfield 37, 3) := by decide +kernel
theorem dX7_layRounds_104 : decode cX7_layRounds 104 = .ok (.iload 5, 2) := by decide +kernel
theorem dX7_layRounds_106 : decode cX7_layRounds 106 = .ok (.iaload, 1) := by decide +kernel
theorem dX7_layRounds_107 : decode cX7_layRounds 107 = .ok (.if_icmp .gt 7, 3) := by decide +kernel
theorem dX7_layRounds_110 : decode cX7_layRounds 110 = .ok (.iconst 1, 1) := by decide +kernel
theorem dX7_layRounds_111 : decode cX7_layRounds 111 = .ok (.goto 4, 3) := by decide +kernel
theorem dX7_layRounds_114 : decode cX7_layRounds 114 = .ok (.iconst 0, 1) := by decide +kernel
theorem dX7_layRounds_115 : decode cX7_layRounds 115 = .ok (.istore_n 1, 1) := by decide +kernel
theorem dX7_layRounds_116 : decode cX7_layRounds 116 = .ok (.aload_n 0, 1) := by decide +kernel
theorem dX7_layRounds_117 : decode cX7_layRounds 117 = .ok (.getfield 37, 3) := by decide +kernel
theorem dX7_layRounds_120 : decode cX7_layRounds 120 = .ok (.iload 6, 2) := by decide +kernel
theorem dX7_layRounds_122 : decode cX7_layRounds 122 = .ok (.aload_n 0, 1) := by decide +kernel
theorem dX7_layRounds_123 : decode cX7_layRounds 123 = .ok (.getfield 37, 3) := by decide +kernel
theorem dX7_layRounds_126 : decode cX7_layRounds 126 = .ok (.iload 6, 2) := by decide +kernel
theorem dX7_layRounds_128 : decode cX7_layRounds 128 = .ok (.iaload, 1) := by decide +kernel
theorem dX7_layRounds_129 : decode cX7_layRounds 129 = .ok (.aload_n 0, 1) := by decide +kernel
theorem dX7_layRounds_130 : decode cX7_layRounds 130 = .ok (.getfield 37, 3) := by decide +kernel
theorem dX7_layRounds_133 : decode cX7_layRounds 133 = .ok (.iload 5, 2) := by decide +kernel
theorem dX7_layRounds_135 : decode cX7_layRounds 135 = .ok (.iaload, 1) := by decide +kernel
theorem dX7_layRounds_136 : decode cX7_layRounds 136 = .ok (.iconst 1, 1) := by decide +kernel
theorem dX7_layRounds_137 : decode cX7_layRounds 137 = .ok (.iadd, 1) := by decide +kernel
theorem dX7_layRounds_138 : decode cX7_layRounds 138 = .ok (.invokestatic 171, 3) := by decide +kernel
theorem dX7_layRounds_141 : decode cX7_layRounds 141 = .ok (.iastore, 1) := by decide +kernel
theorem dX7_layRounds_142 : decode cX7_layRounds 142 = .ok (.iinc 4 1, 3) := by decide +kernel
theorem dX7_layRounds_145 : decode cX7_layRounds 145 = .ok (.goto (-95), 3) := by decide +kernel
theorem dX7_layRounds_148 : decode cX7_layRounds 148 = .ok (.iinc 3 1, 3) := by decide +kernel
theorem dX7_layRounds_151 : decode cX7_layRounds 151 = .ok (.goto (-112), 3) := by decide +kernel
theorem dX7_layRounds_154 : decode cX7_layRounds 154 = .ok (.iinc 2 1, 3) := by decide +kernel
theorem dX7_layRounds_157 : decode cX7_layRounds 157 = .ok (.goto (-132), 3) := by decide +kernel
theorem dX7_layRounds_160 : decode cX7_layRounds 160 = .ok (.iload_n 1, 1) := by decide +kernel
theorem dX7_layRounds_161 : decode cX7_layRounds 161 = .ok (.ifCond .ne 7, 3) := by decide +kernel
theorem dX7_layRounds_164 : decode cX7_layRounds 164 = .ok (.iconst 1, 1) := by decide +kernel
theorem dX7_layRounds_165 : decode cX7_layRounds 165 = .ok (.goto 4, 3) := by decide +kernel
theorem dX7_layRounds_168 : decode cX7_layRounds 168 = .ok (.iconst 0, 1) := by decide +kernel
theorem dX7_layRounds_169 : decode cX7_layRounds 169 = .ok (.ireturn, 1) := by decide +kernel
theorem dX7_ring_0 : decode cX7_ring 0 = .ok (.aload_n 0, 1) := by decide +kernel
theorem dX7_ring_1 : decode cX7_ring 1 = .ok (.invokevirtual 209, 3) := by decide +kernel
theorem dX7_ring_4 : decode cX7_ring 4 = .ok (.ifCond .eq 7, 3) := by decide +kernel
theorem dX7_ring_7 : decode cX7_ring 7 = .ok (.iconst 0, 1) := by decide +kernel
theorem dX7_ring_8 : decode cX7_ring 8 = .ok (.goto 4, 3) := by decide +kernel
theorem dX7_ring_11 : decode cX7_ring 11 = .ok (.iconst 1, 1) := by decide +kernel
theorem dX7_ring_12 : decode cX7_ring 12 = .ok (.ireturn, 1) := by decide +kernel
theorem dX7_areServed_0 : decode cX7_areServed 0 = .ok (.iconst 1, 1) := by decide +kernel
theorem dX7_areServed_1 : decode cX7_areServed 1 = .ok (.istore_n 1, 1) := by decide +kernel
theorem dX7_areServed_2 : decode cX7_areServed 2 = .ok (.iconst 0, 1) := by decide +kernel
theorem dX7_areServed_3 : decode cX7_areServed 3 = .ok (.istore_n 2, 1) := by decide +kernel
theorem dX7_areServed_4 : decode cX7_areServed 4 = .ok (.iload_n 2, 1) := by decide +kernel
theorem dX7_areServed_5 : decode cX7_areServed 5 = .ok (.aload_n 0, 1) := by decide +kernel
theorem dX7_areServed_6 : decode cX7_areServed 6 = .ok (.getfield 190, 3) := by decide +kernel
theorem dX7_areServed_9 : decode cX7_areServed 9 = .ok (.if_icmp .ge 55, 3) := by decide +kernel
theorem dX7_areServed_12 : decode cX7_areServed 12 = .ok (.iconst 0, 1) := by decide +kernel
theorem dX7_areServed_13 : decode cX7_areServed 13 = .ok (.istore_n 3, 1) := by decide +kernel
theorem dX7_areServed_14 : decode cX7_areServed 14 = .ok (.iload_n 3, 1) := by decide +kernel
theorem dX7_areServed_15 : decode cX7_areServed 15 = .ok (.aload_n 0, 1) := by decide +kernel
theorem dX7_areServed_16 : decode cX7_areServed 16 = .ok (.getfield 31, 3) := by decide +kernel
theorem dX7_areServed_19 : decode cX7_areServed 19 = .ok (.iload_n 2, 1) := by decide +kernel
theorem dX7_areServed_20 : decode cX7_areServed 20 = .ok (.iaload, 1) := by decide +kernel
theorem dX7_areServed_21 : decode cX7_areServed 21 = .ok (.if_icmp .ge 37, 3) := by decide +kernel
theorem dX7_areServed_24 : decode cX7_areServed 24 = .ok (.iload_n 1, 1) := by decide +kernel
theorem dX7_areServed_25 : decode cX7_areServed 25 = .ok (.ifCond .eq 25, 3) := by decide +kernel
theorem dX7_areServed_28 : decode cX7_areServed 28 = .ok (.aload_n 0, 1) := by decide +kernel
theorem dX7_areServed_29 : decode cX7_areServed 29 = .ok (.getfield 25, 3) := by decide +kernel
theorem dX7_areServed_32 : decode cX7_areServed 32 = .ok (.aload_n 0, 1) := by decide +kernel
theorem dX7_areServed_33 : decode cX7_areServed 33 = .ok (.getfield 34, 3) := by decide +kernel
theorem dX7_areServed_36 : decode cX7_areServed 36 = .ok (.iconst 4, 1) := by decide +kernel
theorem dX7_areServed_37 : decode cX7_areServed 37 = .ok (.iload_n 2, 1) := by decide +kernel
theorem dX7_areServed_38 : decode cX7_areServed 38 = .ok (.imul, 1) := by decide +kernel
theorem dX7_areServed_39 : decode cX7_areServed 39 = .ok (.iload_n 3, 1) := by decide +kernel
theorem dX7_areServed_40 : decode cX7_areServed 40 = .ok (.iadd, 1) := by decide +kernel
theorem dX7_areServed_41 : decode cX7_areServed 41 = .ok (.iaload, 1) := by decide +kernel
theorem dX7_areServed_42 : decode cX7_areServed 42 = .ok (.iaload, 1) := by decide +kernel
theorem dX7_areServed_43 : decode cX7_areServed 43 = .ok (.ifCond .lt 7, 3) := by decide +kernel
theorem dX7_areServed_46 : decode cX7_areServed 46 = .ok (.iconst 1, 1) := by decide +kernel
theorem dX7_areServed_47 : decode cX7_areServed 47 = .ok (.goto 4, 3) := by decide +kernel
theorem dX7_areServed_50 : decode cX7_areServed 50 = .ok (.iconst 0, 1) := by decide +kernel
theorem dX7_areServed_51 : decode cX7_areServed 51 = .ok (.istore_n 1, 1) := by decide +kernel
theorem dX7_areServed_52 : decode cX7_areServed 52 = .ok (.iinc 3 1, 3) := by decide +kernel
theorem dX7_areServed_55 : decode cX7_areServed 55 = .ok (.goto (-41), 3) := by decide +kernel
theorem dX7_areServed_58 : decode cX7_areServed 58 = .ok (.iinc 2 1, 3) := by decide +kernel
theorem dX7_areServed_61 : decode cX7_areServed 61 = .ok (.goto (-57), 3) := by decide +kernel
theorem dX7_areServed_64 : decode cX7_areServed 64 = .ok (.iload_n 1, 1) := by decide +kernel
theorem dX7_areServed_65 : decode cX7_areServed 65 = .ok (.ireturn, 1) := by decide +kernel
theorem dX7_placeOf_0 : decode cX7_placeOf 0 = .ok (.iconst 0, 1) := by decide +kernel
theorem dX7_placeOf_1 : decode cX7_placeOf 1 = .ok (.istore_n 3, 1) := by decide +kernel
theorem dX7_placeOf_2 : decode cX7_placeOf 2 = .ok (.iload_n 3, 1) := by decide +kernel
theorem dX7_placeOf_3 : decode cX7_placeOf 3 = .ok (.aload_n 0, 1) := by decide +kernel
theorem dX7_placeOf_4 : decode cX7_placeOf 4 = .ok (.getfield 31, 3) := by decide +kernel
theorem dX7_placeOf_7 : decode cX7_placeOf 7 = .ok (.iload_n 1, 1) := by decide +kernel
theorem dX7_placeOf_8 : decode cX7_placeOf 8 = .ok (.iaload, 1) := by decide +kernel
theorem dX7_placeOf_9 : decode cX7_placeOf 9 = .ok (.if_icmp .ge 25, 3) := by decide +kernel
theorem dX7_placeOf_12 : decode cX7_placeOf 12 = .ok (.aload_n 0, 1) := by decide +kernel
theorem dX7_placeOf_13 : decode cX7_placeOf 13 = .ok (.getfield 34, 3) := by decide +kernel
theorem dX7_placeOf_16 : decode cX7_placeOf 16 = .ok (.iconst 4, 1) := by decide +kernel
theorem dX7_placeOf_17 : decode cX7_placeOf 17 = .ok (.iload_n 1, 1) := by decide +kernel
theorem dX7_placeOf_18 : decode cX7_placeOf 18 = .ok (.imul, 1) := by decide +kernel
theorem dX7_placeOf_19 : decode cX7_placeOf 19 = .ok (.iload_n 3, 1) := by decide +kernel
theorem dX7_placeOf_20 : decode cX7_placeOf 20 = .ok (.iadd, 1) := by decide +kernel
theorem dX7_placeOf_21 : decode cX7_placeOf 21 = .ok (.iaload, 1) := by decide +kernel
theorem dX7_placeOf_22 : decode cX7_placeOf 22 = .ok (.iload_n 2, 1) := by decide +kernel
theorem dX7_placeOf_23 : decode cX7_placeOf 23 = .ok (.if_icmp .ne 5, 3) := by decide +kernel
theorem dX7_placeOf_26 : decode cX7_placeOf 26 = .ok (.iload_n 3, 1) := by decide +kernel
theorem dX7_placeOf_27 : decode cX7_placeOf 27 = .ok (.ireturn, 1) := by decide +kernel
theorem dX7_placeOf_28 : decode cX7_placeOf 28 = .ok (.iinc 3 1, 3) := by decide +kernel
theorem dX7_placeOf_31 : decode cX7_placeOf 31 = .ok (.goto (-29), 3) := by decide +kernel
theorem dX7_placeOf_34 : decode cX7_placeOf 34 = .ok (.bipush (-9), 2) := by decide +kernel
theorem dX7_placeOf_36 : decode cX7_placeOf 36 = .ok (.ireturn, 1) := by decide +kernel
theorem dX7_layZero_0 : decode cX7_layZero 0 = .ok (.iconst 0, 1) := by decide +kernel
theorem dX7_layZero_1 : decode cX7_layZero 1 = .ok (.istore_n 2, 1) := by decide +kernel
theorem dX7_layZero_2 : decode cX7_layZero 2 = .ok (.iload_n 2, 1) := by decide +kernel
theorem dX7_layZero_3 : decode cX7_layZero 3 = .ok (.bipush 41, 2) := by decide +kernel
theorem dX7_layZero_5 : decode cX7_layZero 5 = .ok (.if_icmp .ge 16, 3) := by decide +kernel
theorem dX7_layZero_8 : decode cX7_layZero 8 = .ok (.aload_n 0, 1) := by decide +kernel
theorem dX7_layZero_9 : decode cX7_layZero 9 = .ok (.iload_n 1, 1) := by decide +kernel
theorem dX7_layZero_10 : decode cX7_layZero 10 = .ok (.iload_n 2, 1) := by decide +kernel
theorem dX7_layZero_11 : decode cX7_layZero 11 = .ok (.lconst 0, 1) := by decide +kernel
theorem dX7_layZero_12 : decode cX7_layZero 12 = .ok (.invokevirtual 88, 3) := by decide +kernel
theorem dX7_layZero_15 : decode cX7_layZero 15 = .ok (.iinc 2 1, 3) := by decide +kernel
theorem dX7_layZero_18 : decode cX7_layZero 18 = .ok (.goto (-16), 3) := by decide +kernel
theorem dX7_layZero_21 : decode cX7_layZero 21 = .ok (.return_, 1) := by decide +kernel
theorem dX7_laySum_0 : decode cX7_laySum 0 = .ok (.aload_n 0, 1) := by decide +kernel
theorem dX7_laySum_1 : decode cX7_laySum 1 = .ok (.iload 4, 2) := by decide +kernel
theorem dX7_laySum_3 : decode cX7_laySum 3 = .ok (.invokevirtual 213, 3) := by decide +kernel
theorem dX7_laySum_6 : decode cX7_laySum 6 = .ok (.iconst 0, 1) := by decide +kernel
theorem dX7_laySum_7 : decode cX7_laySum 7 = .ok (.istore 5, 2) := by decide +kernel
theorem dX7_laySum_9 : decode cX7_laySum 9 = .ok (.iload 5, 2) := by decide +kernel
theorem dX7_laySum_11 : decode cX7_laySum 11 = .ok (.iload_n 2, 1) := by decide +kernel
theorem dX7_laySum_12 : decode cX7_laySum 12 = .ok (.if_icmp .ge 48, 3) := by decide +kernel
theorem dX7_laySum_15 : decode cX7_laySum 15 = .ok (.aload_n 0, 1) := by decide +kernel
theorem dX7_laySum_16 : decode cX7_laySum 16 = .ok (.iload 5, 2) := by decide +kernel
theorem dX7_laySum_18 : decode cX7_laySum 18 = .ok (.iload_n 1, 1) := by decide +kernel
theorem dX7_laySum_19 : decode cX7_laySum 19 = .ok (.invokevirtual 217, 3) := by decide +kernel
theorem dX7_laySum_22 : decode cX7_laySum 22 = .ok (.istore 6, 2) := by decide +kernel
theorem dX7_laySum_24 : decode cX7_laySum 24 = .ok (.iload 6, 2) := by decide +kernel
theorem dX7_laySum_26 : decode cX7_laySum 26 = .ok (.ifCond .lt 28, 3) := by decide +kernel
theorem dX7_laySum_29 : decode cX7_laySum 29 = .ok (.iload 5, 2) := by decide +kernel
theorem dX7_laySum_31 : decode cX7_laySum 31 = .ok (.iload_n 3, 1) := by decide +kernel
theorem dX7_laySum_32 : decode cX7_laySum 32 = .ok (.if_icmp .eq 22, 3) := by decide +kernel
theorem dX7_laySum_35 : decode cX7_laySum 35 = .ok (.aload_n 0, 1) := by decide +kernel
theorem dX7_laySum_36 : decode cX7_laySum 36 = .ok (.iconst 1, 1) := by decide +kernel
theorem dX7_laySum_37 : decode cX7_laySum 37 = .ok (.iload 4, 2) := by decide +kernel
theorem dX7_laySum_39 : decode cX7_laySum 39 = .ok (.bipush 24, 2) := by decide +kernel
theorem dX7_laySum_41 : decode cX7_laySum 41 = .ok (.iconst 4, 1) := by decide +kernel
theorem dX7_laySum_42 : decode cX7_laySum 42 = .ok (.iload 5, 2) := by decide +kernel
theorem dX7_laySum_44 : decode cX7_laySum 44 = .ok (.imul, 1) := by decide +kernel
theorem dX7_laySum_45 : decode cX7_laySum 45 = .ok (.iadd, 1) := by decide +kernel
theorem dX7_laySum_46 : decode cX7_laySum 46 = .ok (.iload 6, 2) := by decide +kernel
theorem dX7_laySum_48 : decode cX7_laySum 48 = .ok (.iadd, 1) := by decide +kernel
theorem dX7_laySum_49 : decode cX7_laySum 49 = .ok (.iload 4, 2) := by decide +kernel
theorem dX7_laySum_51 : decode cX7_laySum 51 = .ok (.invokevirtual 157, 3) := by decide +kernel
theorem dX7_laySum_54 : decode cX7_laySum 54 = .ok (.iinc 5 1, 3) := by decide +kernel
theorem dX7_laySum_57 : decode cX7_laySum 57 = .ok (.goto (-48), 3) := by decide +kernel
theorem dX7_laySum_60 : decode cX7_laySum 60 = .ok (.return_, 1) := by decide +kernel
theorem dX7_layThere_0 : decode cX7_layThere 0 = .ok (.aload_n 0, 1) := by decide +kernel
theorem dX7_layThere_1 : decode cX7_layThere 1 = .ok (.getfield 34, 3) := by decide +kernel
theorem dX7_layThere_4 : decode cX7_layThere 4 = .ok (.iconst 4, 1) := by decide +kernel
theorem dX7_layThere_5 : decode cX7_layThere 5 = .ok (.iload_n 1, 1) := by decide +kernel
theorem dX7_layThere_6 : decode cX7_layThere 6 = .ok (.imul, 1) := by decide +kernel
theorem dX7_layThere_7 : decode cX7_layThere 7 = .ok (.iload_n 2, 1) := by decide +kernel
theorem dX7_layThere_8 : decode cX7_layThere 8 = .ok (.iadd, 1) := by decide +kernel
theorem dX7_layThere_9 : decode cX7_layThere 9 = .ok (.iaload, 1) := by decide +kernel
theorem dX7_layThere_10 : decode cX7_layThere 10 = .ok (.istore_n 3, 1) := by decide +kernel
theorem dX7_layThere_11 : decode cX7_layThere 11 = .ok (.iconst 4, 1) := by decide +kernel
theorem dX7_layThere_12 : decode cX7_layThere 12 = .ok (.iload_n 1, 1) := by decide +kernel
theorem dX7_layThere_13 : decode cX7_layThere 13 = .ok (.imul, 1) := by decide +kernel
theorem dX7_layThere_14 : decode cX7_layThere 14 = .ok (.iload_n 2, 1) := by decide +kernel
theorem dX7_layThere_15 : decode cX7_layThere 15 = .ok (.iadd, 1) := by decide +kernel
theorem dX7_layThere_16 : decode cX7_layThere 16 = .ok (.istore 4, 2) := by decide +kernel
theorem dX7_layThere_18 : decode cX7_layThere 18 = .ok (.aload_n 0, 1) := by decide +kernel
theorem dX7_layThere_19 : decode cX7_layThere 19 = .ok (.getfield 206, 3) := by decide +kernel
theorem dX7_layThere_22 : decode cX7_layThere 22 = .ok (.iconst 2, 1) := by decide +kernel
theorem dX7_layThere_23 : decode cX7_layThere 23 = .ok (.if_icmp .ne 56, 3) := by decide +kernel
theorem dX7_layThere_26 : decode cX7_layThere 26 = .ok (.aload_n 0, 1) := by decide +kernel
theorem dX7_layThere_27 : decode cX7_layThere 27 = .ok (.iload_n 3, 1) := by decide +kernel
theorem dX7_layThere_28 : decode cX7_layThere 28 = .ok (.aload_n 0, 1) := by decide +kernel
theorem dX7_layThere_29 : decode cX7_layThere 29 = .ok (.getfield 190, 3) := by decide +kernel
theorem dX7_layThere_32 : decode cX7_layThere 32 = .ok (.bipush (-9), 2) := by decide +kernel
theorem dX7_layThere_34 : decode cX7_layThere 34 = .ok (.bipush 84, 2) := by decide +kernel
theorem dX7_layThere_36 : decode cX7_layThere 36 = .ok (.invokevirtual 220, 3) := by decide +kernel
theorem dX7_layThere_39 : decode cX7_layThere 39 = .ok (.aload_n 0, 1) := by decide +kernel
theorem dX7_layThere_40 : decode cX7_layThere 40 = .ok (.iconst 0, 1) := by decide +kernel
theorem dX7_layThere_41 : decode cX7_layThere 41 = .ok (.aload_n 0, 1) := by decide +kernel
theorem dX7_layThere_42 : decode cX7_layThere 42 = .ok (.getfield 25, 3) := by decide +kernel
theorem dX7_layThere_45 : decode cX7_layThere 45 = .ok (.iload_n 3, 1) := by decide +kernel
theorem dX7_layThere_46 : decode cX7_layThere 46 = .ok (.iaload, 1) := by decide +kernel
theorem dX7_layThere_47 : decode cX7_layThere 47 = .ok (.iconst 0, 1) := by decide +kernel
theorem dX7_layThere_48 : decode cX7_layThere 48 = .ok (.bipush 44, 2) := by decide +kernel
theorem dX7_layThere_50 : decode cX7_layThere 50 = .ok (.iload 4, 2) := by decide +kernel
theorem dX7_layThere_52 : decode cX7_layThere 52 = .ok (.iadd, 1) := by decide +kernel
theorem dX7_layThere_53 : decode cX7_layThere 53 = .ok (.invokevirtual 176, 3) := by decide +kernel
theorem dX7_layThere_56 : decode cX7_layThere 56 = .ok (.aload_n 0, 1) := by decide +kernel
theorem dX7_layThere_57 : decode cX7_layThere 57 = .ok (.getfield 40, 3) := by decide +kernel
theorem dX7_layThere_60 : decode cX7_layThere 60 = .ok (.iload 4, 2) := by decide +kernel
theorem dX7_layThere_62 : decode cX7_layThere 62 = .ok (.aload_n 0, 1) := by decide +kernel
theorem dX7_layThere_63 : decode cX7_layThere 63 = .ok (.bipush 84, 2) := by decide +kernel
theorem dX7_layThere_65 : decode cX7_layThere 65 = .ok (.bipush 44, 2) := by decide +kernel
theorem dX7_layThere_67 : decode cX7_layThere 67 = .ok (.iload 4, 2) := by decide +kernel
theorem dX7_layThere_69 : decode cX7_layThere 69 = .ok (.iadd, 1) := by decide +kernel
theorem dX7_layThere_70 : decode cX7_layThere 70 = .ok (.bipush 20, 2) := by decide +kernel
theorem dX7_layThere_72 : decode cX7_layThere 72 = .ok (.invokevirtual 182, 3) := by decide +kernel
theorem dX7_layThere_75 : decode cX7_layThere 75 = .ok (.iastore, 1) := by decide +kernel
theorem dX7_layThere_76 : decode cX7_layThere 76 = .ok (.goto 67, 3) := by decide +kernel
theorem dX7_layThere_79 : decode cX7_layThere 79 = .ok (.aload_n 0, 1) := by decide +kernel
theorem dX7_layThere_80 : decode cX7_layThere 80 = .ok (.iload_n 3, 1) := by decide +kernel
theorem dX7_layThere_81 : decode cX7_layThere 81 = .ok (.aload_n 0, 1) := by decide +kernel
theorem dX7_layThere_82 : decode cX7_layThere 82 = .ok (.getfield 206, 3) := by decide +kernel
theorem dX7_layThere_85 : decode cX7_layThere 85 = .ok (.ifCond .ne 7, 3) := by decide +kernel
theorem dX7_layThere_88 : decode cX7_layThere 88 = .ok (.iload_n 1, 1) := by decide +kernel
theorem dX7_layThere_89 : decode cX7_layThere 89 = .ok (.goto 7, 3) := by decide +kernel
theorem dX7_layThere_92 : decode cX7_layThere 92 = .ok (.aload_n 0, 1) := by decide +kernel
theorem dX7_layThere_93 : decode cX7_layThere 93 = .ok (.getfield 190, 3) := by decide +kernel
theorem dX7_layThere_96 : decode cX7_layThere 96 = .ok (.iload_n 1, 1) := by decide +kernel
theorem dX7_layThere_97 : decode cX7_layThere 97 = .ok (.bipush 84, 2) := by decide +kernel
theorem dX7_layThere_99 : decode cX7_layThere 99 = .ok (.invokevirtual 220, 3) := by decide +kernel
theorem dX7_layThere_102 : decode cX7_layThere 102 = .ok (.aload_n 0, 1) := by decide +kernel
theorem dX7_layThere_103 : decode cX7_layThere 103 = .ok (.iconst 4, 1) := by decide +kernel
theorem dX7_layThere_104 : decode cX7_layThere 104 = .ok (.aload_n 0, 1) := by decide +kernel
theorem dX7_layThere_105 : decode cX7_layThere 105 = .ok (.getfield 25, 3) := by decide +kernel
theorem dX7_layThere_108 : decode cX7_layThere 108 = .ok (.iload_n 3, 1) := by decide +kernel
theorem dX7_layThere_109 : decode cX7_layThere 109 = .ok (.iaload, 1) := by decide +kernel
theorem dX7_layThere_110 : decode cX7_layThere 110 = .ok (.bipush 84, 2) := by decide +kernel
theorem dX7_layThere_112 : decode cX7_layThere 112 = .ok (.bipush 44, 2) := by decide +kernel
theorem dX7_layThere_114 : decode cX7_layThere 114 = .ok (.iload 4, 2) := by decide +kernel
theorem dX7_layThere_116 : decode cX7_layThere 116 = .ok (.iadd, 1) := by decide +kernel
theorem dX7_layThere_117 : decode cX7_layThere 117 = .ok (.invokevirtual 157, 3) := by decide +kernel
theorem dX7_layThere_120 : decode cX7_layThere 120 = .ok (.aload_n 0, 1) := by decide +kernel
theorem dX7_layThere_121 : decode cX7_layThere 121 = .ok (.getfield 40, 3) := by decide +kernel
theorem dX7_layThere_124 : decode cX7_layThere 124 = .ok (.iload 4, 2) := by decide +kernel
theorem dX7_layThere_126 : decode cX7_layThere 126 = .ok (.aload_n 0, 1) := by decide +kernel
theorem dX7_layThere_127 : decode cX7_layThere 127 = .ok (.bipush 24, 2) := by decide +kernel
theorem dX7_layThere_129 : decode cX7_layThere 129 = .ok (.iload 4, 2) := by decide +kernel
theorem dX7_layThere_131 : decode cX7_layThere 131 = .ok (.iadd, 1) := by decide +kernel
theorem dX7_layThere_132 : decode cX7_layThere 132 = .ok (.bipush 44, 2) := by decide +kernel
theorem dX7_layThere_134 : decode cX7_layThere 134 = .ok (.iload 4, 2) := by decide +kernel
theorem dX7_layThere_136 : decode cX7_layThere 136 = .ok (.iadd, 1) := by decide +kernel
theorem dX7_layThere_137 : decode cX7_layThere 137 = .ok (.bipush 20, 2) := by decide +kernel
theorem dX7_layThere_139 : decode cX7_layThere 139 = .ok (.invokevirtual 182, 3) := by decide +kernel
theorem dX7_layThere_142 : decode cX7_layThere 142 = .ok (.iastore, 1) := by decide +kernel
theorem dX7_layThere_143 : decode cX7_layThere 143 = .ok (.aload_n 0, 1) := by decide +kernel
theorem dX7_layThere_144 : decode cX7_layThere 144 = .ok (.getfield 40, 3) := by decide +kernel
theorem dX7_layThere_147 : decode cX7_layThere 147 = .ok (.iload 4, 2) := by decide +kernel
theorem dX7_layThere_149 : decode cX7_layThere 149 = .ok (.iaload, 1) := by decide +kernel
theorem dX7_layThere_150 : decode cX7_layThere 150 = .ok (.ifCond .ge 5, 3) := by decide +kernel
theorem dX7_layThere_153 : decode cX7_layThere 153 = .ok (.iconst 0, 1) := by decide +kernel
theorem dX7_layThere_154 : decode cX7_layThere 154 = .ok (.ireturn, 1) := by decide +kernel
theorem dX7_layThere_155 : decode cX7_layThere 155 = .ok (.aload_n 0, 1) := by decide +kernel
theorem dX7_layThere_156 : decode cX7_layThere 156 = .ok (.getfield 206, 3) := by decide +kernel
theorem dX7_layThere_159 : decode cX7_layThere 159 = .ok (.iconst 2, 1) := by decide +kernel
theorem dX7_layThere_160 : decode cX7_layThere 160 = .ok (.if_icmp .ne 28, 3) := by decide +kernel
theorem dX7_layThere_163 : decode cX7_layThere 163 = .ok (.aload_n 0, 1) := by decide +kernel
theorem dX7_layThere_164 : decode cX7_layThere 164 = .ok (.iconst 1, 1) := by decide +kernel
theorem dX7_layThere_165 : decode cX7_layThere 165 = .ok (.bipush 24, 2) := by decide +kernel
theorem dX7_layThere_167 : decode cX7_layThere 167 = .ok (.iload 4, 2) := by decide +kernel
theorem dX7_layThere_169 : decode cX7_layThere 169 = .ok (.iadd, 1) := by decide +kernel
theorem dX7_layThere_170 : decode cX7_layThere 170 = .ok (.aload_n 0, 1) := by decide +kernel
theorem dX7_layThere_171 : decode cX7_layThere 171 = .ok (.getfield 40, 3) := by decide +kernel
theorem dX7_layThere_174 : decode cX7_layThere 174 = .ok (.iload 4, 2) := by decide +kernel
theorem dX7_layThere_176 : decode cX7_layThere 176 = .ok (.iaload, 1) := by decide +kernel
theorem dX7_layThere_177 : decode cX7_layThere 177 = .ok (.bipush 64, 2) := by decide +kernel
theorem dX7_layThere_179 : decode cX7_layThere 179 = .ok (.iload 4, 2) := by decide +kernel
theorem dX7_layThere_181 : decode cX7_layThere 181 = .ok (.iadd, 1) := by decide +kernel
theorem dX7_layThere_182 : decode cX7_layThere 182 = .ok (.invokevirtual 176, 3) := by decide +kernel
theorem dX7_layThere_185 : decode cX7_layThere 185 = .ok (.goto 23, 3) := by decide +kernel
theorem dX7_layThere_188 : decode cX7_layThere 188 = .ok (.aload_n 0, 1) := by decide +kernel
theorem dX7_layThere_189 : decode cX7_layThere 189 = .ok (.iconst 3, 1) := by decide +kernel
theorem dX7_layThere_190 : decode cX7_layThere 190 = .ok (.bipush 24, 2) := by decide +kernel
theorem dX7_layThere_192 : decode cX7_layThere 192 = .ok (.iload 4, 2) := by decide +kernel
theorem dX7_layThere_194 : decode cX7_layThere 194 = .ok (.iadd, 1) := by decide +kernel
theorem dX7_layThere_195 : decode cX7_layThere 195 = .ok (.bipush 44, 2) := by decide +kernel
theorem dX7_layThere_197 : decode cX7_layThere 197 = .ok (.iload 4, 2) := by decide +kernel
theorem dX7_layThere_199 : decode cX7_layThere 199 = .ok (.iadd, 1) := by decide +kernel
theorem dX7_layThere_200 : decode cX7_layThere 200 = .ok (.bipush 64, 2) := by decide +kernel
theorem dX7_layThere_202 : decode cX7_layThere 202 = .ok (.iload 4, 2) := by decide +kernel
theorem dX7_layThere_204 : decode cX7_layThere 204 = .ok (.iadd, 1) := by decide +kernel
theorem dX7_layThere_205 : decode cX7_layThere 205 = .ok (.invokevirtual 157, 3) := by decide +kernel
theorem dX7_layThere_208 : decode cX7_layThere 208 = .ok (.iconst 1, 1) := by decide +kernel
theorem dX7_layThere_209 : decode cX7_layThere 209 = .ok (.ireturn, 1) := by decide +kernel
theorem dX7_layComing_0 : decode cX7_layComing 0 = .ok (.iconst 0, 1) := by decide +kernel
theorem dX7_layComing_1 : decode cX7_layComing 1 = .ok (.istore_n 2, 1) := by decide +kernel
theorem dX7_layComing_2 : decode cX7_layComing 2 = .ok (.iload_n 2, 1) := by decide +kernel
theorem dX7_layComing_3 : decode cX7_layComing 3 = .ok (.aload_n 0, 1) := by decide +kernel
theorem dX7_layComing_4 : decode cX7_layComing 4 = .ok (.getfield 190, 3) := by decide +kernel
theorem dX7_layComing_7 : decode cX7_layComing 7 = .ok (.if_icmp .ge 57, 3) := by decide +kernel
theorem dX7_layComing_10 : decode cX7_layComing 10 = .ok (.aload_n 0, 1) := by decide +kernel
theorem dX7_layComing_11 : decode cX7_layComing 11 = .ok (.iload_n 2, 1) := by decide +kernel
theorem dX7_layComing_12 : decode cX7_layComing 12 = .ok (.iload_n 1, 1) := by decide +kernel
theorem dX7_layComing_13 : decode cX7_layComing 13 = .ok (.invokevirtual 217, 3) := by decide +kernel
theorem dX7_layComing_16 : decode cX7_layComing 16 = .ok (.istore_n 3, 1) := by decide +kernel
theorem dX7_layComing_17 : decode cX7_layComing 17 = .ok (.iload_n 3, 1) := by decide +kernel
theorem dX7_layComing_18 : decode cX7_layComing 18 = .ok (.ifCond .lt 40, 3) := by decide +kernel
theorem dX7_layComing_21 : decode cX7_layComing 21 = .ok (.aload_n 0, 1) := by decide +kernel
theorem dX7_layComing_22 : decode cX7_layComing 22 = .ok (.iconst 0, 1) := by decide +kernel
theorem dX7_layComing_23 : decode cX7_layComing 23 = .ok (.iload_n 3, 1) := by decide +kernel
theorem dX7_layComing_24 : decode cX7_layComing 24 = .ok (.ifCond .ne 12, 3) := by decide +kernel
theorem dX7_layComing_27 : decode cX7_layComing 27 = .ok (.aload_n 0, 1) := by decide +kernel
theorem dX7_layComing_28 : decode cX7_layComing 28 = .ok (.getfield 28, 3) := by decide +kernel
theorem dX7_layComing_31 : decode cX7_layComing 31 = .ok (.iload_n 2, 1) := by decide +kernel
theorem dX7_layComing_32 : decode cX7_layComing 32 = .ok (.iaload, 1) := by decide +kernel
theorem dX7_layComing_33 : decode cX7_layComing 33 = .ok (.goto 13, 3) := by decide +kernel
theorem dX7_layComing_36 : decode cX7_layComing 36 = .ok (.bipush 64, 2) := by decide +kernel
theorem dX7_layComing_38 : decode cX7_layComing 38 = .ok (.iconst 4, 1) := by decide +kernel
theorem dX7_layComing_39 : decode cX7_layComing 39 = .ok (.iload_n 2, 1) := by decide +kernel
theorem dX7_layComing_40 : decode cX7_layComing 40 = .ok (.imul, 1) := by decide +kernel
theorem dX7_layComing_41 : decode cX7_layComing 41 = .ok (.iadd, 1) := by decide +kernel
theorem dX7_layComing_42 : decode cX7_layComing 42 = .ok (.iload_n 3, 1) := by decide +kernel
theorem dX7_layComing_43 : decode cX7_layComing 43 = .ok (.iadd, 1) := by decide +kernel
theorem dX7_layComing_44 : decode cX7_layComing 44 = .ok (.iconst 1, 1) := by decide +kernel
theorem dX7_layComing_45 : decode cX7_layComing 45 = .ok (.isub, 1) := by decide +kernel
theorem dX7_layComing_46 : decode cX7_layComing 46 = .ok (.iconst 0, 1) := by decide +kernel
theorem dX7_layComing_47 : decode cX7_layComing 47 = .ok (.bipush 24, 2) := by decide +kernel
theorem dX7_layComing_49 : decode cX7_layComing 49 = .ok (.iconst 4, 1) := by decide +kernel
theorem dX7_layComing_50 : decode cX7_layComing 50 = .ok (.iload_n 2, 1) := by decide +kernel
theorem dX7_layComing_51 : decode cX7_layComing 51 = .ok (.imul, 1) := by decide +kernel
theorem dX7_layComing_52 : decode cX7_layComing 52 = .ok (.iadd, 1) := by decide +kernel
theorem dX7_layComing_53 : decode cX7_layComing 53 = .ok (.iload_n 3, 1) := by decide +kernel
theorem dX7_layComing_54 : decode cX7_layComing 54 = .ok (.iadd, 1) := by decide +kernel
theorem dX7_layComing_55 : decode cX7_layComing 55 = .ok (.invokevirtual 176, 3) := by decide +kernel
theorem dX7_layComing_58 : decode cX7_layComing 58 = .ok (.iinc 2 1, 3) := by decide +kernel
theorem dX7_layComing_61 : decode cX7_layComing 61 = .ok (.goto (-59), 3) := by decide +kernel
theorem dX7_layComing_64 : decode cX7_layComing 64 = .ok (.return_, 1) := by decide +kernel
theorem dX7_layAll_0 : decode cX7_layAll 0 = .ok (.aload_n 0, 1) := by decide +kernel
theorem dX7_layAll_1 : decode cX7_layAll 1 = .ok (.invokevirtual 209, 3) := by decide +kernel
theorem dX7_layAll_4 : decode cX7_layAll 4 = .ok (.ifCond .eq 14, 3) := by decide +kernel
theorem dX7_layAll_7 : decode cX7_layAll 7 = .ok (.aload_n 0, 1) := by decide +kernel
theorem dX7_layAll_8 : decode cX7_layAll 8 = .ok (.invokevirtual 223, 3) := by decide +kernel
theorem dX7_layAll_11 : decode cX7_layAll 11 = .ok (.ifCond .eq 7, 3) := by decide +kernel
theorem dX7_layAll_14 : decode cX7_layAll 14 = .ok (.iconst 1, 1) := by decide +kernel
theorem dX7_layAll_15 : decode cX7_layAll 15 = .ok (.goto 4, 3) := by decide +kernel
theorem dX7_layAll_18 : decode cX7_layAll 18 = .ok (.iconst 0, 1) := by decide +kernel
theorem dX7_layAll_19 : decode cX7_layAll 19 = .ok (.istore_n 1, 1) := by decide +kernel
theorem dX7_layAll_20 : decode cX7_layAll 20 = .ok (.iconst 0, 1) := by decide +kernel
theorem dX7_layAll_21 : decode cX7_layAll 21 = .ok (.istore_n 2, 1) := by decide +kernel
theorem dX7_layAll_22 : decode cX7_layAll 22 = .ok (.iload_n 2, 1) := by decide +kernel
theorem dX7_layAll_23 : decode cX7_layAll 23 = .ok (.bipush 6, 2) := by decide +kernel
theorem dX7_layAll_25 : decode cX7_layAll 25 = .ok (.if_icmp .ge 95, 3) := by decide +kernel
theorem dX7_layAll_28 : decode cX7_layAll 28 = .ok (.iconst 0, 1) := by decide +kernel
theorem dX7_layAll_29 : decode cX7_layAll 29 = .ok (.istore_n 3, 1) := by decide +kernel
theorem dX7_layAll_30 : decode cX7_layAll 30 = .ok (.iload_n 3, 1) := by decide +kernel
theorem dX7_layAll_31 : decode cX7_layAll 31 = .ok (.bipush 6, 2) := by decide +kernel
theorem dX7_layAll_33 : decode cX7_layAll 33 = .ok (.if_icmp .ge 81, 3) := by decide +kernel
theorem dX7_layAll_36 : decode cX7_layAll 36 = .ok (.iload_n 1, 1) := by decide +kernel
theorem dX7_layAll_37 : decode cX7_layAll 37 = .ok (.ifCond .eq 71, 3) := by decide +kernel
theorem dX7_layAll_40 : decode cX7_layAll 40 = .ok (.aload_n 0, 1) := by decide +kernel
theorem dX7_layAll_41 : decode cX7_layAll 41 = .ok (.getfield 37, 3) := by decide +kernel
theorem dX7_layAll_44 : decode cX7_layAll 44 = .ok (.iload_n 3, 1) := by decide +kernel
theorem dX7_layAll_45 : decode cX7_layAll 45 = .ok (.iaload, 1) := by decide +kernel
theorem dX7_layAll_46 : decode cX7_layAll 46 = .ok (.iload_n 2, 1) := by decide +kernel
theorem dX7_layAll_47 : decode cX7_layAll 47 = .ok (.if_icmp .ne 61, 3) := by decide +kernel
theorem dX7_layAll_50 : decode cX7_layAll 50 = .ok (.aload_n 0, 1) := by decide +kernel
theorem dX7_layAll_51 : decode cX7_layAll 51 = .ok (.iload_n 3, 1) := by decide +kernel
theorem dX7_layAll_52 : decode cX7_layAll 52 = .ok (.invokevirtual 226, 3) := by decide +kernel
theorem dX7_layAll_55 : decode cX7_layAll 55 = .ok (.iconst 0, 1) := by decide +kernel
theorem dX7_layAll_56 : decode cX7_layAll 56 = .ok (.istore 4, 2) := by decide +kernel
theorem dX7_layAll_58 : decode cX7_layAll 58 = .ok (.iload 4, 2) := by decide +kernel
theorem dX7_layAll_60 : decode cX7_layAll 60 = .ok (.aload_n 0, 1) := by decide +kernel
theorem dX7_layAll_61 : decode cX7_layAll 61 = .ok (.getfield 190, 3) := by decide +kernel
theorem dX7_layAll_64 : decode cX7_layAll 64 = .ok (.if_icmp .ge 44, 3) := by decide +kernel
theorem dX7_layAll_67 : decode cX7_layAll 67 = .ok (.aload_n 0, 1) := by decide +kernel
theorem dX7_layAll_68 : decode cX7_layAll 68 = .ok (.iload 4, 2) := by decide +kernel
theorem dX7_layAll_70 : decode cX7_layAll 70 = .ok (.iload_n 3, 1) := by decide +kernel
theorem dX7_layAll_71 : decode cX7_layAll 71 = .ok (.invokevirtual 217, 3) := by decide +kernel
theorem dX7_layAll_74 : decode cX7_layAll 74 = .ok (.istore 5, 2) := by decide +kernel
theorem dX7_layAll_76 : decode cX7_layAll 76 = .ok (.iload_n 1, 1) := by decide +kernel
theorem dX7_layAll_77 : decode cX7_layAll 77 = .ok (.ifCond .eq 23, 3) := by decide +kernel
theorem dX7_layAll_80 : decode cX7_layAll 80 = .ok (.iload 5, 2) := by decide +kernel
theorem dX7_layAll_82 : decode cX7_layAll 82 = .ok (.ifCond .lt 14, 3) := by decide +kernel
theorem dX7_layAll_85 : decode cX7_layAll 85 = .ok (.aload_n 0, 1) := by decide +kernel
theorem dX7_layAll_86 : decode cX7_layAll 86 = .ok (.iload 4, 2) := by decide +kernel
theorem dX7_layAll_88 : decode cX7_layAll 88 = .ok (.iload 5, 2) := by decide +kernel
theorem dX7_layAll_90 : decode cX7_layAll 90 = .ok (.invokevirtual 229, 3) := by decide +kernel
theorem dX7_layAll_93 : decode cX7_layAll 93 = .ok (.ifCond .eq 7, 3) := by decide +kernel
theorem dX7_layAll_96 : decode cX7_layAll 96 = .ok (.iconst 1, 1) := by decide +kernel
theorem dX7_layAll_97 : decode cX7_layAll 97 = .ok (.goto 4, 3) := by decide +kernel
theorem dX7_layAll_100 : decode cX7_layAll 100 = .ok (.iconst 0, 1) := by decide +kernel
theorem dX7_layAll_101 : decode cX7_layAll 101 = .ok (.istore_n 1, 1) := by decide +kernel
theorem dX7_layAll_102 : decode cX7_layAll 102 = .ok (.iinc 4 1, 3) := by decide +kernel
theorem dX7_layAll_105 : decode cX7_layAll 105 = .ok (.goto (-47), 3) := by decide +kernel
theorem dX7_layAll_108 : decode cX7_layAll 108 = .ok (.iinc 3 1, 3) := by decide +kernel
theorem dX7_layAll_111 : decode cX7_layAll 111 = .ok (.goto (-81), 3) := by decide +kernel
theorem dX7_layAll_114 : decode cX7_layAll 114 = .ok (.iinc 2 1, 3) := by decide +kernel
theorem dX7_layAll_117 : decode cX7_layAll 117 = .ok (.goto (-95), 3) := by decide +kernel
theorem dX7_layAll_120 : decode cX7_layAll 120 = .ok (.iload_n 1, 1) := by decide +kernel
theorem dX7_layAll_121 : decode cX7_layAll 121 = .ok (.ireturn, 1) := by decide +kernel
theorem dX7_noStep_0 : decode cX7_noStep 0 = .ok (.aload_n 0, 1) := by decide +kernel
theorem dX7_noStep_1 : decode cX7_noStep 1 = .ok (.iload_n 1, 1) := by decide +kernel
theorem dX7_noStep_2 : decode cX7_noStep 2 = .ok (.invokevirtual 199, 3) := by decide +kernel
theorem dX7_noStep_5 : decode cX7_noStep 5 = .ok (.ifCond .ne 21, 3) := by decide +kernel
theorem dX7_noStep_8 : decode cX7_noStep 8 = .ok (.iload_n 2, 1) := by decide +kernel
theorem dX7_noStep_9 : decode cX7_noStep 9 = .ok (.i2l, 1) := by decide +kernel
theorem dX7_noStep_10 : decode cX7_noStep 10 = .ok (.lconst 0, 1) := by decide +kernel
theorem dX7_noStep_11 : decode cX7_noStep 11 = .ok (.aload_n 0, 1) := by decide +kernel
theorem dX7_noStep_12 : decode cX7_noStep 12 = .ok (.getfield 31, 3) := by decide +kernel
theorem dX7_noStep_15 : decode cX7_noStep 15 = .ok (.iload_n 1, 1) := by decide +kernel
theorem dX7_noStep_16 : decode cX7_noStep 16 = .ok (.iaload, 1) := by decide +kernel
theorem dX7_noStep_17 : decode cX7_noStep 17 = .ok (.i2l, 1) := by decide +kernel
theorem dX7_noStep_18 : decode cX7_noStep 18 = .ok (.lconst 1, 1) := by decide +kernel
theorem dX7_noStep_19 : decode cX7_noStep 19 = .ok (.lsub, 1) := by decide +kernel
theorem dX7_noStep_20 : decode cX7_noStep 20 = .ok (.invokestatic 67, 3) := by decide +kernel
theorem dX7_noStep_23 : decode cX7_noStep 23 = .ok (.ifCond .ne 7, 3) := by decide +kernel
theorem dX7_noStep_26 : decode cX7_noStep 26 = .ok (.iconst 1, 1) := by decide +kernel
theorem dX7_noStep_27 : decode cX7_noStep 27 = .ok (.goto 4, 3) := by decide +kernel
theorem dX7_noStep_30 : decode cX7_noStep 30 = .ok (.iconst 0, 1) := by decide +kernel
theorem dX7_noStep_31 : decode cX7_noStep 31 = .ok (.ireturn, 1) := by decide +kernel
theorem dX7_latest_0 : decode cX7_latest 0 = .ok (.aload_n 0, 1) := by decide +kernel
theorem dX7_latest_1 : decode cX7_latest 1 = .ok (.iload_n 1, 1) := by decide +kernel
theorem dX7_latest_2 : decode cX7_latest 2 = .ok (.iload_n 2, 1) := by decide +kernel
theorem dX7_latest_3 : decode cX7_latest 3 = .ok (.invokevirtual 232, 3) := by decide +kernel
theorem dX7_latest_6 : decode cX7_latest 6 = .ok (.ifCond .eq 5, 3) := by decide +kernel
theorem dX7_latest_9 : decode cX7_latest 9 = .ok (.iconst (-1), 1) := by decide +kernel
theorem dX7_latest_10 : decode cX7_latest 10 = .ok (.ireturn, 1) := by decide +kernel
theorem dX7_latest_11 : decode cX7_latest 11 = .ok (.aload_n 0, 1) := by decide +kernel
theorem dX7_latest_12 : decode cX7_latest 12 = .ok (.invokevirtual 235, 3) := by decide +kernel
theorem dX7_latest_15 : decode cX7_latest 15 = .ok (.ifCond .eq 16, 3) := by decide +kernel
theorem dX7_latest_18 : decode cX7_latest 18 = .ok (.aload_n 0, 1) := by decide +kernel
theorem dX7_latest_19 : decode cX7_latest 19 = .ok (.getfield 40, 3) := by decide +kernel
theorem dX7_latest_22 : decode cX7_latest 22 = .ok (.iconst 4, 1) := by decide +kernel
theorem dX7_latest_23 : decode cX7_latest 23 = .ok (.iload_n 1, 1) := by decide +kernel
theorem dX7_latest_24 : decode cX7_latest 24 = .ok (.imul, 1) := by decide +kernel
theorem dX7_latest_25 : decode cX7_latest 25 = .ok (.iload_n 2, 1) := by decide +kernel
theorem dX7_latest_26 : decode cX7_latest 26 = .ok (.iadd, 1) := by decide +kernel
theorem dX7_latest_27 : decode cX7_latest 27 = .ok (.iaload, 1) := by decide +kernel
theorem dX7_latest_28 : decode cX7_latest 28 = .ok (.goto 5, 3) := by decide +kernel
theorem dX7_latest_31 : decode cX7_latest 31 = .ok (.bipush (-3), 2) := by decide +kernel
theorem dX7_latest_33 : decode cX7_latest 33 = .ok (.ireturn, 1) := by decide +kernel
theorem dX7_there_0 : decode cX7_there 0 = .ok (.aload_n 0, 1) := by decide +kernel
theorem dX7_there_1 : decode cX7_there 1 = .ok (.iload_n 1, 1) := by decide +kernel
theorem dX7_there_2 : decode cX7_there 2 = .ok (.iload_n 2, 1) := by decide +kernel
theorem dX7_there_3 : decode cX7_there 3 = .ok (.invokevirtual 232, 3) := by decide +kernel
theorem dX7_there_6 : decode cX7_there 6 = .ok (.ifCond .eq 5, 3) := by decide +kernel
theorem dX7_there_9 : decode cX7_there 9 = .ok (.iconst (-1), 1) := by decide +kernel
theorem dX7_there_10 : decode cX7_there 10 = .ok (.ireturn, 1) := by decide +kernel
theorem dX7_there_11 : decode cX7_there 11 = .ok (.iload_n 3, 1) := by decide +kernel
theorem dX7_there_12 : decode cX7_there 12 = .ok (.i2l, 1) := by decide +kernel
theorem dX7_there_13 : decode cX7_there 13 = .ok (.lconst 0, 1) := by decide +kernel
theorem dX7_there_14 : decode cX7_there 14 = .ok (.ldc2_w 65, 3) := by decide +kernel
theorem dX7_there_17 : decode cX7_there 17 = .ok (.invokestatic 67, 3) := by decide +kernel
theorem dX7_there_20 : decode cX7_there 20 = .ok (.ifCond .eq 16, 3) := by decide +kernel
theorem dX7_there_23 : decode cX7_there 23 = .ok (.iload 4, 2) := by decide +kernel
theorem dX7_there_25 : decode cX7_there 25 = .ok (.i2l, 1) := by decide +kernel
theorem dX7_there_26 : decode cX7_there 26 = .ok (.lconst 0, 1) := by decide +kernel
theorem dX7_there_27 : decode cX7_there 27 = .ok (.ldc2_w 92, 3) := by decide +kernel
theorem dX7_there_30 : decode cX7_there 30 = .ok (.invokestatic 67, 3) := by decide +kernel
theorem dX7_there_33 : decode cX7_there 33 = .ok (.ifCond .ne 6, 3) := by decide +kernel
theorem dX7_there_36 : decode cX7_there 36 = .ok (.bipush (-2), 2) := by decide +kernel
theorem dX7_there_38 : decode cX7_there 38 = .ok (.ireturn, 1) := by decide +kernel
theorem dX7_there_39 : decode cX7_there 39 = .ok (.aload_n 0, 1) := by decide +kernel
theorem dX7_there_40 : decode cX7_there 40 = .ok (.invokevirtual 235, 3) := by decide +kernel
theorem dX7_there_43 : decode cX7_there 43 = .ok (.ifCond .ne 6, 3) := by decide +kernel
theorem dX7_there_46 : decode cX7_there 46 = .ok (.bipush (-3), 2) := by decide +kernel
theorem dX7_there_48 : decode cX7_there 48 = .ok (.ireturn, 1) := by decide +kernel
theorem dX7_there_49 : decode cX7_there 49 = .ok (.aload_n 0, 1) := by decide +kernel
theorem dX7_there_50 : decode cX7_there 50 = .ok (.iload_n 3, 1) := by decide +kernel
theorem dX7_there_51 : decode cX7_there 51 = .ok (.ifCond .ne 8, 3) := by decide +kernel
theorem dX7_there_54 : decode cX7_there 54 = .ok (.bipush 24, 2) := by decide +kernel
theorem dX7_there_56 : decode cX7_there 56 = .ok (.goto 15, 3) := by decide +kernel
theorem dX7_there_59 : decode cX7_there 59 = .ok (.iload_n 3, 1) := by decide +kernel
theorem dX7_there_60 : decode cX7_there 60 = .ok (.iconst 1, 1) := by decide +kernel
theorem dX7_there_61 : decode cX7_there 61 = .ok (.if_icmp .ne 8, 3) := by decide +kernel
theorem dX7_there_64 : decode cX7_there 64 = .ok (.bipush 44, 2) := by decide +kernel
theorem dX7_there_66 : decode cX7_there 66 = .ok (.goto 5, 3) := by decide +kernel
theorem dX7_there_69 : decode cX7_there 69 = .ok (.bipush 64, 2) := by decide +kernel
theorem dX7_there_71 : decode cX7_there 71 = .ok (.iconst 4, 1) := by decide +kernel
theorem dX7_there_72 : decode cX7_there 72 = .ok (.iload_n 1, 1) := by decide +kernel
theorem dX7_there_73 : decode cX7_there 73 = .ok (.imul, 1) := by decide +kernel
theorem dX7_there_74 : decode cX7_there 74 = .ok (.iadd, 1) := by decide +kernel
theorem dX7_there_75 : decode cX7_there 75 = .ok (.iload_n 2, 1) := by decide +kernel
theorem dX7_there_76 : decode cX7_there 76 = .ok (.iadd, 1) := by decide +kernel
theorem dX7_there_77 : decode cX7_there 77 = .ok (.iload 4, 2) := by decide +kernel
theorem dX7_there_79 : decode cX7_there 79 = .ok (.invokevirtual 108, 3) := by decide +kernel
theorem dX7_there_82 : decode cX7_there 82 = .ok (.ireturn, 1) := by decide +kernel
theorem dX7_heapAt_0 : decode cX7_heapAt 0 = .ok (.iload_n 1, 1) := by decide +kernel
theorem dX7_heapAt_1 : decode cX7_heapAt 1 = .ok (.invokestatic 193, 3) := by decide +kernel
theorem dX7_heapAt_4 : decode cX7_heapAt 4 = .ok (.ifCond .eq 5, 3) := by decide +kernel
theorem dX7_heapAt_7 : decode cX7_heapAt 7 = .ok (.iconst (-1), 1) := by decide +kernel
theorem dX7_heapAt_8 : decode cX7_heapAt 8 = .ok (.ireturn, 1) := by decide +kernel
theorem dX7_heapAt_9 : decode cX7_heapAt 9 = .ok (.aload_n 0, 1) := by decide +kernel
theorem dX7_heapAt_10 : decode cX7_heapAt 10 = .ok (.getfield 25, 3) := by decide +kernel
theorem dX7_heapAt_13 : decode cX7_heapAt 13 = .ok (.iload_n 1, 1) := by decide +kernel
theorem dX7_heapAt_14 : decode cX7_heapAt 14 = .ok (.iaload, 1) := by decide +kernel
theorem dX7_heapAt_15 : decode cX7_heapAt 15 = .ok (.ifCond .lt 10, 3) := by decide +kernel
theorem dX7_heapAt_18 : decode cX7_heapAt 18 = .ok (.aload_n 0, 1) := by decide +kernel
theorem dX7_heapAt_19 : decode cX7_heapAt 19 = .ok (.invokevirtual 235, 3) := by decide +kernel
theorem dX7_heapAt_22 : decode cX7_heapAt 22 = .ok (.ifCond .ne 6, 3) := by decide +kernel
theorem dX7_heapAt_25 : decode cX7_heapAt 25 = .ok (.bipush (-3), 2) := by decide +kernel
theorem dX7_heapAt_27 : decode cX7_heapAt 27 = .ok (.ireturn, 1) := by decide +kernel
theorem dX7_heapAt_28 : decode cX7_heapAt 28 = .ok (.aload_n 0, 1) := by decide +kernel
theorem dX7_heapAt_29 : decode cX7_heapAt 29 = .ok (.iload_n 1, 1) := by decide +kernel
theorem dX7_heapAt_30 : decode cX7_heapAt 30 = .ok (.aload_n 0, 1) := by decide +kernel
theorem dX7_heapAt_31 : decode cX7_heapAt 31 = .ok (.getfield 190, 3) := by decide +kernel
theorem dX7_heapAt_34 : decode cX7_heapAt 34 = .ok (.bipush (-9), 2) := by decide +kernel
theorem dX7_heapAt_36 : decode cX7_heapAt 36 = .ok (.bipush 84, 2) := by decide +kernel
theorem dX7_heapAt_38 : decode cX7_heapAt 38 = .ok (.invokevirtual 220, 3) := by decide +kernel
theorem dX7_heapAt_41 : decode cX7_heapAt 41 = .ok (.aload_n 0, 1) := by decide +kernel
theorem dX7_heapAt_42 : decode cX7_heapAt 42 = .ok (.bipush 84, 2) := by decide +kernel
theorem dX7_heapAt_44 : decode cX7_heapAt 44 = .ok (.aload_n 0, 1) := by decide +kernel
theorem dX7_heapAt_45 : decode cX7_heapAt 45 = .ok (.getfield 25, 3) := by decide +kernel
theorem dX7_heapAt_48 : decode cX7_heapAt 48 = .ok (.iload_n 1, 1) := by decide +kernel
theorem dX7_heapAt_49 : decode cX7_heapAt 49 = .ok (.iaload, 1) := by decide +kernel
theorem dX7_heapAt_50 : decode cX7_heapAt 50 = .ok (.invokevirtual 185, 3) := by decide +kernel
theorem dX7_heapAt_53 : decode cX7_heapAt 53 = .ok (.ireturn, 1) := by decide +kernel
theorem dX7_bound_0 : decode cX7_bound 0 = .ok (.aload_n 0, 1) := by decide +kernel
theorem dX7_bound_1 : decode cX7_bound 1 = .ok (.iload_n 1, 1) := by decide +kernel
theorem dX7_bound_2 : decode cX7_bound 2 = .ok (.invokevirtual 199, 3) := by decide +kernel
theorem dX7_bound_5 : decode cX7_bound 5 = .ok (.ifCond .eq 5, 3) := by decide +kernel
theorem dX7_bound_8 : decode cX7_bound 8 = .ok (.iconst (-1), 1) := by decide +kernel
theorem dX7_bound_9 : decode cX7_bound 9 = .ok (.ireturn, 1) := by decide +kernel
theorem dX7_bound_10 : decode cX7_bound 10 = .ok (.iload_n 2, 1) := by decide +kernel
theorem dX7_bound_11 : decode cX7_bound 11 = .ok (.i2l, 1) := by decide +kernel
theorem dX7_bound_12 : decode cX7_bound 12 = .ok (.lconst 0, 1) := by decide +kernel
theorem dX7_bound_13 : decode cX7_bound 13 = .ok (.lconst 1, 1) := by decide +kernel
theorem dX7_bound_14 : decode cX7_bound 14 = .ok (.invokestatic 67, 3) := by decide +kernel
theorem dX7_bound_17 : decode cX7_bound 17 = .ok (.ifCond .ne 6, 3) := by decide +kernel
theorem dX7_bound_20 : decode cX7_bound 20 = .ok (.bipush (-2), 2) := by decide +kernel
theorem dX7_bound_22 : decode cX7_bound 22 = .ok (.ireturn, 1) := by decide +kernel
theorem dX7_bound_23 : decode cX7_bound 23 = .ok (.iload_n 2, 1) := by decide +kernel
theorem dX7_bound_24 : decode cX7_bound 24 = .ok (.iconst 1, 1) := by decide +kernel
theorem dX7_bound_25 : decode cX7_bound 25 = .ok (.if_icmp .ne 11, 3) := by decide +kernel
theorem dX7_bound_28 : decode cX7_bound 28 = .ok (.aload_n 0, 1) := by decide +kernel
theorem dX7_bound_29 : decode cX7_bound 29 = .ok (.getfield 206, 3) := by decide +kernel
theorem dX7_bound_32 : decode cX7_bound 32 = .ok (.iconst 2, 1) := by decide +kernel
theorem dX7_bound_33 : decode cX7_bound 33 = .ok (.if_icmp .eq 10, 3) := by decide +kernel
theorem dX7_bound_36 : decode cX7_bound 36 = .ok (.aload_n 0, 1) := by decide +kernel
theorem dX7_bound_37 : decode cX7_bound 37 = .ok (.invokevirtual 235, 3) := by decide +kernel
theorem dX7_bound_40 : decode cX7_bound 40 = .ok (.ifCond .ne 6, 3) := by decide +kernel
theorem dX7_bound_43 : decode cX7_bound 43 = .ok (.bipush (-3), 2) := by decide +kernel
theorem dX7_bound_45 : decode cX7_bound 45 = .ok (.ireturn, 1) := by decide +kernel
theorem dX7_bound_46 : decode cX7_bound 46 = .ok (.iconst 0, 1) := by decide +kernel
theorem dX7_bound_47 : decode cX7_bound 47 = .ok (.istore_n 3, 1) := by decide +kernel
theorem dX7_bound_48 : decode cX7_bound 48 = .ok (.aload_n 0, 1) := by decide +kernel
theorem dX7_bound_49 : decode cX7_bound 49 = .ok (.iconst 0, 1) := by decide +kernel
theorem dX7_bound_50 : decode cX7_bound 50 = .ok (.bipush 44, 2) := by decide +kernel
theorem dX7_bound_52 : decode cX7_bound 52 = .ok (.iconst 4, 1) := by decide +kernel
theorem dX7_bound_53 : decode cX7_bound 53 = .ok (.iload_n 1, 1) := by decide +kernel
theorem dX7_bound_54 : decode cX7_bound 54 = .ok (.imul, 1) := by decide +kernel
theorem dX7_bound_55 : decode cX7_bound 55 = .ok (.iadd, 1) := by decide +kernel
theorem dX7_bound_56 : decode cX7_bound 56 = .ok (.iconst 0, 1) := by decide +kernel
theorem dX7_bound_57 : decode cX7_bound 57 = .ok (.bipush 85, 2) := by decide +kernel
theorem dX7_bound_59 : decode cX7_bound 59 = .ok (.invokevirtual 176, 3) := by decide +kernel
theorem dX7_bound_62 : decode cX7_bound 62 = .ok (.iconst 0, 1) := by decide +kernel
theorem dX7_bound_63 : decode cX7_bound 63 = .ok (.istore 4, 2) := by decide +kernel
theorem dX7_bound_65 : decode cX7_bound 65 = .ok (.iload 4, 2) := by decide +kernel
theorem dX7_bound_67 : decode cX7_bound 67 = .ok (.aload_n 0, 1) := by decide +kernel
theorem dX7_bound_68 : decode cX7_bound 68 = .ok (.getfield 31, 3) := by decide +kernel
theorem dX7_bound_71 : decode cX7_bound 71 = .ok (.iload_n 1, 1) := by decide +kernel
theorem dX7_bound_72 : decode cX7_bound 72 = .ok (.iaload, 1) := by decide +kernel
theorem dX7_bound_73 : decode cX7_bound 73 = .ok (.if_icmp .ge 56, 3) := by decide +kernel
theorem dX7_bound_76 : decode cX7_bound 76 = .ok (.iload_n 3, 1) := by decide +kernel
theorem dX7_bound_77 : decode cX7_bound 77 = .ok (.aload_n 0, 1) := by decide +kernel
theorem dX7_bound_78 : decode cX7_bound 78 = .ok (.getfield 40, 3) := by decide +kernel
theorem dX7_bound_81 : decode cX7_bound 81 = .ok (.iconst 4, 1) := by decide +kernel
theorem dX7_bound_82 : decode cX7_bound 82 = .ok (.iload_n 1, 1) := by decide +kernel
theorem dX7_bound_83 : decode cX7_bound 83 = .ok (.imul, 1) := by decide +kernel
theorem dX7_bound_84 : decode cX7_bound 84 = .ok (.iload 4, 2) := by decide +kernel
theorem dX7_bound_86 : decode cX7_bound 86 = .ok (.iadd, 1) := by decide +kernel
theorem dX7_bound_87 : decode cX7_bound 87 = .ok (.iaload, 1) := by decide +kernel
theorem dX7_bound_88 : decode cX7_bound 88 = .ok (.iadd, 1) := by decide +kernel
theorem dX7_bound_89 : decode cX7_bound 89 = .ok (.istore_n 3, 1) := by decide +kernel
theorem dX7_bound_90 : decode cX7_bound 90 = .ok (.iload 4, 2) := by decide +kernel
theorem dX7_bound_92 : decode cX7_bound 92 = .ok (.ifCond .le 31, 3) := by decide +kernel
theorem dX7_bound_95 : decode cX7_bound 95 = .ok (.aload_n 0, 1) := by decide +kernel
theorem dX7_bound_96 : decode cX7_bound 96 = .ok (.iconst 2, 1) := by decide +kernel
theorem dX7_bound_97 : decode cX7_bound 97 = .ok (.bipush 85, 2) := by decide +kernel
theorem dX7_bound_99 : decode cX7_bound 99 = .ok (.bipush 44, 2) := by decide +kernel
theorem dX7_bound_101 : decode cX7_bound 101 = .ok (.iconst 4, 1) := by decide +kernel
theorem dX7_bound_102 : decode cX7_bound 102 = .ok (.iload_n 1, 1) := by decide +kernel
theorem dX7_bound_103 : decode cX7_bound 103 = .ok (.imul, 1) := by decide +kernel
theorem dX7_bound_104 : decode cX7_bound 104 = .ok (.iadd, 1) := by decide +kernel
theorem dX7_bound_105 : decode cX7_bound 105 = .ok (.iload 4, 2) := by decide +kernel
theorem dX7_bound_107 : decode cX7_bound 107 = .ok (.iadd, 1) := by decide +kernel
theorem dX7_bound_108 : decode cX7_bound 108 = .ok (.bipush 86, 2) := by decide +kernel
theorem dX7_bound_110 : decode cX7_bound 110 = .ok (.invokevirtual 157, 3) := by decide +kernel
theorem dX7_bound_113 : decode cX7_bound 113 = .ok (.aload_n 0, 1) := by decide +kernel
theorem dX7_bound_114 : decode cX7_bound 114 = .ok (.iconst 0, 1) := by decide +kernel
theorem dX7_bound_115 : decode cX7_bound 115 = .ok (.bipush 86, 2) := by decide +kernel
theorem dX7_bound_117 : decode cX7_bound 117 = .ok (.iconst 0, 1) := by decide +kernel
theorem dX7_bound_118 : decode cX7_bound 118 = .ok (.bipush 85, 2) := by decide +kernel
theorem dX7_bound_120 : decode cX7_bound 120 = .ok (.invokevirtual 176, 3) := by decide +kernel
theorem dX7_bound_123 : decode cX7_bound 123 = .ok (.iinc 4 1, 3) := by decide +kernel
theorem dX7_bound_126 : decode cX7_bound 126 = .ok (.goto (-61), 3) := by decide +kernel
theorem dX7_bound_129 : decode cX7_bound 129 = .ok (.iload_n 2, 1) := by decide +kernel
theorem dX7_bound_130 : decode cX7_bound 130 = .ok (.ifCond .ne 7, 3) := by decide +kernel
theorem dX7_bound_133 : decode cX7_bound 133 = .ok (.iload_n 3, 1) := by decide +kernel
theorem dX7_bound_134 : decode cX7_bound 134 = .ok (.goto 17, 3) := by decide +kernel
theorem dX7_bound_137 : decode cX7_bound 137 = .ok (.aload_n 0, 1) := by decide +kernel
theorem dX7_bound_138 : decode cX7_bound 138 = .ok (.aload_n 0, 1) := by decide +kernel
theorem dX7_bound_139 : decode cX7_bound 139 = .ok (.getfield 28, 3) := by decide +kernel
theorem dX7_bound_142 : decode cX7_bound 142 = .ok (.iload_n 1, 1) := by decide +kernel
theorem dX7_bound_143 : decode cX7_bound 143 = .ok (.iaload, 1) := by decide +kernel
theorem dX7_bound_144 : decode cX7_bound 144 = .ok (.bipush 85, 2) := by decide +kernel
theorem dX7_bound_146 : decode cX7_bound 146 = .ok (.bipush 20, 2) := by decide +kernel
theorem dX7_bound_148 : decode cX7_bound 148 = .ok (.invokevirtual 182, 3) := by decide +kernel
theorem dX7_bound_151 : decode cX7_bound 151 = .ok (.ireturn, 1) := by decide +kernel
theorem dX7_see_0 : decode cX7_see 0 = .ok (.iload_n 1, 1) := by decide +kernel
theorem dX7_see_1 : decode cX7_see 1 = .ok (.invokestatic 96, 3) := by decide +kernel
theorem dX7_see_4 : decode cX7_see 4 = .ok (.ifCond .eq 9, 3) := by decide +kernel
theorem dX7_see_7 : decode cX7_see 7 = .ok (.aload_n 0, 1) := by decide +kernel
theorem dX7_see_8 : decode cX7_see 8 = .ok (.iconst (-1), 1) := by decide +kernel
theorem dX7_see_9 : decode cX7_see 9 = .ok (.invokevirtual 71, 3) := by decide +kernel
theorem dX7_see_12 : decode cX7_see 12 = .ok (.ireturn, 1) := by decide +kernel
theorem dX7_see_13 : decode cX7_see 13 = .ok (.aload_n 0, 1) := by decide +kernel
theorem dX7_see_14 : decode cX7_see 14 = .ok (.iload_n 1, 1) := by decide +kernel
theorem dX7_see_15 : decode cX7_see 15 = .ok (.iload_n 2, 1) := by decide +kernel
theorem dX7_see_16 : decode cX7_see 16 = .ok (.iload_n 3, 1) := by decide +kernel
theorem dX7_see_17 : decode cX7_see 17 = .ok (.iload 4, 2) := by decide +kernel
theorem dX7_see_19 : decode cX7_see 19 = .ok (.i2l, 1) := by decide +kernel
theorem dX7_see_20 : decode cX7_see 20 = .ok (.invokevirtual 100, 3) := by decide +kernel
theorem dX7_see_23 : decode cX7_see 23 = .ok (.istore 5, 2) := by decide +kernel
theorem dX7_see_25 : decode cX7_see 25 = .ok (.iload 5, 2) := by decide +kernel
theorem dX7_see_27 : decode cX7_see 27 = .ok (.ifCond .ge 6, 3) := by decide +kernel
theorem dX7_see_30 : decode cX7_see 30 = .ok (.iload 5, 2) := by decide +kernel
theorem dX7_see_32 : decode cX7_see 32 = .ok (.ireturn, 1) := by decide +kernel
theorem dX7_see_33 : decode cX7_see 33 = .ok (.bipush 60, 2) := by decide +kernel
theorem dX7_see_35 : decode cX7_see 35 = .ok (.iload_n 1, 1) := by decide +kernel
theorem dX7_see_36 : decode cX7_see 36 = .ok (.imul, 1) := by decide +kernel
theorem dX7_see_37 : decode cX7_see 37 = .ok (.iload_n 3, 1) := by decide +kernel
theorem dX7_see_38 : decode cX7_see 38 = .ok (.iadd, 1) := by decide +kernel
theorem dX7_see_39 : decode cX7_see 39 = .ok (.istore 6, 2) := by decide +kernel
theorem dX7_see_41 : decode cX7_see 41 = .ok (.aload_n 0, 1) := by decide +kernel
theorem dX7_see_42 : decode cX7_see 42 = .ok (.iload 6, 2) := by decide +kernel
theorem dX7_see_44 : decode cX7_see 44 = .ok (.iload 4, 2) := by decide +kernel
theorem dX7_see_46 : decode cX7_see 46 = .ok (.invokevirtual 104, 3) := by decide +kernel
theorem dX7_see_49 : decode cX7_see 49 = .ok (.ifCond .ne 10, 3) := by decide +kernel
theorem dX7_see_52 : decode cX7_see 52 = .ok (.aload_n 0, 1) := by decide +kernel
theorem dX7_see_53 : decode cX7_see 53 = .ok (.bipush (-2), 2) := by decide +kernel
theorem dX7_see_55 : decode cX7_see 55 = .ok (.invokevirtual 71, 3) := by decide +kernel
theorem dX7_see_58 : decode cX7_see 58 = .ok (.ireturn, 1) := by decide +kernel
theorem dX7_see_59 : decode cX7_see 59 = .ok (.aload_n 0, 1) := by decide +kernel
theorem dX7_see_60 : decode cX7_see 60 = .ok (.iload 4, 2) := by decide +kernel
theorem dX7_see_62 : decode cX7_see 62 = .ok (.putfield 238, 3) := by decide +kernel
theorem dX7_see_65 : decode cX7_see 65 = .ok (.aload_n 0, 1) := by decide +kernel
theorem dX7_see_66 : decode cX7_see 66 = .ok (.bipush 88, 2) := by decide +kernel
theorem dX7_see_68 : decode cX7_see 68 = .ok (.iconst 0, 1) := by decide +kernel
theorem dX7_see_69 : decode cX7_see 69 = .ok (.lconst 0, 1) := by decide +kernel
theorem dX7_see_70 : decode cX7_see 70 = .ok (.invokevirtual 88, 3) := by decide +kernel
theorem dX7_see_73 : decode cX7_see 73 = .ok (.iconst 1, 1) := by decide +kernel
theorem dX7_see_74 : decode cX7_see 74 = .ok (.istore 7, 2) := by decide +kernel
theorem dX7_see_76 : decode cX7_see 76 = .ok (.iload 7, 2) := by decide +kernel
theorem dX7_see_78 : decode cX7_see 78 = .ok (.bipush 41, 2) := by decide +kernel
theorem dX7_see_80 : decode cX7_see 80 = .ok (.if_icmp .ge 52, 3) := by decide +kernel
theorem dX7_see_83 : decode cX7_see 83 = .ok (.aload_n 0, 1) := by decide +kernel
theorem dX7_see_84 : decode cX7_see 84 = .ok (.bipush 88, 2) := by decide +kernel
theorem dX7_see_86 : decode cX7_see 86 = .ok (.iload 7, 2) := by decide +kernel
theorem dX7_see_88 : decode cX7_see 88 = .ok (.aload_n 0, 1) := by decide +kernel
theorem dX7_see_89 : decode cX7_see 89 = .ok (.bipush 88, 2) := by decide +kernel
theorem dX7_see_91 : decode cX7_see 91 = .ok (.iload 7, 2) := by decide +kernel
theorem dX7_see_93 : decode cX7_see 93 = .ok (.iconst 1, 1) := by decide +kernel
theorem dX7_see_94 : decode cX7_see 94 = .ok (.isub, 1) := by decide +kernel
theorem dX7_see_95 : decode cX7_see 95 = .ok (.invokevirtual 108, 3) := by decide +kernel
theorem dX7_see_98 : decode cX7_see 98 = .ok (.iload 7, 2) := by decide +kernel
theorem dX7_see_100 : decode cX7_see 100 = .ok (.iload 4, 2) := by decide +kernel
theorem dX7_see_102 : decode cX7_see 102 = .ok (.if_icmp .gt 18, 3) := by decide +kernel
theorem dX7_see_105 : decode cX7_see 105 = .ok (.aload_n 0, 1) := by decide +kernel
theorem dX7_see_106 : decode cX7_see 106 = .ok (.getfield 49, 3) := by decide +kernel
theorem dX7_see_109 : decode cX7_see 109 = .ok (.iload 6, 2) := by decide +kernel
theorem dX7_see_111 : decode cX7_see 111 = .ok (.iload 7, 2) := by decide +kernel
theorem dX7_see_113 : decode cX7_see 113 = .ok (.iadd, 1) := by decide +kernel
theorem dX7_see_114 : decode cX7_see 114 = .ok (.iconst 1, 1) := by decide +kernel
theorem dX7_see_115 : decode cX7_see 115 = .ok (.isub, 1) := by decide +kernel
theorem dX7_see_116 : decode cX7_see 116 = .ok (.iaload, 1) := by decide +kernel
theorem dX7_see_117 : decode cX7_see 117 = .ok (.goto 4, 3) := by decide +kernel
theorem dX7_see_120 : decode cX7_see 120 = .ok (.iconst 0, 1) := by decide +kernel
theorem dX7_see_121 : decode cX7_see 121 = .ok (.iadd, 1) := by decide +kernel
theorem dX7_see_122 : decode cX7_see 122 = .ok (.i2l, 1) := by decide +kernel
theorem dX7_see_123 : decode cX7_see 123 = .ok (.invokevirtual 88, 3) := by decide +kernel
theorem dX7_see_126 : decode cX7_see 126 = .ok (.iinc 7 1, 3) := by decide +kernel
theorem dX7_see_129 : decode cX7_see 129 = .ok (.goto (-53), 3) := by decide +kernel
theorem dX7_see_132 : decode cX7_see 132 = .ok (.aload_n 0, 1) := by decide +kernel
theorem dX7_see_133 : decode cX7_see 133 = .ok (.iload 4, 2) := by decide +kernel
theorem dX7_see_135 : decode cX7_see 135 = .ok (.invokevirtual 71, 3) := by decide +kernel
theorem dX7_see_138 : decode cX7_see 138 = .ok (.ireturn, 1) := by decide +kernel
theorem dX7_breaks_0 : decode cX7_breaks 0 = .ok (.iconst 1, 1) := by decide +kernel
theorem dX7_breaks_1 : decode cX7_breaks 1 = .ok (.istore_n 2, 1) := by decide +kernel
theorem dX7_breaks_2 : decode cX7_breaks 2 = .ok (.iload_n 2, 1) := by decide +kernel
theorem dX7_breaks_3 : decode cX7_breaks 3 = .ok (.aload_n 0, 1) := by decide +kernel
theorem dX7_breaks_4 : decode cX7_breaks 4 = .ok (.getfield 238, 3) := by decide +kernel
theorem dX7_breaks_7 : decode cX7_breaks 7 = .ok (.if_icmp .gt 56, 3) := by decide +kernel
theorem dX7_breaks_10 : decode cX7_breaks 10 = .ok (.iload_n 2, 1) := by decide +kernel
theorem dX7_breaks_11 : decode cX7_breaks 11 = .ok (.iconst 1, 1) := by decide +kernel
theorem dX7_breaks_12 : decode cX7_breaks 12 = .ok (.isub, 1) := by decide +kernel
theorem dX7_breaks_13 : decode cX7_breaks 13 = .ok (.istore_n 3, 1) := by decide +kernel
theorem dX7_breaks_14 : decode cX7_breaks 14 = .ok (.iload_n 3, 1) := by decide +kernel
theorem dX7_breaks_15 : decode cX7_breaks 15 = .ok (.ifCond .lt 42, 3) := by decide +kernel
theorem dX7_breaks_18 : decode cX7_breaks 18 = .ok (.aload_n 0, 1) := by decide +kernel
theorem dX7_breaks_19 : decode cX7_breaks 19 = .ok (.bipush 88, 2) := by decide +kernel
theorem dX7_breaks_21 : decode cX7_breaks 21 = .ok (.iload_n 2, 1) := by decide +kernel
theorem dX7_breaks_22 : decode cX7_breaks 22 = .ok (.invokevirtual 108, 3) := by decide +kernel
theorem dX7_breaks_25 : decode cX7_breaks 25 = .ok (.aload_n 0, 1) := by decide +kernel
theorem dX7_breaks_26 : decode cX7_breaks 26 = .ok (.bipush 88, 2) := by decide +kernel
theorem dX7_breaks_28 : decode cX7_breaks 28 = .ok (.iload_n 3, 1) := by decide +kernel
theorem dX7_breaks_29 : decode cX7_breaks 29 = .ok (.invokevirtual 108, 3) := by decide +kernel
theorem dX7_breaks_32 : decode cX7_breaks 32 = .ok (.isub, 1) := by decide +kernel
theorem dX7_breaks_33 : decode cX7_breaks 33 = .ok (.aload_n 0, 1) := by decide +kernel
theorem dX7_breaks_34 : decode cX7_breaks 34 = .ok (.iload_n 1, 1) := by decide +kernel
theorem dX7_breaks_35 : decode cX7_breaks 35 = .ok (.iload_n 2, 1) := by decide +kernel
theorem dX7_breaks_36 : decode cX7_breaks 36 = .ok (.iload_n 3, 1) := by decide +kernel
theorem dX7_breaks_37 : decode cX7_breaks 37 = .ok (.isub, 1) := by decide +kernel
theorem dX7_breaks_38 : decode cX7_breaks 38 = .ok (.invokevirtual 108, 3) := by decide +kernel
theorem dX7_breaks_41 : decode cX7_breaks 41 = .ok (.if_icmp .le 10, 3) := by decide +kernel
theorem dX7_breaks_44 : decode cX7_breaks 44 = .ok (.bipush 100, 2) := by decide +kernel
theorem dX7_breaks_46 : decode cX7_breaks 46 = .ok (.iload_n 2, 1) := by decide +kernel
theorem dX7_breaks_47 : decode cX7_breaks 47 = .ok (.imul, 1) := by decide +kernel
theorem dX7_breaks_48 : decode cX7_breaks 48 = .ok (.iload_n 3, 1) := by decide +kernel
theorem dX7_breaks_49 : decode cX7_breaks 49 = .ok (.iadd, 1) := by decide +kernel
theorem dX7_breaks_50 : decode cX7_breaks 50 = .ok (.ireturn, 1) := by decide +kernel
theorem dX7_breaks_51 : decode cX7_breaks 51 = .ok (.iinc 3 (-1), 3) := by decide +kernel
theorem dX7_breaks_54 : decode cX7_breaks 54 = .ok (.goto (-40), 3) := by decide +kernel
theorem dX7_breaks_57 : decode cX7_breaks 57 = .ok (.iinc 2 1, 3) := by decide +kernel
theorem dX7_breaks_60 : decode cX7_breaks 60 = .ok (.goto (-58), 3) := by decide +kernel
theorem dX7_breaks_63 : decode cX7_breaks 63 = .ok (.bipush (-9), 2) := by decide +kernel
theorem dX7_breaks_65 : decode cX7_breaks 65 = .ok (.ireturn, 1) := by decide +kernel
theorem dX7_keeps_0 : decode cX7_keeps 0 = .ok (.aload_n 0, 1) := by decide +kernel
theorem dX7_keeps_1 : decode cX7_keeps 1 = .ok (.iload_n 1, 1) := by decide +kernel
theorem dX7_keeps_2 : decode cX7_keeps 2 = .ok (.invokevirtual 161, 3) := by decide +kernel
theorem dX7_keeps_5 : decode cX7_keeps 5 = .ok (.ifCond .eq 5, 3) := by decide +kernel
theorem dX7_keeps_8 : decode cX7_keeps 8 = .ok (.iconst (-1), 1) := by decide +kernel
theorem dX7_keeps_9 : decode cX7_keeps 9 = .ok (.ireturn, 1) := by decide +kernel
theorem dX7_keeps_10 : decode cX7_keeps 10 = .ok (.iload_n 2, 1) := by decide +kernel
theorem dX7_keeps_11 : decode cX7_keeps 11 = .ok (.i2l, 1) := by decide +kernel
theorem dX7_keeps_12 : decode cX7_keeps 12 = .ok (.lconst 0, 1) := by decide +kernel
theorem dX7_keeps_13 : decode cX7_keeps 13 = .ok (.lconst 1, 1) := by decide +kernel
theorem dX7_keeps_14 : decode cX7_keeps 14 = .ok (.invokestatic 67, 3) := by decide +kernel
theorem dX7_keeps_17 : decode cX7_keeps 17 = .ok (.ifCond .ne 6, 3) := by decide +kernel
theorem dX7_keeps_20 : decode cX7_keeps 20 = .ok (.bipush (-2), 2) := by decide +kernel
theorem dX7_keeps_22 : decode cX7_keeps 22 = .ok (.ireturn, 1) := by decide +kernel
theorem dX7_keeps_23 : decode cX7_keeps 23 = .ok (.aload_n 0, 1) := by decide +kernel
theorem dX7_keeps_24 : decode cX7_keeps 24 = .ok (.getfield 238, 3) := by decide +kernel
theorem dX7_keeps_27 : decode cX7_keeps 27 = .ok (.ifCond .ne 6, 3) := by decide +kernel
theorem dX7_keeps_30 : decode cX7_keeps 30 = .ok (.bipush (-3), 2) := by decide +kernel
theorem dX7_keeps_32 : decode cX7_keeps 32 = .ok (.ireturn, 1) := by decide +kernel
theorem dX7_keeps_33 : decode cX7_keeps 33 = .ok (.aload_n 0, 1) := by decide +kernel
theorem dX7_keeps_34 : decode cX7_keeps 34 = .ok (.iload_n 1, 1) := by decide +kernel
theorem dX7_keeps_35 : decode cX7_keeps 35 = .ok (.invokevirtual 241, 3) := by decide +kernel
theorem dX7_keeps_38 : decode cX7_keeps 38 = .ok (.istore_n 3, 1) := by decide +kernel
theorem dX7_keeps_39 : decode cX7_keeps 39 = .ok (.iload_n 2, 1) := by decide +kernel
theorem dX7_keeps_40 : decode cX7_keeps 40 = .ok (.iconst 1, 1) := by decide +kernel
theorem dX7_keeps_41 : decode cX7_keeps 41 = .ok (.if_icmp .ne 7, 3) := by decide +kernel
theorem dX7_keeps_44 : decode cX7_keeps 44 = .ok (.iload_n 3, 1) := by decide +kernel
theorem dX7_keeps_45 : decode cX7_keeps 45 = .ok (.goto 12, 3) := by decide +kernel
theorem dX7_keeps_48 : decode cX7_keeps 48 = .ok (.iload_n 3, 1) := by decide +kernel
theorem dX7_keeps_49 : decode cX7_keeps 49 = .ok (.ifCond .ge 7, 3) := by decide +kernel
theorem dX7_keeps_52 : decode cX7_keeps 52 = .ok (.iconst 1, 1) := by decide +kernel
theorem dX7_keeps_53 : decode cX7_keeps 53 = .ok (.goto 4, 3) := by decide +kernel
theorem dX7_keeps_56 : decode cX7_keeps 56 = .ok (.iconst 0, 1) := by decide +kernel
theorem dX7_keeps_57 : decode cX7_keeps 57 = .ok (.ireturn, 1) := by decide +kernel
theorem dX7_burst_0 : decode cX7_burst 0 = .ok (.iload_n 1, 1) := by decide +kernel
theorem dX7_burst_1 : decode cX7_burst 1 = .ok (.i2l, 1) := by decide +kernel
theorem dX7_burst_2 : decode cX7_burst 2 = .ok (.lconst 0, 1) := by decide +kernel
theorem dX7_burst_3 : decode cX7_burst 3 = .ok (.ldc2_w 94, 3) := by decide +kernel
theorem dX7_burst_6 : decode cX7_burst 6 = .ok (.invokestatic 67, 3) := by decide +kernel
theorem dX7_burst_9 : decode cX7_burst 9 = .ok (.ifCond .ne 6, 3) := by decide +kernel
theorem dX7_burst_12 : decode cX7_burst 12 = .ok (.bipush (-2), 2) := by decide +kernel
theorem dX7_burst_14 : decode cX7_burst 14 = .ok (.ireturn, 1) := by decide +kernel
theorem dX7_burst_15 : decode cX7_burst 15 = .ok (.aload_n 0, 1) := by decide +kernel
theorem dX7_burst_16 : decode cX7_burst 16 = .ok (.getfield 238, 3) := by decide +kernel
theorem dX7_burst_19 : decode cX7_burst 19 = .ok (.ifCond .ne 6, 3) := by decide +kernel
theorem dX7_burst_22 : decode cX7_burst 22 = .ok (.bipush (-3), 2) := by decide +kernel
theorem dX7_burst_24 : decode cX7_burst 24 = .ok (.ireturn, 1) := by decide +kernel
theorem dX7_burst_25 : decode cX7_burst 25 = .ok (.iconst 0, 1) := by decide +kernel
theorem dX7_burst_26 : decode cX7_burst 26 = .ok (.istore_n 2, 1) := by decide +kernel
theorem dX7_burst_27 : decode cX7_burst 27 = .ok (.iconst 1, 1) := by decide +kernel
theorem dX7_burst_28 : decode cX7_burst 28 = .ok (.istore_n 3, 1) := by decide +kernel
theorem dX7_burst_29 : decode cX7_burst 29 = .ok (.iload_n 3, 1) := by decide +kernel
theorem dX7_burst_30 : decode cX7_burst 30 = .ok (.aload_n 0, 1) := by decide +kernel
theorem dX7_burst_31 : decode cX7_burst 31 = .ok (.getfield 238, 3) := by decide +kernel
theorem dX7_burst_34 : decode cX7_burst 34 = .ok (.if_icmp .gt 52, 3) := by decide +kernel
theorem dX7_burst_37 : decode cX7_burst 37 = .ok (.iconst 0, 1) := by decide +kernel
theorem dX7_burst_38 : decode cX7_burst 38 = .ok (.istore 4, 2) := by decide +kernel
theorem dX7_burst_40 : decode cX7_burst 40 = .ok (.iload 4, 2) := by decide +kernel
theorem dX7_burst_42 : decode cX7_burst 42 = .ok (.iload_n 3, 1) := by decide +kernel
theorem dX7_burst_43 : decode cX7_burst 43 = .ok (.if_icmp .ge 37, 3) := by decide +kernel
theorem dX7_burst_46 : decode cX7_burst 46 = .ok (.iload_n 2, 1) := by decide +kernel
theorem dX7_burst_47 : decode cX7_burst 47 = .ok (.aload_n 0, 1) := by decide +kernel
theorem dX7_burst_48 : decode cX7_burst 48 = .ok (.bipush 88, 2) := by decide +kernel
theorem dX7_burst_50 : decode cX7_burst 50 = .ok (.iload_n 3, 1) := by decide +kernel
theorem dX7_burst_51 : decode cX7_burst 51 = .ok (.invokevirtual 108, 3) := by decide +kernel
theorem dX7_burst_54 : decode cX7_burst 54 = .ok (.aload_n 0, 1) := by decide +kernel
theorem dX7_burst_55 : decode cX7_burst 55 = .ok (.bipush 88, 2) := by decide +kernel
theorem dX7_burst_57 : decode cX7_burst 57 = .ok (.iload 4, 2) := by decide +kernel
theorem dX7_burst_59 : decode cX7_burst 59 = .ok (.invokevirtual 108, 3) := by decide +kernel
theorem dX7_burst_62 : decode cX7_burst 62 = .ok (.isub, 1) := by decide +kernel
theorem dX7_burst_63 : decode cX7_burst 63 = .ok (.iload_n 1, 1) := by decide +kernel
theorem dX7_burst_64 : decode cX7_burst 64 = .ok (.iload_n 3, 1) := by decide +kernel
theorem dX7_burst_65 : decode cX7_burst 65 = .ok (.iload 4, 2) := by decide +kernel
theorem dX7_burst_67 : decode cX7_burst 67 = .ok (.isub, 1) := by decide +kernel
theorem dX7_burst_68 : decode cX7_burst 68 = .ok (.imul, 1) := by decide +kernel
theorem dX7_burst_69 : decode cX7_burst 69 = .ok (.isub, 1) := by decide +kernel
theorem dX7_burst_70 : decode cX7_burst 70 = .ok (.invokestatic 171, 3) := by decide +kernel
theorem dX7_burst_73 : decode cX7_burst 73 = .ok (.istore_n 2, 1) := by decide +kernel
theorem dX7_burst_74 : decode cX7_burst 74 = .ok (.iinc 4 1, 3) := by decide +kernel
theorem dX7_burst_77 : decode cX7_burst 77 = .ok (.goto (-37), 3) := by decide +kernel
theorem dX7_burst_80 : decode cX7_burst 80 = .ok (.iinc 3 1, 3) := by decide +kernel
theorem dX7_burst_83 : decode cX7_burst 83 = .ok (.goto (-54), 3) := by decide +kernel
theorem dX7_burst_86 : decode cX7_burst 86 = .ok (.iload_n 2, 1) := by decide +kernel
theorem dX7_burst_87 : decode cX7_burst 87 = .ok (.ireturn, 1) := by decide +kernel
theorem dX7_shape_0 : decode cX7_shape 0 = .ok (.aload_n 0, 1) := by decide +kernel
theorem dX7_shape_1 : decode cX7_shape 1 = .ok (.iload_n 1, 1) := by decide +kernel
theorem dX7_shape_2 : decode cX7_shape 2 = .ok (.invokevirtual 161, 3) := by decide +kernel
theorem dX7_shape_5 : decode cX7_shape 5 = .ok (.ifCond .eq 5, 3) := by decide +kernel
theorem dX7_shape_8 : decode cX7_shape 8 = .ok (.iconst (-1), 1) := by decide +kernel
theorem dX7_shape_9 : decode cX7_shape 9 = .ok (.ireturn, 1) := by decide +kernel
theorem dX7_shape_10 : decode cX7_shape 10 = .ok (.iload_n 2, 1) := by decide +kernel
theorem dX7_shape_11 : decode cX7_shape 11 = .ok (.i2l, 1) := by decide +kernel
theorem dX7_shape_12 : decode cX7_shape 12 = .ok (.lconst 0, 1) := by decide +kernel
theorem dX7_shape_13 : decode cX7_shape 13 = .ok (.lconst 1, 1) := by decide +kernel
theorem dX7_shape_14 : decode cX7_shape 14 = .ok (.invokestatic 67, 3) := by decide +kernel
theorem dX7_shape_17 : decode cX7_shape 17 = .ok (.ifCond .ne 20, 3) := by decide +kernel
theorem dX7_shape_20 : decode cX7_shape 20 = .ok (.iload_n 2, 1) := by decide +kernel
theorem dX7_shape_21 : decode cX7_shape 21 = .ok (.i2l, 1) := by decide +kernel
theorem dX7_shape_22 : decode cX7_shape 22 = .ok (.ldc2_w 244, 3) := by decide +kernel
theorem dX7_shape_25 : decode cX7_shape 25 = .ok (.ldc2_w 246, 3) := by decide +kernel
theorem dX7_shape_28 : decode cX7_shape 28 = .ok (.invokestatic 67, 3) := by decide +kernel
theorem dX7_shape_31 : decode cX7_shape 31 = .ok (.ifCond .ne 6, 3) := by decide +kernel
theorem dX7_shape_34 : decode cX7_shape 34 = .ok (.bipush (-2), 2) := by decide +kernel
theorem dX7_shape_36 : decode cX7_shape 36 = .ok (.ireturn, 1) := by decide +kernel
theorem dX7_shape_37 : decode cX7_shape 37 = .ok (.aload_n 0, 1) := by decide +kernel
theorem dX7_shape_38 : decode cX7_shape 38 = .ok (.getfield 238, 3) := by decide +kernel
theorem dX7_shape_41 : decode cX7_shape 41 = .ok (.ifCond .ne 6, 3) := by decide +kernel
theorem dX7_shape_44 : decode cX7_shape 44 = .ok (.bipush (-3), 2) := by decide +kernel
theorem dX7_shape_46 : decode cX7_shape 46 = .ok (.ireturn, 1) := by decide +kernel
theorem dX7_shape_47 : decode cX7_shape 47 = .ok (.aload_n 0, 1) := by decide +kernel
theorem dX7_shape_48 : decode cX7_shape 48 = .ok (.iconst 2, 1) := by decide +kernel
theorem dX7_shape_49 : decode cX7_shape 49 = .ok (.bipush 88, 2) := by decide +kernel
theorem dX7_shape_51 : decode cX7_shape 51 = .ok (.iload_n 1, 1) := by decide +kernel
theorem dX7_shape_52 : decode cX7_shape 52 = .ok (.bipush 89, 2) := by decide +kernel
theorem dX7_shape_54 : decode cX7_shape 54 = .ok (.invokevirtual 157, 3) := by decide +kernel
theorem dX7_shape_57 : decode cX7_shape 57 = .ok (.iload_n 2, 1) := by decide +kernel
theorem dX7_shape_58 : decode cX7_shape 58 = .ok (.ifCond .ne 14, 3) := by decide +kernel
theorem dX7_shape_61 : decode cX7_shape 61 = .ok (.aload_n 0, 1) := by decide +kernel
theorem dX7_shape_62 : decode cX7_shape 62 = .ok (.bipush 88, 2) := by decide +kernel
theorem dX7_shape_64 : decode cX7_shape 64 = .ok (.bipush 89, 2) := by decide +kernel
theorem dX7_shape_66 : decode cX7_shape 66 = .ok (.invokevirtual 185, 3) := by decide +kernel
theorem dX7_shape_69 : decode cX7_shape 69 = .ok (.goto 31, 3) := by decide +kernel
theorem dX7_shape_72 : decode cX7_shape 72 = .ok (.iload_n 2, 1) := by decide +kernel
theorem dX7_shape_73 : decode cX7_shape 73 = .ok (.iconst 1, 1) := by decide +kernel
theorem dX7_shape_74 : decode cX7_shape 74 = .ok (.if_icmp .ne 16, 3) := by decide +kernel
theorem dX7_shape_77 : decode cX7_shape 77 = .ok (.aload_n 0, 1) := by decide +kernel
theorem dX7_shape_78 : decode cX7_shape 78 = .ok (.bipush 88, 2) := by decide +kernel
theorem dX7_shape_80 : decode cX7_shape 80 = .ok (.bipush 89, 2) := by decide +kernel
theorem dX7_shape_82 : decode cX7_shape 82 = .ok (.bipush 40, 2) := by decide +kernel
theorem dX7_shape_84 : decode cX7_shape 84 = .ok (.invokevirtual 182, 3) := by decide +kernel
theorem dX7_shape_87 : decode cX7_shape 87 = .ok (.goto 13, 3) := by decide +kernel
theorem dX7_shape_90 : decode cX7_shape 90 = .ok (.aload_n 0, 1) := by decide +kernel
theorem dX7_shape_91 : decode cX7_shape 91 = .ok (.bipush 89, 2) := by decide +kernel
theorem dX7_shape_93 : decode cX7_shape 93 = .ok (.iload_n 2, 1) := by decide +kernel
theorem dX7_shape_94 : decode cX7_shape 94 = .ok (.bipush 100, 2) := by decide +kernel
theorem dX7_shape_96 : decode cX7_shape 96 = .ok (.isub, 1) := by decide +kernel
theorem dX7_shape_97 : decode cX7_shape 97 = .ok (.invokevirtual 108, 3) := by decide +kernel
theorem dX7_shape_100 : decode cX7_shape 100 = .ok (.ireturn, 1) := by decide +kernel
theorem dX7_letIn_0 : decode cX7_letIn 0 = .ok (.aload_n 0, 1) := by decide +kernel
theorem dX7_letIn_1 : decode cX7_letIn 1 = .ok (.iload_n 1, 1) := by decide +kernel
theorem dX7_letIn_2 : decode cX7_letIn 2 = .ok (.invokevirtual 161, 3) := by decide +kernel
theorem dX7_letIn_5 : decode cX7_letIn 5 = .ok (.ifCond .ne 11, 3) := by decide +kernel
theorem dX7_letIn_8 : decode cX7_letIn 8 = .ok (.aload_n 0, 1) := by decide +kernel
theorem dX7_letIn_9 : decode cX7_letIn 9 = .ok (.iload_n 2, 1) := by decide +kernel
theorem dX7_letIn_10 : decode cX7_letIn 10 = .ok (.invokevirtual 161, 3) := by decide +kernel
theorem dX7_letIn_13 : decode cX7_letIn 13 = .ok (.ifCond .eq 5, 3) := by decide +kernel
theorem dX7_letIn_16 : decode cX7_letIn 16 = .ok (.iconst (-1), 1) := by decide +kernel
theorem dX7_letIn_17 : decode cX7_letIn 17 = .ok (.ireturn, 1) := by decide +kernel
theorem dX7_letIn_18 : decode cX7_letIn 18 = .ok (.iload_n 3, 1) := by decide +kernel
theorem dX7_letIn_19 : decode cX7_letIn 19 = .ok (.i2l, 1) := by decide +kernel
theorem dX7_letIn_20 : decode cX7_letIn 20 = .ok (.lconst 0, 1) := by decide +kernel
theorem dX7_letIn_21 : decode cX7_letIn 21 = .ok (.ldc2_w 92, 3) := by decide +kernel
theorem dX7_letIn_24 : decode cX7_letIn 24 = .ok (.invokestatic 67, 3) := by decide +kernel
theorem dX7_letIn_27 : decode cX7_letIn 27 = .ok (.ifCond .ne 6, 3) := by decide +kernel
theorem dX7_letIn_30 : decode cX7_letIn 30 = .ok (.bipush (-2), 2) := by decide +kernel
theorem dX7_letIn_32 : decode cX7_letIn 32 = .ok (.ireturn, 1) := by decide +kernel
theorem dX7_letIn_33 : decode cX7_letIn 33 = .ok (.iconst 1, 1) := by decide +kernel
theorem dX7_letIn_34 : decode cX7_letIn 34 = .ok (.istore 4, 2) := by decide +kernel
theorem dX7_letIn_36 : decode cX7_letIn 36 = .ok (.iload 4, 2) := by decide +kernel
theorem dX7_letIn_38 : decode cX7_letIn 38 = .ok (.bipush 100, 2) := by decide +kernel
theorem dX7_letIn_40 : decode cX7_letIn 40 = .ok (.if_icmp .ge 71, 3) := by decide +kernel
theorem dX7_letIn_43 : decode cX7_letIn 43 = .ok (.iconst 0, 1) := by decide +kernel
theorem dX7_letIn_44 : decode cX7_letIn 44 = .ok (.istore 5, 2) := by decide +kernel
theorem dX7_letIn_46 : decode cX7_letIn 46 = .ok (.iload 5, 2) := by decide +kernel
theorem dX7_letIn_48 : decode cX7_letIn 48 = .ok (.bipush 41, 2) := by decide +kernel
theorem dX7_letIn_50 : decode cX7_letIn 50 = .ok (.if_icmp .ge 28, 3) := by decide +kernel
theorem dX7_letIn_53 : decode cX7_letIn 53 = .ok (.aload_n 0, 1) := by decide +kernel
theorem dX7_letIn_54 : decode cX7_letIn 54 = .ok (.bipush 84, 2) := by decide +kernel
theorem dX7_letIn_56 : decode cX7_letIn 56 = .ok (.iload 5, 2) := by decide +kernel
theorem dX7_letIn_58 : decode cX7_letIn 58 = .ok (.iload 4, 2) := by decide +kernel
theorem dX7_letIn_60 : decode cX7_letIn 60 = .ok (.aload_n 0, 1) := by decide +kernel
theorem dX7_letIn_61 : decode cX7_letIn 61 = .ok (.iload_n 1, 1) := by decide +kernel
theorem dX7_letIn_62 : decode cX7_letIn 62 = .ok (.iload 5, 2) := by decide +kernel
theorem dX7_letIn_64 : decode cX7_letIn 64 = .ok (.invokevirtual 108, 3) := by decide +kernel
theorem dX7_letIn_67 : decode cX7_letIn 67 = .ok (.imul, 1) := by decide +kernel
theorem dX7_letIn_68 : decode cX7_letIn 68 = .ok (.i2l, 1) := by decide +kernel
theorem dX7_letIn_69 : decode cX7_letIn 69 = .ok (.invokevirtual 88, 3) := by decide +kernel
theorem dX7_letIn_72 : decode cX7_letIn 72 = .ok (.iinc 5 1, 3) := by decide +kernel
theorem dX7_letIn_75 : decode cX7_letIn 75 = .ok (.goto (-29), 3) := by decide +kernel
theorem dX7_letIn_78 : decode cX7_letIn 78 = .ok (.aload_n 0, 1) := by decide +kernel
theorem dX7_letIn_79 : decode cX7_letIn 79 = .ok (.bipush 84, 2) := by decide +kernel
theorem dX7_letIn_81 : decode cX7_letIn 81 = .ok (.iload_n 2, 1) := by decide +kernel
theorem dX7_letIn_82 : decode cX7_letIn 82 = .ok (.bipush 20, 2) := by decide +kernel
theorem dX7_letIn_84 : decode cX7_letIn 84 = .ok (.invokevirtual 182, 3) := by decide +kernel
theorem dX7_letIn_87 : decode cX7_letIn 87 = .ok (.istore 5, 2) := by decide +kernel
theorem dX7_letIn_89 : decode cX7_letIn 89 = .ok (.iload 5, 2) := by decide +kernel
theorem dX7_letIn_91 : decode cX7_letIn 91 = .ok (.ifCond .lt 9, 3) := by decide +kernel
theorem dX7_letIn_94 : decode cX7_letIn 94 = .ok (.iload 5, 2) := by decide +kernel
theorem dX7_letIn_96 : decode cX7_letIn 96 = .ok (.iload_n 3, 1) := by decide +kernel
theorem dX7_letIn_97 : decode cX7_letIn 97 = .ok (.if_icmp .le 8, 3) := by decide +kernel
theorem dX7_letIn_100 : decode cX7_letIn 100 = .ok (.iload 4, 2) := by decide +kernel
theorem dX7_letIn_102 : decode cX7_letIn 102 = .ok (.iconst 1, 1) := by decide +kernel
theorem dX7_letIn_103 : decode cX7_letIn 103 = .ok (.isub, 1) := by decide +kernel
theorem dX7_letIn_104 : decode cX7_letIn 104 = .ok (.ireturn, 1) := by decide +kernel
theorem dX7_letIn_105 : decode cX7_letIn 105 = .ok (.iinc 4 1, 3) := by decide +kernel
theorem dX7_letIn_108 : decode cX7_letIn 108 = .ok (.goto (-72), 3) := by decide +kernel
theorem dX7_letIn_111 : decode cX7_letIn 111 = .ok (.bipush 99, 2) := by decide +kernel
theorem dX7_letIn_113 : decode cX7_letIn 113 = .ok (.ireturn, 1) := by decide +kernel
theorem dX7_noSheet_0 : decode cX7_noSheet 0 = .ok (.iload_n 0, 1) := by decide +kernel
theorem dX7_noSheet_1 : decode cX7_noSheet 1 = .ok (.i2l, 1) := by decide +kernel
theorem dX7_noSheet_2 : decode cX7_noSheet 2 = .ok (.lconst 0, 1) := by decide +kernel
theorem dX7_noSheet_3 : decode cX7_noSheet 3 = .ok (.ldc2_w 248, 3) := by decide +kernel
theorem dX7_noSheet_6 : decode cX7_noSheet 6 = .ok (.invokestatic 67, 3) := by decide +kernel
theorem dX7_noSheet_9 : decode cX7_noSheet 9 = .ok (.ifCond .ne 7, 3) := by decide +kernel
theorem dX7_noSheet_12 : decode cX7_noSheet 12 = .ok (.iconst 1, 1) := by decide +kernel
theorem dX7_noSheet_13 : decode cX7_noSheet 13 = .ok (.goto 4, 3) := by decide +kernel
theorem dX7_noSheet_16 : decode cX7_noSheet 16 = .ok (.iconst 0, 1) := by decide +kernel
theorem dX7_noSheet_17 : decode cX7_noSheet 17 = .ok (.ireturn, 1) := by decide +kernel
theorem dX7_sheet_0 : decode cX7_sheet 0 = .ok (.iload_n 1, 1) := by decide +kernel
theorem dX7_sheet_1 : decode cX7_sheet 1 = .ok (.invokestatic 96, 3) := by decide +kernel
theorem dX7_sheet_4 : decode cX7_sheet 4 = .ok (.ifCond .eq 9, 3) := by decide +kernel
theorem dX7_sheet_7 : decode cX7_sheet 7 = .ok (.aload_n 0, 1) := by decide +kernel
theorem dX7_sheet_8 : decode cX7_sheet 8 = .ok (.iconst (-1), 1) := by decide +kernel
theorem dX7_sheet_9 : decode cX7_sheet 9 = .ok (.invokevirtual 71, 3) := by decide +kernel
theorem dX7_sheet_12 : decode cX7_sheet 12 = .ok (.ireturn, 1) := by decide +kernel
theorem dX7_sheet_13 : decode cX7_sheet 13 = .ok (.iload_n 2, 1) := by decide +kernel
theorem dX7_sheet_14 : decode cX7_sheet 14 = .ok (.i2l, 1) := by decide +kernel
theorem dX7_sheet_15 : decode cX7_sheet 15 = .ok (.lconst 0, 1) := by decide +kernel
theorem dX7_sheet_16 : decode cX7_sheet 16 = .ok (.ldc2_w 65, 3) := by decide +kernel
theorem dX7_sheet_19 : decode cX7_sheet 19 = .ok (.invokestatic 67, 3) := by decide +kernel
theorem dX7_sheet_22 : decode cX7_sheet 22 = .ok (.ifCond .eq 9, 3) := by decide +kernel
theorem dX7_sheet_25 : decode cX7_sheet 25 = .ok (.iload_n 3, 1) := by decide +kernel
theorem dX7_sheet_26 : decode cX7_sheet 26 = .ok (.bipush 60, 2) := by decide +kernel
theorem dX7_sheet_28 : decode cX7_sheet 28 = .ok (.if_icmp .le 10, 3) := by decide +kernel
theorem dX7_sheet_31 : decode cX7_sheet 31 = .ok (.aload_n 0, 1) := by decide +kernel
theorem dX7_sheet_32 : decode cX7_sheet 32 = .ok (.bipush (-2), 2) := by decide +kernel
theorem dX7_sheet_34 : decode cX7_sheet 34 = .ok (.invokevirtual 71, 3) := by decide +kernel
theorem dX7_sheet_37 : decode cX7_sheet 37 = .ok (.ireturn, 1) := by decide +kernel
theorem dX7_sheet_38 : decode cX7_sheet 38 = .ok (.iload_n 3, 1) := by decide +kernel
theorem dX7_sheet_39 : decode cX7_sheet 39 = .ok (.ifCond .ge 9, 3) := by decide +kernel
theorem dX7_sheet_42 : decode cX7_sheet 42 = .ok (.aload_n 0, 1) := by decide +kernel
theorem dX7_sheet_43 : decode cX7_sheet 43 = .ok (.iconst 4, 1) := by decide +kernel
theorem dX7_sheet_44 : decode cX7_sheet 44 = .ok (.invokevirtual 75, 3) := by decide +kernel
theorem dX7_sheet_47 : decode cX7_sheet 47 = .ok (.ireturn, 1) := by decide +kernel
theorem dX7_sheet_48 : decode cX7_sheet 48 = .ok (.aload_n 0, 1) := by decide +kernel
theorem dX7_sheet_49 : decode cX7_sheet 49 = .ok (.getfield 43, 3) := by decide +kernel
theorem dX7_sheet_52 : decode cX7_sheet 52 = .ok (.iload_n 1, 1) := by decide +kernel
theorem dX7_sheet_53 : decode cX7_sheet 53 = .ok (.iload_n 3, 1) := by decide +kernel
theorem dX7_sheet_54 : decode cX7_sheet 54 = .ok (.iastore, 1) := by decide +kernel
theorem dX7_sheet_55 : decode cX7_sheet 55 = .ok (.aload_n 0, 1) := by decide +kernel
theorem dX7_sheet_56 : decode cX7_sheet 56 = .ok (.getfield 46, 3) := by decide +kernel
theorem dX7_sheet_59 : decode cX7_sheet 59 = .ok (.iload_n 1, 1) := by decide +kernel
theorem dX7_sheet_60 : decode cX7_sheet 60 = .ok (.iload_n 2, 1) := by decide +kernel
theorem dX7_sheet_61 : decode cX7_sheet 61 = .ok (.iastore, 1) := by decide +kernel
theorem dX7_sheet_62 : decode cX7_sheet 62 = .ok (.iconst 0, 1) := by decide +kernel
theorem dX7_sheet_63 : decode cX7_sheet 63 = .ok (.istore 4, 2) := by decide +kernel
theorem dX7_sheet_65 : decode cX7_sheet 65 = .ok (.iload 4, 2) := by decide +kernel
theorem dX7_sheet_67 : decode cX7_sheet 67 = .ok (.iload_n 3, 1) := by decide +kernel
theorem dX7_sheet_68 : decode cX7_sheet 68 = .ok (.if_icmp .ge 22, 3) := by decide +kernel
theorem dX7_sheet_71 : decode cX7_sheet 71 = .ok (.aload_n 0, 1) := by decide +kernel
theorem dX7_sheet_72 : decode cX7_sheet 72 = .ok (.getfield 49, 3) := by decide +kernel
theorem dX7_sheet_75 : decode cX7_sheet 75 = .ok (.bipush 60, 2) := by decide +kernel
theorem dX7_sheet_77 : decode cX7_sheet 77 = .ok (.iload_n 1, 1) := by decide +kernel
theorem dX7_sheet_78 : decode cX7_sheet 78 = .ok (.imul, 1) := by decide +kernel
theorem dX7_sheet_79 : decode cX7_sheet 79 = .ok (.iload 4, 2) := by decide +kernel
theorem dX7_sheet_81 : decode cX7_sheet 81 = .ok (.iadd, 1) := by decide +kernel
theorem dX7_sheet_82 : decode cX7_sheet 82 = .ok (.iconst 0, 1) := by decide +kernel
theorem dX7_sheet_83 : decode cX7_sheet 83 = .ok (.iastore, 1) := by decide +kernel
theorem dX7_sheet_84 : decode cX7_sheet 84 = .ok (.iinc 4 1, 3) := by decide +kernel
theorem dX7_sheet_87 : decode cX7_sheet 87 = .ok (.goto (-22), 3) := by decide +kernel
theorem dX7_sheet_90 : decode cX7_sheet 90 = .ok (.aload_n 0, 1) := by decide +kernel
theorem dX7_sheet_91 : decode cX7_sheet 91 = .ok (.iconst 1, 1) := by decide +kernel
theorem dX7_sheet_92 : decode cX7_sheet 92 = .ok (.invokevirtual 71, 3) := by decide +kernel
theorem dX7_sheet_95 : decode cX7_sheet 95 = .ok (.ireturn, 1) := by decide +kernel
theorem dX7_lose_0 : decode cX7_lose 0 = .ok (.iload_n 1, 1) := by decide +kernel
theorem dX7_lose_1 : decode cX7_lose 1 = .ok (.invokestatic 96, 3) := by decide +kernel
theorem dX7_lose_4 : decode cX7_lose 4 = .ok (.ifCond .eq 5, 3) := by decide +kernel
theorem dX7_lose_7 : decode cX7_lose 7 = .ok (.iconst (-1), 1) := by decide +kernel
theorem dX7_lose_8 : decode cX7_lose 8 = .ok (.ireturn, 1) := by decide +kernel
theorem dX7_lose_9 : decode cX7_lose 9 = .ok (.aload_n 0, 1) := by decide +kernel
theorem dX7_lose_10 : decode cX7_lose 10 = .ok (.getfield 43, 3) := by decide +kernel
theorem dX7_lose_13 : decode cX7_lose 13 = .ok (.iload_n 1, 1) := by decide +kernel
theorem dX7_lose_14 : decode cX7_lose 14 = .ok (.iaload, 1) := by decide +kernel
theorem dX7_lose_15 : decode cX7_lose 15 = .ok (.ifCond .ge 7, 3) := by decide +kernel
theorem dX7_lose_18 : decode cX7_lose 18 = .ok (.iconst 0, 1) := by decide +kernel
theorem dX7_lose_19 : decode cX7_lose 19 = .ok (.goto 4, 3) := by decide +kernel
theorem dX7_lose_22 : decode cX7_lose 22 = .ok (.iconst 1, 1) := by decide +kernel
theorem dX7_lose_23 : decode cX7_lose 23 = .ok (.istore_n 2, 1) := by decide +kernel
theorem dX7_lose_24 : decode cX7_lose 24 = .ok (.aload_n 0, 1) := by decide +kernel
theorem dX7_lose_25 : decode cX7_lose 25 = .ok (.getfield 43, 3) := by decide +kernel
theorem dX7_lose_28 : decode cX7_lose 28 = .ok (.iload_n 1, 1) := by decide +kernel
theorem dX7_lose_29 : decode cX7_lose 29 = .ok (.iconst (-1), 1) := by decide +kernel
theorem dX7_lose_30 : decode cX7_lose 30 = .ok (.iastore, 1) := by decide +kernel
theorem dX7_lose_31 : decode cX7_lose 31 = .ok (.iload_n 2, 1) := by decide +kernel
theorem dX7_lose_32 : decode cX7_lose 32 = .ok (.ireturn, 1) := by decide +kernel
theorem dX7_noCell_0 : decode cX7_noCell 0 = .ok (.aload_n 0, 1) := by decide +kernel
theorem dX7_noCell_1 : decode cX7_noCell 1 = .ok (.getfield 43, 3) := by decide +kernel
theorem dX7_noCell_4 : decode cX7_noCell 4 = .ok (.iload_n 1, 1) := by decide +kernel
theorem dX7_noCell_5 : decode cX7_noCell 5 = .ok (.iaload, 1) := by decide +kernel
theorem dX7_noCell_6 : decode cX7_noCell 6 = .ok (.ifCond .ge 7, 3) := by decide +kernel
theorem dX7_noCell_9 : decode cX7_noCell 9 = .ok (.iconst 1, 1) := by decide +kernel
theorem dX7_noCell_10 : decode cX7_noCell 10 = .ok (.goto 26, 3) := by decide +kernel
theorem dX7_noCell_13 : decode cX7_noCell 13 = .ok (.iload_n 2, 1) := by decide +kernel
theorem dX7_noCell_14 : decode cX7_noCell 14 = .ok (.i2l, 1) := by decide +kernel
theorem dX7_noCell_15 : decode cX7_noCell 15 = .ok (.lconst 0, 1) := by decide +kernel
theorem dX7_noCell_16 : decode cX7_noCell 16 = .ok (.aload_n 0, 1) := by decide +kernel
theorem dX7_noCell_17 : decode cX7_noCell 17 = .ok (.getfield 43, 3) := by decide +kernel
theorem dX7_noCell_20 : decode cX7_noCell 20 = .ok (.iload_n 1, 1) := by decide +kernel
theorem dX7_noCell_21 : decode cX7_noCell 21 = .ok (.iaload, 1) := by decide +kernel
theorem dX7_noCell_22 : decode cX7_noCell 22 = .ok (.i2l, 1) := by decide +kernel
theorem dX7_noCell_23 : decode cX7_noCell 23 = .ok (.lconst 1, 1) := by decide +kernel
theorem dX7_noCell_24 : decode cX7_noCell 24 = .ok (.lsub, 1) := by decide +kernel
theorem dX7_noCell_25 : decode cX7_noCell 25 = .ok (.invokestatic 67, 3) := by decide +kernel
theorem dX7_noCell_28 : decode cX7_noCell 28 = .ok (.ifCond .eq 7, 3) := by decide +kernel
theorem dX7_noCell_31 : decode cX7_noCell 31 = .ok (.iconst 0, 1) := by decide +kernel
theorem dX7_noCell_32 : decode cX7_noCell 32 = .ok (.goto 4, 3) := by decide +kernel
theorem dX7_noCell_35 : decode cX7_noCell 35 = .ok (.iconst 3, 1) := by decide +kernel
theorem dX7_noCell_36 : decode cX7_noCell 36 = .ok (.ireturn, 1) := by decide +kernel
theorem dX7_put_0 : decode cX7_put 0 = .ok (.iload_n 1, 1) := by decide +kernel
theorem dX7_put_1 : decode cX7_put 1 = .ok (.invokestatic 96, 3) := by decide +kernel
theorem dX7_put_4 : decode cX7_put 4 = .ok (.ifCond .eq 9, 3) := by decide +kernel
theorem dX7_put_7 : decode cX7_put 7 = .ok (.aload_n 0, 1) := by decide +kernel
theorem dX7_put_8 : decode cX7_put 8 = .ok (.iconst (-1), 1) := by decide +kernel
theorem dX7_put_9 : decode cX7_put 9 = .ok (.invokevirtual 71, 3) := by decide +kernel
theorem dX7_put_12 : decode cX7_put 12 = .ok (.ireturn, 1) := by decide +kernel
theorem dX7_put_13 : decode cX7_put 13 = .ok (.aload_n 0, 1) := by decide +kernel
theorem dX7_put_14 : decode cX7_put 14 = .ok (.iload_n 1, 1) := by decide +kernel
theorem dX7_put_15 : decode cX7_put 15 = .ok (.iload_n 2, 1) := by decide +kernel
theorem dX7_put_16 : decode cX7_put 16 = .ok (.invokevirtual 250, 3) := by decide +kernel
theorem dX7_put_19 : decode cX7_put 19 = .ok (.ifCond .le 14, 3) := by decide +kernel
theorem dX7_put_22 : decode cX7_put 22 = .ok (.aload_n 0, 1) := by decide +kernel
theorem dX7_put_23 : decode cX7_put 23 = .ok (.aload_n 0, 1) := by decide +kernel
theorem dX7_put_24 : decode cX7_put 24 = .ok (.iload_n 1, 1) := by decide +kernel
theorem dX7_put_25 : decode cX7_put 25 = .ok (.iload_n 2, 1) := by decide +kernel
theorem dX7_put_26 : decode cX7_put 26 = .ok (.invokevirtual 250, 3) := by decide +kernel
theorem dX7_put_29 : decode cX7_put 29 = .ok (.invokevirtual 75, 3) := by decide +kernel
theorem dX7_put_32 : decode cX7_put 32 = .ok (.ireturn, 1) := by decide +kernel
theorem dX7_put_33 : decode cX7_put 33 = .ok (.aload_n 0, 1) := by decide +kernel
theorem dX7_put_34 : decode cX7_put 34 = .ok (.getfield 49, 3) := by decide +kernel
theorem dX7_put_37 : decode cX7_put 37 = .ok (.bipush 60, 2) := by decide +kernel
theorem dX7_put_39 : decode cX7_put 39 = .ok (.iload_n 1, 1) := by decide +kernel
theorem dX7_put_40 : decode cX7_put 40 = .ok (.imul, 1) := by decide +kernel
theorem dX7_put_41 : decode cX7_put 41 = .ok (.iload_n 2, 1) := by decide +kernel
theorem dX7_put_42 : decode cX7_put 42 = .ok (.iadd, 1) := by decide +kernel
theorem dX7_put_43 : decode cX7_put 43 = .ok (.aload_n 0, 1) := by decide +kernel
theorem dX7_put_44 : decode cX7_put 44 = .ok (.getfield 46, 3) := by decide +kernel
theorem dX7_put_47 : decode cX7_put 47 = .ok (.iload_n 1, 1) := by decide +kernel
theorem dX7_put_48 : decode cX7_put 48 = .ok (.iaload, 1) := by decide +kernel
theorem dX7_put_49 : decode cX7_put 49 = .ok (.ifCond .ne 8, 3) := by decide +kernel
theorem dX7_put_52 : decode cX7_put 52 = .ok (.iload_n 3, 1) := by decide +kernel
theorem dX7_put_53 : decode cX7_put 53 = .ok (.i2b, 1) := by decide +kernel
theorem dX7_put_54 : decode cX7_put 54 = .ok (.goto 19, 3) := by decide +kernel
theorem dX7_put_57 : decode cX7_put 57 = .ok (.aload_n 0, 1) := by decide +kernel
theorem dX7_put_58 : decode cX7_put 58 = .ok (.getfield 46, 3) := by decide +kernel
theorem dX7_put_61 : decode cX7_put 61 = .ok (.iload_n 1, 1) := by decide +kernel
theorem dX7_put_62 : decode cX7_put 62 = .ok (.iaload, 1) := by decide +kernel
theorem dX7_put_63 : decode cX7_put 63 = .ok (.iconst 1, 1) := by decide +kernel
theorem dX7_put_64 : decode cX7_put 64 = .ok (.if_icmp .ne 8, 3) := by decide +kernel
theorem dX7_put_67 : decode cX7_put 67 = .ok (.iload_n 3, 1) := by decide +kernel
theorem dX7_put_68 : decode cX7_put 68 = .ok (.i2s, 1) := by decide +kernel
theorem dX7_put_69 : decode cX7_put 69 = .ok (.goto 4, 3) := by decide +kernel
theorem dX7_put_72 : decode cX7_put 72 = .ok (.iload_n 3, 1) := by decide +kernel
theorem dX7_put_73 : decode cX7_put 73 = .ok (.iastore, 1) := by decide +kernel
theorem dX7_put_74 : decode cX7_put 74 = .ok (.aload_n 0, 1) := by decide +kernel
theorem dX7_put_75 : decode cX7_put 75 = .ok (.iconst 1, 1) := by decide +kernel
theorem dX7_put_76 : decode cX7_put 76 = .ok (.invokevirtual 71, 3) := by decide +kernel
theorem dX7_put_79 : decode cX7_put 79 = .ok (.ireturn, 1) := by decide +kernel
theorem dX7_cell_0 : decode cX7_cell 0 = .ok (.aload_n 0, 1) := by decide +kernel
theorem dX7_cell_1 : decode cX7_cell 1 = .ok (.iconst 0, 1) := by decide +kernel
theorem dX7_cell_2 : decode cX7_cell 2 = .ok (.putfield 57, 3) := by decide +kernel
theorem dX7_cell_5 : decode cX7_cell 5 = .ok (.iload_n 1, 1) := by decide +kernel
theorem dX7_cell_6 : decode cX7_cell 6 = .ok (.invokestatic 96, 3) := by decide +kernel
theorem dX7_cell_9 : decode cX7_cell 9 = .ok (.ifCond .ne 15, 3) := by decide +kernel
theorem dX7_cell_12 : decode cX7_cell 12 = .ok (.iload_n 3, 1) := by decide +kernel
theorem dX7_cell_13 : decode cX7_cell 13 = .ok (.i2l, 1) := by decide +kernel
theorem dX7_cell_14 : decode cX7_cell 14 = .ok (.lconst 0, 1) := by decide +kernel
theorem dX7_cell_15 : decode cX7_cell 15 = .ok (.ldc2_w 65, 3) := by decide +kernel
theorem dX7_cell_18 : decode cX7_cell 18 = .ok (.invokestatic 67, 3) := by decide +kernel
theorem dX7_cell_21 : decode cX7_cell 21 = .ok (.ifCond .ne 7, 3) := by decide +kernel
theorem dX7_cell_24 : decode cX7_cell 24 = .ok (.invokestatic 61, 3) := by decide +kernel
theorem dX7_cell_27 : decode cX7_cell 27 = .ok (.lreturn, 1) := by decide +kernel
theorem dX7_cell_28 : decode cX7_cell 28 = .ok (.aload_n 0, 1) := by decide +kernel
theorem dX7_cell_29 : decode cX7_cell 29 = .ok (.getfield 43, 3) := by decide +kernel
theorem dX7_cell_32 : decode cX7_cell 32 = .ok (.iload_n 1, 1) := by decide +kernel
theorem dX7_cell_33 : decode cX7_cell 33 = .ok (.iaload, 1) := by decide +kernel
theorem dX7_cell_34 : decode cX7_cell 34 = .ok (.ifCond .lt 19, 3) := by decide +kernel
theorem dX7_cell_37 : decode cX7_cell 37 = .ok (.aload_n 0, 1) := by decide +kernel
theorem dX7_cell_38 : decode cX7_cell 38 = .ok (.getfield 46, 3) := by decide +kernel
theorem dX7_cell_41 : decode cX7_cell 41 = .ok (.iload_n 1, 1) := by decide +kernel
theorem dX7_cell_42 : decode cX7_cell 42 = .ok (.iaload, 1) := by decide +kernel
theorem dX7_cell_43 : decode cX7_cell 43 = .ok (.iload_n 3, 1) := by decide +kernel
theorem dX7_cell_44 : decode cX7_cell 44 = .ok (.if_icmp .eq 9, 3) := by decide +kernel
theorem dX7_cell_47 : decode cX7_cell 47 = .ok (.aload_n 0, 1) := by decide +kernel
theorem dX7_cell_48 : decode cX7_cell 48 = .ok (.iconst 2, 1) := by decide +kernel
theorem dX7_cell_49 : decode cX7_cell 49 = .ok (.invokevirtual 253, 3) := by decide +kernel
theorem dX7_cell_52 : decode cX7_cell 52 = .ok (.lreturn, 1) := by decide +kernel
theorem dX7_cell_53 : decode cX7_cell 53 = .ok (.aload_n 0, 1) := by decide +kernel
theorem dX7_cell_54 : decode cX7_cell 54 = .ok (.iload_n 1, 1) := by decide +kernel
theorem dX7_cell_55 : decode cX7_cell 55 = .ok (.iload_n 2, 1) := by decide +kernel
theorem dX7_cell_56 : decode cX7_cell 56 = .ok (.invokevirtual 250, 3) := by decide +kernel
theorem dX7_cell_59 : decode cX7_cell 59 = .ok (.ifCond .le 16, 3) := by decide +kernel
theorem dX7_cell_62 : decode cX7_cell 62 = .ok (.aload_n 0, 1) := by decide +kernel
theorem dX7_cell_63 : decode cX7_cell 63 = .ok (.aload_n 0, 1) := by decide +kernel
theorem dX7_cell_64 : decode cX7_cell 64 = .ok (.iload_n 1, 1) := by decide +kernel
theorem dX7_cell_65 : decode cX7_cell 65 = .ok (.iload_n 2, 1) := by decide +kernel
theorem dX7_cell_66 : decode cX7_cell 66 = .ok (.invokevirtual 250, 3) := by decide +kernel
theorem dX7_cell_69 : decode cX7_cell 69 = .ok (.invokevirtual 253, 3) := by decide +kernel
theorem dX7_cell_72 : decode cX7_cell 72 = .ok (.goto 15, 3) := by decide +kernel
theorem dX7_cell_75 : decode cX7_cell 75 = .ok (.aload_n 0, 1) := by decide +kernel
theorem dX7_cell_76 : decode cX7_cell 76 = .ok (.getfield 49, 3) := by decide +kernel
theorem dX7_cell_79 : decode cX7_cell 79 = .ok (.bipush 60, 2) := by decide +kernel
theorem dX7_cell_81 : decode cX7_cell 81 = .ok (.iload_n 1, 1) := by decide +kernel
theorem dX7_cell_82 : decode cX7_cell 82 = .ok (.imul, 1) := by decide +kernel
theorem dX7_cell_83 : decode cX7_cell 83 = .ok (.iload_n 2, 1) := by decide +kernel
theorem dX7_cell_84 : decode cX7_cell 84 = .ok (.iadd, 1) := by decide +kernel
theorem dX7_cell_85 : decode cX7_cell 85 = .ok (.iaload, 1) := by decide +kernel
theorem dX7_cell_86 : decode cX7_cell 86 = .ok (.i2l, 1) := by decide +kernel
theorem dX7_cell_87 : decode cX7_cell 87 = .ok (.lreturn, 1) := by decide +kernel
theorem dX7_isBeyond_0 : decode cX7_isBeyond 0 = .ok (.iload_n 0, 1) := by decide +kernel
theorem dX7_isBeyond_1 : decode cX7_isBeyond 1 = .ok (.ifCond .lt 19, 3) := by decide +kernel
theorem dX7_isBeyond_4 : decode cX7_isBeyond 4 = .ok (.lload_n 1, 1) := by decide +kernel
theorem dX7_isBeyond_5 : decode cX7_isBeyond 5 = .ok (.lconst 0, 1) := by decide +kernel
theorem dX7_isBeyond_6 : decode cX7_isBeyond 6 = .ok (.lcmp, 1) := by decide +kernel
theorem dX7_isBeyond_7 : decode cX7_isBeyond 7 = .ok (.ifCond .lt 13, 3) := by decide +kernel
theorem dX7_isBeyond_10 : decode cX7_isBeyond 10 = .ok (.iload_n 0, 1) := by decide +kernel
theorem dX7_isBeyond_11 : decode cX7_isBeyond 11 = .ok (.i2l, 1) := by decide +kernel
theorem dX7_isBeyond_12 : decode cX7_isBeyond 12 = .ok (.lload_n 1, 1) := by decide +kernel
theorem dX7_isBeyond_13 : decode cX7_isBeyond 13 = .ok (.ladd, 1) := by decide +kernel
theorem dX7_isBeyond_14 : decode cX7_isBeyond 14 = .ok (.iload_n 3, 1) := by decide +kernel
theorem dX7_isBeyond_15 : decode cX7_isBeyond 15 = .ok (.i2l, 1) := by decide +kernel
theorem dX7_isBeyond_16 : decode cX7_isBeyond 16 = .ok (.lcmp, 1) := by decide +kernel
theorem dX7_isBeyond_17 : decode cX7_isBeyond 17 = .ok (.ifCond .le 7, 3) := by decide +kernel
theorem dX7_isBeyond_20 : decode cX7_isBeyond 20 = .ok (.iconst 1, 1) := by decide +kernel
theorem dX7_isBeyond_21 : decode cX7_isBeyond 21 = .ok (.goto 4, 3) := by decide +kernel
theorem dX7_isBeyond_24 : decode cX7_isBeyond 24 = .ok (.iconst 0, 1) := by decide +kernel
theorem dX7_isBeyond_25 : decode cX7_isBeyond 25 = .ok (.ireturn, 1) := by decide +kernel
theorem dX7_copy_0 : decode cX7_copy 0 = .ok (.iload_n 1, 1) := by decide +kernel
theorem dX7_copy_1 : decode cX7_copy 1 = .ok (.invokestatic 96, 3) := by decide +kernel
theorem dX7_copy_4 : decode cX7_copy 4 = .ok (.ifCond .ne 10, 3) := by decide +kernel
theorem dX7_copy_7 : decode cX7_copy 7 = .ok (.iload_n 3, 1) := by decide +kernel
theorem dX7_copy_8 : decode cX7_copy 8 = .ok (.invokestatic 96, 3) := by decide +kernel
theorem dX7_copy_11 : decode cX7_copy 11 = .ok (.ifCond .eq 9, 3) := by decide +kernel
theorem dX7_copy_14 : decode cX7_copy 14 = .ok (.aload_n 0, 1) := by decide +kernel
theorem dX7_copy_15 : decode cX7_copy 15 = .ok (.iconst (-1), 1) := by decide +kernel
theorem dX7_copy_16 : decode cX7_copy 16 = .ok (.invokevirtual 71, 3) := by decide +kernel
theorem dX7_copy_19 : decode cX7_copy 19 = .ok (.ireturn, 1) := by decide +kernel
theorem dX7_copy_20 : decode cX7_copy 20 = .ok (.aload_n 0, 1) := by decide +kernel
theorem dX7_copy_21 : decode cX7_copy 21 = .ok (.getfield 43, 3) := by decide +kernel
theorem dX7_copy_24 : decode cX7_copy 24 = .ok (.iload_n 1, 1) := by decide +kernel
theorem dX7_copy_25 : decode cX7_copy 25 = .ok (.iaload, 1) := by decide +kernel
theorem dX7_copy_26 : decode cX7_copy 26 = .ok (.ifCond .lt 12, 3) := by decide +kernel
theorem dX7_copy_29 : decode cX7_copy 29 = .ok (.aload_n 0, 1) := by decide +kernel
theorem dX7_copy_30 : decode cX7_copy 30 = .ok (.getfield 43, 3) := by decide +kernel
theorem dX7_copy_33 : decode cX7_copy 33 = .ok (.iload_n 3, 1) := by decide +kernel
theorem dX7_copy_34 : decode cX7_copy 34 = .ok (.iaload, 1) := by decide +kernel
theorem dX7_copy_35 : decode cX7_copy 35 = .ok (.ifCond .ge 9, 3) := by decide +kernel
theorem dX7_copy_38 : decode cX7_copy 38 = .ok (.aload_n 0, 1) := by decide +kernel
theorem dX7_copy_39 : decode cX7_copy 39 = .ok (.iconst 1, 1) := by decide +kernel
theorem dX7_copy_40 : decode cX7_copy 40 = .ok (.invokevirtual 75, 3) := by decide +kernel
theorem dX7_copy_43 : decode cX7_copy 43 = .ok (.ireturn, 1) := by decide +kernel
theorem dX7_copy_44 : decode cX7_copy 44 = .ok (.aload_n 0, 1) := by decide +kernel
theorem dX7_copy_45 : decode cX7_copy 45 = .ok (.getfield 46, 3) := by decide +kernel
theorem dX7_copy_48 : decode cX7_copy 48 = .ok (.iload_n 1, 1) := by decide +kernel
theorem dX7_copy_49 : decode cX7_copy 49 = .ok (.iaload, 1) := by decide +kernel
theorem dX7_copy_50 : decode cX7_copy 50 = .ok (.aload_n 0, 1) := by decide +kernel
theorem dX7_copy_51 : decode cX7_copy 51 = .ok (.getfield 46, 3) := by decide +kernel
theorem dX7_copy_54 : decode cX7_copy 54 = .ok (.iload_n 3, 1) := by decide +kernel
theorem dX7_copy_55 : decode cX7_copy 55 = .ok (.iaload, 1) := by decide +kernel
theorem dX7_copy_56 : decode cX7_copy 56 = .ok (.if_icmp .eq 9, 3) := by decide +kernel
theorem dX7_copy_59 : decode cX7_copy 59 = .ok (.aload_n 0, 1) := by decide +kernel
theorem dX7_copy_60 : decode cX7_copy 60 = .ok (.iconst 2, 1) := by decide +kernel
theorem dX7_copy_61 : decode cX7_copy 61 = .ok (.invokevirtual 75, 3) := by decide +kernel
theorem dX7_copy_64 : decode cX7_copy 64 = .ok (.ireturn, 1) := by decide +kernel
theorem dX7_copy_65 : decode cX7_copy 65 = .ok (.iload_n 2, 1) := by decide +kernel
theorem dX7_copy_66 : decode cX7_copy 66 = .ok (.iload 5, 2) := by decide +kernel
theorem dX7_copy_68 : decode cX7_copy 68 = .ok (.i2l, 1) := by decide +kernel
theorem dX7_copy_69 : decode cX7_copy 69 = .ok (.aload_n 0, 1) := by decide +kernel
theorem dX7_copy_70 : decode cX7_copy 70 = .ok (.getfield 43, 3) := by decide +kernel
theorem dX7_copy_73 : decode cX7_copy 73 = .ok (.iload_n 1, 1) := by decide +kernel
theorem dX7_copy_74 : decode cX7_copy 74 = .ok (.iaload, 1) := by decide +kernel
theorem dX7_copy_75 : decode cX7_copy 75 = .ok (.invokestatic 78, 3) := by decide +kernel
theorem dX7_copy_78 : decode cX7_copy 78 = .ok (.ifCond .ne 20, 3) := by decide +kernel
theorem dX7_copy_81 : decode cX7_copy 81 = .ok (.iload 4, 2) := by decide +kernel
theorem dX7_copy_83 : decode cX7_copy 83 = .ok (.iload 5, 2) := by decide +kernel
theorem dX7_copy_85 : decode cX7_copy 85 = .ok (.i2l, 1) := by decide +kernel
theorem dX7_copy_86 : decode cX7_copy 86 = .ok (.aload_n 0, 1) := by decide +kernel
theorem dX7_copy_87 : decode cX7_copy 87 = .ok (.getfield 43, 3) := by decide +kernel
theorem dX7_copy_90 : decode cX7_copy 90 = .ok (.iload_n 3, 1) := by decide +kernel
theorem dX7_copy_91 : decode cX7_copy 91 = .ok (.iaload, 1) := by decide +kernel
theorem dX7_copy_92 : decode cX7_copy 92 = .ok (.invokestatic 78, 3) := by decide +kernel
theorem dX7_copy_95 : decode cX7_copy 95 = .ok (.ifCond .eq 9, 3) := by decide +kernel
theorem dX7_copy_98 : decode cX7_copy 98 = .ok (.aload_n 0, 1) := by decide +kernel
theorem dX7_copy_99 : decode cX7_copy 99 = .ok (.iconst 3, 1) := by decide +kernel
theorem dX7_copy_100 : decode cX7_copy 100 = .ok (.invokevirtual 75, 3) := by decide +kernel
theorem dX7_copy_103 : decode cX7_copy 103 = .ok (.ireturn, 1) := by decide +kernel
theorem dX7_copy_104 : decode cX7_copy 104 = .ok (.iconst 0, 1) := by decide +kernel
theorem dX7_copy_105 : decode cX7_copy 105 = .ok (.istore 6, 2) := by decide +kernel
theorem dX7_copy_107 : decode cX7_copy 107 = .ok (.iload 6, 2) := by decide +kernel
theorem dX7_copy_109 : decode cX7_copy 109 = .ok (.iload 5, 2) := by decide +kernel
theorem dX7_copy_111 : decode cX7_copy 111 = .ok (.if_icmp .ge 30, 3) := by decide +kernel
theorem dX7_copy_114 : decode cX7_copy 114 = .ok (.aload_n 0, 1) := by decide +kernel
theorem dX7_copy_115 : decode cX7_copy 115 = .ok (.getfield 52, 3) := by decide +kernel
theorem dX7_copy_118 : decode cX7_copy 118 = .ok (.iload 6, 2) := by decide +kernel
theorem dX7_copy_120 : decode cX7_copy 120 = .ok (.aload_n 0, 1) := by decide +kernel
theorem dX7_copy_121 : decode cX7_copy 121 = .ok (.getfield 49, 3) := by decide +kernel
theorem dX7_copy_124 : decode cX7_copy 124 = .ok (.bipush 60, 2) := by decide +kernel
theorem dX7_copy_126 : decode cX7_copy 126 = .ok (.iload_n 1, 1) := by decide +kernel
theorem dX7_copy_127 : decode cX7_copy 127 = .ok (.imul, 1) := by decide +kernel
theorem dX7_copy_128 : decode cX7_copy 128 = .ok (.iload_n 2, 1) := by decide +kernel
theorem dX7_copy_129 : decode cX7_copy 129 = .ok (.iadd, 1) := by decide +kernel
theorem dX7_copy_130 : decode cX7_copy 130 = .ok (.iload 6, 2) := by decide +kernel
theorem dX7_copy_132 : decode cX7_copy 132 = .ok (.iadd, 1) := by decide +kernel
theorem dX7_copy_133 : decode cX7_copy 133 = .ok (.iaload, 1) := by decide +kernel
theorem dX7_copy_134 : decode cX7_copy 134 = .ok (.iastore, 1) := by decide +kernel
theorem dX7_copy_135 : decode cX7_copy 135 = .ok (.iinc 6 1, 3) := by decide +kernel
theorem dX7_copy_138 : decode cX7_copy 138 = .ok (.goto (-31), 3) := by decide +kernel
theorem dX7_copy_141 : decode cX7_copy 141 = .ok (.iconst 0, 1) := by decide +kernel
theorem dX7_copy_142 : decode cX7_copy 142 = .ok (.istore 6, 2) := by decide +kernel
theorem dX7_copy_144 : decode cX7_copy 144 = .ok (.iload 6, 2) := by decide +kernel
theorem dX7_copy_146 : decode cX7_copy 146 = .ok (.iload 5, 2) := by decide +kernel
theorem dX7_copy_148 : decode cX7_copy 148 = .ok (.if_icmp .ge 31, 3) := by decide +kernel
theorem dX7_copy_151 : decode cX7_copy 151 = .ok (.aload_n 0, 1) := by decide +kernel
theorem dX7_copy_152 : decode cX7_copy 152 = .ok (.getfield 49, 3) := by decide +kernel
theorem dX7_copy_155 : decode cX7_copy 155 = .ok (.bipush 60, 2) := by decide +kernel
theorem dX7_copy_157 : decode cX7_copy 157 = .ok (.iload_n 3, 1) := by decide +kernel
theorem dX7_copy_158 : decode cX7_copy 158 = .ok (.imul, 1) := by decide +kernel
theorem dX7_copy_159 : decode cX7_copy 159 = .ok (.iload 4, 2) := by decide +kernel
theorem dX7_copy_161 : decode cX7_copy 161 = .ok (.iadd, 1) := by decide +kernel
theorem dX7_copy_162 : decode cX7_copy 162 = .ok (.iload 6, 2) := by decide +kernel
theorem dX7_copy_164 : decode cX7_copy 164 = .ok (.iadd, 1) := by decide +kernel
theorem dX7_copy_165 : decode cX7_copy 165 = .ok (.aload_n 0, 1) := by decide +kernel
theorem dX7_copy_166 : decode cX7_copy 166 = .ok (.getfield 52, 3) := by decide +kernel
theorem dX7_copy_169 : decode cX7_copy 169 = .ok (.iload 6, 2) := by decide +kernel
theorem dX7_copy_171 : decode cX7_copy 171 = .ok (.iaload, 1) := by decide +kernel
theorem dX7_copy_172 : decode cX7_copy 172 = .ok (.iastore, 1) := by decide +kernel
theorem dX7_copy_173 : decode cX7_copy 173 = .ok (.iinc 6 1, 3) := by decide +kernel
theorem dX7_copy_176 : decode cX7_copy 176 = .ok (.goto (-32), 3) := by decide +kernel
theorem dX7_copy_179 : decode cX7_copy 179 = .ok (.aload_n 0, 1) := by decide +kernel
theorem dX7_copy_180 : decode cX7_copy 180 = .ok (.iload 5, 2) := by decide +kernel
theorem dX7_copy_182 : decode cX7_copy 182 = .ok (.invokevirtual 71, 3) := by decide +kernel
theorem dX7_copy_185 : decode cX7_copy 185 = .ok (.ireturn, 1) := by decide +kernel
theorem dX7_traced_0 : decode cX7_traced 0 = .ok (.aload_n 0, 1) := by decide +kernel
theorem dX7_traced_1 : decode cX7_traced 1 = .ok (.bipush 31, 2) := by decide +kernel
theorem dX7_traced_3 : decode cX7_traced 3 = .ok (.aload_n 0, 1) := by decide +kernel
theorem dX7_traced_4 : decode cX7_traced 4 = .ok (.getfield 257, 3) := by decide +kernel
theorem dX7_traced_7 : decode cX7_traced 7 = .ok (.imul, 1) := by decide +kernel
theorem dX7_traced_8 : decode cX7_traced 8 = .ok (.iload_n 1, 1) := by decide +kernel
theorem dX7_traced_9 : decode cX7_traced 9 = .ok (.iadd, 1) := by decide +kernel
theorem dX7_traced_10 : decode cX7_traced 10 = .ok (.putfield 257, 3) := by decide +kernel
theorem dX7_traced_13 : decode cX7_traced 13 = .ok (.return_, 1) := by decide +kernel
theorem dX7_tell_0 : decode cX7_tell 0 = .ok (.aload_n 0, 1) := by decide +kernel
theorem dX7_tell_1 : decode cX7_tell 1 = .ok (.iload_n 1, 1) := by decide +kernel
theorem dX7_tell_2 : decode cX7_tell 2 = .ok (.invokevirtual 161, 3) := by decide +kernel
theorem dX7_tell_5 : decode cX7_tell 5 = .ok (.ifCond .eq 5, 3) := by decide +kernel
theorem dX7_tell_8 : decode cX7_tell 8 = .ok (.iconst (-1), 1) := by decide +kernel
theorem dX7_tell_9 : decode cX7_tell 9 = .ok (.ireturn, 1) := by decide +kernel
theorem dX7_tell_10 : decode cX7_tell 10 = .ok (.aload_n 0, 1) := by decide +kernel
theorem dX7_tell_11 : decode cX7_tell 11 = .ok (.getfield 7, 3) := by decide +kernel
theorem dX7_tell_14 : decode cX7_tell 14 = .ok (.iload_n 1, 1) := by decide +kernel
theorem dX7_tell_15 : decode cX7_tell 15 = .ok (.iaload, 1) := by decide +kernel
theorem dX7_tell_16 : decode cX7_tell 16 = .ok (.istore_n 2, 1) := by decide +kernel
theorem dX7_tell_17 : decode cX7_tell 17 = .ok (.iload_n 2, 1) := by decide +kernel
theorem dX7_tell_18 : decode cX7_tell 18 = .ok (.iconst 2, 1) := by decide +kernel
theorem dX7_tell_19 : decode cX7_tell 19 = .ok (.if_icmp .ne 8, 3) := by decide +kernel
theorem dX7_tell_22 : decode cX7_tell 22 = .ok (.aload_n 0, 1) := by decide +kernel
theorem dX7_tell_23 : decode cX7_tell 23 = .ok (.iconst 3, 1) := by decide +kernel
theorem dX7_tell_24 : decode cX7_tell 24 = .ok (.invokevirtual 260, 3) := by decide +kernel
theorem dX7_tell_27 : decode cX7_tell 27 = .ok (.iload_n 2, 1) := by decide +kernel
theorem dX7_tell_28 : decode cX7_tell 28 = .ok (.ifCond .le 8, 3) := by decide +kernel
theorem dX7_tell_31 : decode cX7_tell 31 = .ok (.aload_n 0, 1) := by decide +kernel
theorem dX7_tell_32 : decode cX7_tell 32 = .ok (.iconst 2, 1) := by decide +kernel
theorem dX7_tell_33 : decode cX7_tell 33 = .ok (.invokevirtual 260, 3) := by decide +kernel
theorem dX7_tell_36 : decode cX7_tell 36 = .ok (.aload_n 0, 1) := by decide +kernel
theorem dX7_tell_37 : decode cX7_tell 37 = .ok (.iconst 1, 1) := by decide +kernel
theorem dX7_tell_38 : decode cX7_tell 38 = .ok (.invokevirtual 260, 3) := by decide +kernel
theorem dX7_tell_41 : decode cX7_tell 41 = .ok (.iload_n 2, 1) := by decide +kernel
theorem dX7_tell_42 : decode cX7_tell 42 = .ok (.iconst 2, 1) := by decide +kernel
theorem dX7_tell_43 : decode cX7_tell 43 = .ok (.if_icmp .ne 8, 3) := by decide +kernel
theorem dX7_tell_46 : decode cX7_tell 46 = .ok (.aload_n 0, 1) := by decide +kernel
theorem dX7_tell_47 : decode cX7_tell 47 = .ok (.iconst 1, 1) := by decide +kernel
theorem dX7_tell_48 : decode cX7_tell 48 = .ok (.invokevirtual 260, 3) := by decide +kernel
theorem dX7_tell_51 : decode cX7_tell 51 = .ok (.aload_n 0, 1) := by decide +kernel
theorem dX7_tell_52 : decode cX7_tell 52 = .ok (.iload_n 1, 1) := by decide +kernel
theorem dX7_tell_53 : decode cX7_tell 53 = .ok (.bipush 10, 2) := by decide +kernel
theorem dX7_tell_55 : decode cX7_tell 55 = .ok (.invokevirtual 108, 3) := by decide +kernel
theorem dX7_tell_58 : decode cX7_tell 58 = .ok (.istore_n 3, 1) := by decide +kernel
theorem dX7_tell_59 : decode cX7_tell 59 = .ok (.iload_n 2, 1) := by decide +kernel
theorem dX7_tell_60 : decode cX7_tell 60 = .ok (.ifCond .ne 7, 3) := by decide +kernel
theorem dX7_tell_63 : decode cX7_tell 63 = .ok (.iload_n 3, 1) := by decide +kernel
theorem dX7_tell_64 : decode cX7_tell 64 = .ok (.goto 23, 3) := by decide +kernel
theorem dX7_tell_67 : decode cX7_tell 67 = .ok (.iload_n 2, 1) := by decide +kernel
theorem dX7_tell_68 : decode cX7_tell 68 = .ok (.iconst 1, 1) := by decide +kernel
theorem dX7_tell_69 : decode cX7_tell 69 = .ok (.if_icmp .ne 11, 3) := by decide +kernel
theorem dX7_tell_72 : decode cX7_tell 72 = .ok (.iload_n 3, 1) := by decide +kernel
theorem dX7_tell_73 : decode cX7_tell 73 = .ok (.ldc_w 263, 3) := by decide +kernel
theorem dX7_tell_76 : decode cX7_tell 76 = .ok (.iadd, 1) := by decide +kernel
theorem dX7_tell_77 : decode cX7_tell 77 = .ok (.goto 10, 3) := by decide +kernel
theorem dX7_tell_80 : decode cX7_tell 80 = .ok (.iconst 2, 1) := by decide +kernel
theorem dX7_tell_81 : decode cX7_tell 81 = .ok (.iload_n 3, 1) := by decide +kernel
theorem dX7_tell_82 : decode cX7_tell 82 = .ok (.imul, 1) := by decide +kernel
theorem dX7_tell_83 : decode cX7_tell 83 = .ok (.ldc_w 263, 3) := by decide +kernel
theorem dX7_tell_86 : decode cX7_tell 86 = .ok (.iadd, 1) := by decide +kernel
theorem dX7_tell_87 : decode cX7_tell 87 = .ok (.ireturn, 1) := by decide +kernel
theorem dX7_draw_0 : decode cX7_draw 0 = .ok (.aload_n 0, 1) := by decide +kernel
theorem dX7_draw_1 : decode cX7_draw 1 = .ok (.iload_n 1, 1) := by decide +kernel
theorem dX7_draw_2 : decode cX7_draw 2 = .ok (.invokevirtual 161, 3) := by decide +kernel
theorem dX7_draw_5 : decode cX7_draw 5 = .ok (.ifCond .eq 5, 3) := by decide +kernel
theorem dX7_draw_8 : decode cX7_draw 8 = .ok (.iconst (-1), 1) := by decide +kernel
theorem dX7_draw_9 : decode cX7_draw 9 = .ok (.ireturn, 1) := by decide +kernel
theorem dX7_draw_10 : decode cX7_draw 10 = .ok (.aload_n 0, 1) := by decide +kernel
theorem dX7_draw_11 : decode cX7_draw 11 = .ok (.aload_n 0, 1) := by decide +kernel
theorem dX7_draw_12 : decode cX7_draw 12 = .ok (.getfield 7, 3) := by decide +kernel
theorem dX7_draw_15 : decode cX7_draw 15 = .ok (.iload_n 1, 1) := by decide +kernel
theorem dX7_draw_16 : decode cX7_draw 16 = .ok (.iaload, 1) := by decide +kernel
theorem dX7_draw_17 : decode cX7_draw 17 = .ok (.iconst 2, 1) := by decide +kernel
theorem dX7_draw_18 : decode cX7_draw 18 = .ok (.if_icmp .ne 7, 3) := by decide +kernel
theorem dX7_draw_21 : decode cX7_draw 21 = .ok (.iconst 5, 1) := by decide +kernel
theorem dX7_draw_22 : decode cX7_draw 22 = .ok (.goto 4, 3) := by decide +kernel
theorem dX7_draw_25 : decode cX7_draw 25 = .ok (.iconst 4, 1) := by decide +kernel
theorem dX7_draw_26 : decode cX7_draw 26 = .ok (.invokevirtual 260, 3) := by decide +kernel
theorem dX7_draw_29 : decode cX7_draw 29 = .ok (.aload_n 0, 1) := by decide +kernel
theorem dX7_draw_30 : decode cX7_draw 30 = .ok (.getfield 7, 3) := by decide +kernel
theorem dX7_draw_33 : decode cX7_draw 33 = .ok (.iload_n 1, 1) := by decide +kernel
theorem dX7_draw_34 : decode cX7_draw 34 = .ok (.iaload, 1) := by decide +kernel
theorem dX7_draw_35 : decode cX7_draw 35 = .ok (.iconst 2, 1) := by decide +kernel
theorem dX7_draw_36 : decode cX7_draw 36 = .ok (.if_icmp .ne 8, 3) := by decide +kernel
theorem dX7_draw_39 : decode cX7_draw 39 = .ok (.bipush 60, 2) := by decide +kernel
theorem dX7_draw_41 : decode cX7_draw 41 = .ok (.goto 4, 3) := by decide +kernel
theorem dX7_draw_44 : decode cX7_draw 44 = .ok (.iload_n 1, 1) := by decide +kernel
theorem dX7_draw_45 : decode cX7_draw 45 = .ok (.ireturn, 1) := by decide +kernel
theorem dX7_as_0 : decode cX7_as 0 = .ok (.aload_n 0, 1) := by decide +kernel
theorem dX7_as_1 : decode cX7_as 1 = .ok (.iload_n 1, 1) := by decide +kernel
theorem dX7_as_2 : decode cX7_as 2 = .ok (.invokevirtual 161, 3) := by decide +kernel
theorem dX7_as_5 : decode cX7_as 5 = .ok (.ifCond .eq 9, 3) := by decide +kernel
theorem dX7_as_8 : decode cX7_as 8 = .ok (.aload_n 0, 1) := by decide +kernel
theorem dX7_as_9 : decode cX7_as 9 = .ok (.iconst (-1), 1) := by decide +kernel
theorem dX7_as_10 : decode cX7_as 10 = .ok (.invokevirtual 71, 3) := by decide +kernel
theorem dX7_as_13 : decode cX7_as 13 = .ok (.ireturn, 1) := by decide +kernel
theorem dX7_as_14 : decode cX7_as 14 = .ok (.iload_n 2, 1) := by decide +kernel
theorem dX7_as_15 : decode cX7_as 15 = .ok (.i2l, 1) := by decide +kernel
theorem dX7_as_16 : decode cX7_as 16 = .ok (.lconst 0, 1) := by decide +kernel
theorem dX7_as_17 : decode cX7_as 17 = .ok (.ldc2_w 65, 3) := by decide +kernel
theorem dX7_as_20 : decode cX7_as 20 = .ok (.invokestatic 67, 3) := by decide +kernel
theorem dX7_as_23 : decode cX7_as 23 = .ok (.ifCond .ne 10, 3) := by decide +kernel
theorem dX7_as_26 : decode cX7_as 26 = .ok (.aload_n 0, 1) := by decide +kernel
theorem dX7_as_27 : decode cX7_as 27 = .ok (.bipush (-2), 2) := by decide +kernel
theorem dX7_as_29 : decode cX7_as 29 = .ok (.invokevirtual 71, 3) := by decide +kernel
theorem dX7_as_32 : decode cX7_as 32 = .ok (.ireturn, 1) := by decide +kernel
theorem dX7_as_33 : decode cX7_as 33 = .ok (.aload_n 0, 1) := by decide +kernel
theorem dX7_as_34 : decode cX7_as 34 = .ok (.getfield 7, 3) := by decide +kernel
theorem dX7_as_37 : decode cX7_as 37 = .ok (.iload_n 1, 1) := by decide +kernel
theorem dX7_as_38 : decode cX7_as 38 = .ok (.iaload, 1) := by decide +kernel
theorem dX7_as_39 : decode cX7_as 39 = .ok (.iload_n 2, 1) := by decide +kernel
theorem dX7_as_40 : decode cX7_as 40 = .ok (.if_icmp .lt 11, 3) := by decide +kernel
theorem dX7_as_43 : decode cX7_as 43 = .ok (.aload_n 0, 1) := by decide +kernel
theorem dX7_as_44 : decode cX7_as 44 = .ok (.iconst 1, 1) := by decide +kernel
theorem dX7_as_45 : decode cX7_as 45 = .ok (.invokevirtual 71, 3) := by decide +kernel
theorem dX7_as_48 : decode cX7_as 48 = .ok (.goto 8, 3) := by decide +kernel
theorem dX7_as_51 : decode cX7_as 51 = .ok (.aload_n 0, 1) := by decide +kernel
theorem dX7_as_52 : decode cX7_as 52 = .ok (.iconst 2, 1) := by decide +kernel
theorem dX7_as_53 : decode cX7_as 53 = .ok (.invokevirtual 75, 3) := by decide +kernel
theorem dX7_as_56 : decode cX7_as 56 = .ok (.ireturn, 1) := by decide +kernel
theorem dX7_trace_0 : decode cX7_trace 0 = .ok (.aload_n 0, 1) := by decide +kernel
theorem dX7_trace_1 : decode cX7_trace 1 = .ok (.getfield 257, 3) := by decide +kernel
theorem dX7_trace_4 : decode cX7_trace 4 = .ok (.ireturn, 1) := by decide +kernel
theorem dX7_fault_0 : decode cX7_fault 0 = .ok (.aload_n 0, 1) := by decide +kernel
theorem dX7_fault_1 : decode cX7_fault 1 = .ok (.getfield 57, 3) := by decide +kernel
theorem dX7_fault_4 : decode cX7_fault 4 = .ok (.ireturn, 1) := by decide +kernel
theorem dX7_many_0 : decode cX7_many 0 = .ok (.iconst 0, 1) := by decide +kernel
theorem dX7_many_1 : decode cX7_many 1 = .ok (.istore_n 2, 1) := by decide +kernel
theorem dX7_many_2 : decode cX7_many 2 = .ok (.iconst 0, 1) := by decide +kernel
theorem dX7_many_3 : decode cX7_many 3 = .ok (.istore_n 3, 1) := by decide +kernel
theorem dX7_many_4 : decode cX7_many 4 = .ok (.iload_n 3, 1) := by decide +kernel
theorem dX7_many_5 : decode cX7_many 5 = .ok (.bipush 6, 2) := by decide +kernel
theorem dX7_many_7 : decode cX7_many 7 = .ok (.if_icmp .ge 26, 3) := by decide +kernel
theorem dX7_many_10 : decode cX7_many 10 = .ok (.iload_n 2, 1) := by decide +kernel
theorem dX7_many_11 : decode cX7_many 11 = .ok (.aload_n 0, 1) := by decide +kernel
theorem dX7_many_12 : decode cX7_many 12 = .ok (.getfield 25, 3) := by decide +kernel
theorem dX7_many_15 : decode cX7_many 15 = .ok (.iload_n 3, 1) := by decide +kernel
theorem dX7_many_16 : decode cX7_many 16 = .ok (.iaload, 1) := by decide +kernel
theorem dX7_many_17 : decode cX7_many 17 = .ok (.ifCond .lt 7, 3) := by decide +kernel
theorem dX7_many_20 : decode cX7_many 20 = .ok (.iconst 1, 1) := by decide +kernel
theorem dX7_many_21 : decode cX7_many 21 = .ok (.goto 4, 3) := by decide +kernel
theorem dX7_many_24 : decode cX7_many 24 = .ok (.iconst 0, 1) := by decide +kernel
theorem dX7_many_25 : decode cX7_many 25 = .ok (.iadd, 1) := by decide +kernel
theorem dX7_many_26 : decode cX7_many 26 = .ok (.istore_n 2, 1) := by decide +kernel
theorem dX7_many_27 : decode cX7_many 27 = .ok (.iinc 3 1, 3) := by decide +kernel
theorem dX7_many_30 : decode cX7_many 30 = .ok (.goto (-26), 3) := by decide +kernel
theorem dX7_many_33 : decode cX7_many 33 = .ok (.iload_n 1, 1) := by decide +kernel
theorem dX7_many_34 : decode cX7_many 34 = .ok (.ifCond .ne 10, 3) := by decide +kernel
theorem dX7_many_37 : decode cX7_many 37 = .ok (.aload_n 0, 1) := by decide +kernel
theorem dX7_many_38 : decode cX7_many 38 = .ok (.getfield 82, 3) := by decide +kernel
theorem dX7_many_41 : decode cX7_many 41 = .ok (.goto 38, 3) := by decide +kernel
theorem dX7_many_44 : decode cX7_many 44 = .ok (.iload_n 1, 1) := by decide +kernel
theorem dX7_many_45 : decode cX7_many 45 = .ok (.iconst 1, 1) := by decide +kernel
theorem dX7_many_46 : decode cX7_many 46 = .ok (.if_icmp .ne 10, 3) := by decide +kernel
theorem dX7_many_49 : decode cX7_many 49 = .ok (.aload_n 0, 1) := by decide +kernel
theorem dX7_many_50 : decode cX7_many 50 = .ok (.getfield 190, 3) := by decide +kernel
theorem dX7_many_53 : decode cX7_many 53 = .ok (.goto 26, 3) := by decide +kernel
theorem dX7_many_56 : decode cX7_many 56 = .ok (.iload_n 1, 1) := by decide +kernel
theorem dX7_many_57 : decode cX7_many 57 = .ok (.iconst 2, 1) := by decide +kernel
theorem dX7_many_58 : decode cX7_many 58 = .ok (.if_icmp .ne 10, 3) := by decide +kernel
theorem dX7_many_61 : decode cX7_many 61 = .ok (.aload_n 0, 1) := by decide +kernel
theorem dX7_many_62 : decode cX7_many 62 = .ok (.getfield 238, 3) := by decide +kernel
theorem dX7_many_65 : decode cX7_many 65 = .ok (.goto 14, 3) := by decide +kernel
theorem dX7_many_68 : decode cX7_many 68 = .ok (.iload_n 1, 1) := by decide +kernel
theorem dX7_many_69 : decode cX7_many 69 = .ok (.iconst 3, 1) := by decide +kernel
theorem dX7_many_70 : decode cX7_many 70 = .ok (.if_icmp .ne 7, 3) := by decide +kernel
theorem dX7_many_73 : decode cX7_many 73 = .ok (.iload_n 2, 1) := by decide +kernel
theorem dX7_many_74 : decode cX7_many 74 = .ok (.goto 5, 3) := by decide +kernel
theorem dX7_many_77 : decode cX7_many 77 = .ok (.bipush (-2), 2) := by decide +kernel
theorem dX7_many_79 : decode cX7_many 79 = .ok (.ireturn, 1) := by decide +kernel
end
section
theorem dL_law_0 : decode cL_law 0 = .ok (.new 7, 3) := by decide +kernel
theorem dL_law_3 : decode cL_law 3 = .ok (.dup, 1) := by decide +kernel
theorem dL_law_4 : decode cL_law 4 = .ok (.invokespecial 9, 3) := by decide +kernel
theorem dL_law_7 : decode cL_law 7 = .ok (.astore_n 1, 1) := by decide +kernel
theorem dL_law_8 : decode cL_law 8 = .ok (.new 10, 3) := by decide +kernel
theorem dL_law_11 : decode cL_law 11 = .ok (.dup, 1) := by decide +kernel
theorem dL_law_12 : decode cL_law 12 = .ok (.invokespecial 12, 3) := by decide +kernel
theorem dL_law_15 : decode cL_law 15 = .ok (.astore_n 2, 1) := by decide +kernel
theorem dL_law_16 : decode cL_law 16 = .ok (.iconst 0, 1) := by decide +kernel
theorem dL_law_17 : decode cL_law 17 = .ok (.istore_n 3, 1) := by decide +kernel
theorem dL_law_18 : decode cL_law 18 = .ok (.iload_n 3, 1) := by decide +kernel
theorem dL_law_19 : decode cL_law 19 = .ok (.aload_n 0, 1) := by decide +kernel
theorem dL_law_20 : decode cL_law 20 = .ok (.arraylength, 1) := by decide +kernel
theorem dL_law_21 : decode cL_law 21 = .ok (.bipush 6, 2) := by decide +kernel
theorem dL_law_23 : decode cL_law 23 = .ok (.isub, 1) := by decide +kernel
theorem dL_law_24 : decode cL_law 24 = .ok (.if_icmp .gt 1396, 3) := by decide +kernel
theorem dL_law_27 : decode cL_law 27 = .ok (.aload_n 0, 1) := by decide +kernel
theorem dL_law_28 : decode cL_law 28 = .ok (.iload_n 3, 1) := by decide +kernel
theorem dL_law_29 : decode cL_law 29 = .ok (.iaload, 1) := by decide +kernel
theorem dL_law_30 : decode cL_law 30 = .ok (.bipush 63, 2) := by decide +kernel
theorem dL_law_32 : decode cL_law 32 = .ok (.iand, 1) := by decide +kernel
theorem dL_law_33 : decode cL_law 33 = .ok (.tableswitch 1381 0 34 #[155, 208, 241, 274, 327, 360, 403, 446, 479, 512, 545, 578, 641, 674, 697, 710, 743, 796, 819, 852, 905, 938, 961, 994, 1037, 1080, 1103, 1146, 1190, 1253, 1276, 1299, 1332, 1345, 1358], 155) := by decide +kernel
theorem dL_law_188 : decode cL_law 188 = .ok (.aload_n 1, 1) := by decide +kernel
theorem dL_law_189 : decode cL_law 189 = .ok (.aload_n 0, 1) := by decide +kernel
theorem dL_law_190 : decode cL_law 190 = .ok (.iload_n 3, 1) := by decide +kernel
theorem dL_law_191 : decode cL_law 191 = .ok (.iconst 1, 1) := by decide +kernel
theorem dL_law_192 : decode cL_law 192 = .ok (.iadd, 1) := by decide +kernel
theorem dL_law_193 : decode cL_law 193 = .ok (.iaload, 1) := by decide +kernel
theorem dL_law_194 : decode cL_law 194 = .ok (.aload_n 0, 1) := by decide +kernel
theorem dL_law_195 : decode cL_law 195 = .ok (.iload_n 3, 1) := by decide +kernel
theorem dL_law_196 : decode cL_law 196 = .ok (.iconst 2, 1) := by decide +kernel
theorem dL_law_197 : decode cL_law 197 = .ok (.iadd, 1) := by decide +kernel
theorem dL_law_198 : decode cL_law 198 = .ok (.iaload, 1) := by decide +kernel
theorem dL_law_199 : decode cL_law 199 = .ok (.aload_n 0, 1) := by decide +kernel
theorem dL_law_200 : decode cL_law 200 = .ok (.iload_n 3, 1) := by decide +kernel
theorem dL_law_201 : decode cL_law 201 = .ok (.iconst 3, 1) := by decide +kernel
theorem dL_law_202 : decode cL_law 202 = .ok (.iadd, 1) := by decide +kernel
theorem dL_law_203 : decode cL_law 203 = .ok (.iaload, 1) := by decide +kernel
theorem dL_law_204 : decode cL_law 204 = .ok (.aload_n 0, 1) := by decide +kernel
theorem dL_law_205 : decode cL_law 205 = .ok (.iload_n 3, 1) := by decide +kernel
theorem dL_law_206 : decode cL_law 206 = .ok (.iconst 4, 1) := by decide +kernel
theorem dL_law_207 : decode cL_law 207 = .ok (.iadd, 1) := by decide +kernel
theorem dL_law_208 : decode cL_law 208 = .ok (.iaload, 1) := by decide +kernel
theorem dL_law_209 : decode cL_law 209 = .ok (.invokevirtual 13, 3) := by decide +kernel
theorem dL_law_212 : decode cL_law 212 = .ok (.aload_n 2, 1) := by decide +kernel
theorem dL_law_213 : decode cL_law 213 = .ok (.aload_n 0, 1) := by decide +kernel
theorem dL_law_214 : decode cL_law 214 = .ok (.iload_n 3, 1) := by decide +kernel
theorem dL_law_215 : decode cL_law 215 = .ok (.iconst 1, 1) := by decide +kernel
theorem dL_law_216 : decode cL_law 216 = .ok (.iadd, 1) := by decide +kernel
theorem dL_law_217 : decode cL_law 217 = .ok (.iaload, 1) := by decide +kernel
theorem dL_law_218 : decode cL_law 218 = .ok (.aload_n 0, 1) := by decide +kernel
theorem dL_law_219 : decode cL_law 219 = .ok (.iload_n 3, 1) := by decide +kernel
theorem dL_law_220 : decode cL_law 220 = .ok (.iconst 2, 1) := by decide +kernel
theorem dL_law_221 : decode cL_law 221 = .ok (.iadd, 1) := by decide +kernel
theorem dL_law_222 : decode cL_law 222 = .ok (.iaload, 1) := by decide +kernel
theorem dL_law_223 : decode cL_law 223 = .ok (.aload_n 0, 1) := by decide +kernel
theorem dL_law_224 : decode cL_law 224 = .ok (.iload_n 3, 1) := by decide +kernel
theorem dL_law_225 : decode cL_law 225 = .ok (.iconst 3, 1) := by decide +kernel
theorem dL_law_226 : decode cL_law 226 = .ok (.iadd, 1) := by decide +kernel
theorem dL_law_227 : decode cL_law 227 = .ok (.iaload, 1) := by decide +kernel
theorem dL_law_228 : decode cL_law 228 = .ok (.aload_n 0, 1) := by decide +kernel
theorem dL_law_229 : decode cL_law 229 = .ok (.iload_n 3, 1) := by decide +kernel
theorem dL_law_230 : decode cL_law 230 = .ok (.iconst 4, 1) := by decide +kernel
theorem dL_law_231 : decode cL_law 231 = .ok (.iadd, 1) := by decide +kernel
theorem dL_law_232 : decode cL_law 232 = .ok (.iaload, 1) := by decide +kernel
theorem dL_law_233 : decode cL_law 233 = .ok (.invokevirtual 17, 3) := by decide +kernel
theorem dL_law_236 : decode cL_law 236 = .ok (.if_icmp .eq 1178, 3) := by decide +kernel
theorem dL_law_239 : decode cL_law 239 = .ok (.iconst 0, 1) := by decide +kernel
theorem dL_law_240 : decode cL_law 240 = .ok (.ireturn, 1) := by decide +kernel
theorem dL_law_241 : decode cL_law 241 = .ok (.aload_n 1, 1) := by decide +kernel
theorem dL_law_242 : decode cL_law 242 = .ok (.aload_n 0, 1) := by decide +kernel
theorem dL_law_243 : decode cL_law 243 = .ok (.iload_n 3, 1) := by decide +kernel
theorem dL_law_244 : decode cL_law 244 = .ok (.iconst 1, 1) := by decide +kernel
theorem dL_law_245 : decode cL_law 245 = .ok (.iadd, 1) := by decide +kernel
theorem dL_law_246 : decode cL_law 246 = .ok (.iaload, 1) := by decide +kernel
theorem dL_law_247 : decode cL_law 247 = .ok (.aload_n 0, 1) := by decide +kernel
theorem dL_law_248 : decode cL_law 248 = .ok (.iload_n 3, 1) := by decide +kernel
theorem dL_law_249 : decode cL_law 249 = .ok (.iconst 2, 1) := by decide +kernel
theorem dL_law_250 : decode cL_law 250 = .ok (.iadd, 1) := by decide +kernel
theorem dL_law_251 : decode cL_law 251 = .ok (.iaload, 1) := by decide +kernel
theorem dL_law_252 : decode cL_law 252 = .ok (.invokevirtual 18, 3) := by decide +kernel
theorem dL_law_255 : decode cL_law 255 = .ok (.aload_n 2, 1) := by decide +kernel
theorem dL_law_256 : decode cL_law 256 = .ok (.aload_n 0, 1) := by decide +kernel
theorem dL_law_257 : decode cL_law 257 = .ok (.iload_n 3, 1) := by decide +kernel
theorem dL_law_258 : decode cL_law 258 = .ok (.iconst 1, 1) := by decide +kernel
theorem dL_law_259 : decode cL_law 259 = .ok (.iadd, 1) := by decide +kernel
theorem dL_law_260 : decode cL_law 260 = .ok (.iaload, 1) := by decide +kernel
theorem dL_law_261 : decode cL_law 261 = .ok (.aload_n 0, 1) := by decide +kernel
theorem dL_law_262 : decode cL_law 262 = .ok (.iload_n 3, 1) := by decide +kernel
theorem dL_law_263 : decode cL_law 263 = .ok (.iconst 2, 1) := by decide +kernel
theorem dL_law_264 : decode cL_law 264 = .ok (.iadd, 1) := by decide +kernel
theorem dL_law_265 : decode cL_law 265 = .ok (.iaload, 1) := by decide +kernel
theorem dL_law_266 : decode cL_law 266 = .ok (.invokevirtual 22, 3) := by decide +kernel
theorem dL_law_269 : decode cL_law 269 = .ok (.if_icmp .eq 1145, 3) := by decide +kernel
theorem dL_law_272 : decode cL_law 272 = .ok (.iconst 0, 1) := by decide +kernel
theorem dL_law_273 : decode cL_law 273 = .ok (.ireturn, 1) := by decide +kernel
theorem dL_law_274 : decode cL_law 274 = .ok (.aload_n 1, 1) := by decide +kernel
theorem dL_law_275 : decode cL_law 275 = .ok (.aload_n 0, 1) := by decide +kernel
theorem dL_law_276 : decode cL_law 276 = .ok (.iload_n 3, 1) := by decide +kernel
theorem dL_law_277 : decode cL_law 277 = .ok (.iconst 1, 1) := by decide +kernel
theorem dL_law_278 : decode cL_law 278 = .ok (.iadd, 1) := by decide +kernel
theorem dL_law_279 : decode cL_law 279 = .ok (.iaload, 1) := by decide +kernel
theorem dL_law_280 : decode cL_law 280 = .ok (.aload_n 0, 1) := by decide +kernel
theorem dL_law_281 : decode cL_law 281 = .ok (.iload_n 3, 1) := by decide +kernel
theorem dL_law_282 : decode cL_law 282 = .ok (.iconst 2, 1) := by decide +kernel
theorem dL_law_283 : decode cL_law 283 = .ok (.iadd, 1) := by decide +kernel
theorem dL_law_284 : decode cL_law 284 = .ok (.iaload, 1) := by decide +kernel
theorem dL_law_285 : decode cL_law 285 = .ok (.invokevirtual 23, 3) := by decide +kernel
theorem dL_law_288 : decode cL_law 288 = .ok (.aload_n 2, 1) := by decide +kernel
theorem dL_law_289 : decode cL_law 289 = .ok (.aload_n 0, 1) := by decide +kernel
theorem dL_law_290 : decode cL_law 290 = .ok (.iload_n 3, 1) := by decide +kernel
theorem dL_law_291 : decode cL_law 291 = .ok (.iconst 1, 1) := by decide +kernel
theorem dL_law_292 : decode cL_law 292 = .ok (.iadd, 1) := by decide +kernel
theorem dL_law_293 : decode cL_law 293 = .ok (.iaload, 1) := by decide +kernel
theorem dL_law_294 : decode cL_law 294 = .ok (.aload_n 0, 1) := by decide +kernel
theorem dL_law_295 : decode cL_law 295 = .ok (.iload_n 3, 1) := by decide +kernel
theorem dL_law_296 : decode cL_law 296 = .ok (.iconst 2, 1) := by decide +kernel
theorem dL_law_297 : decode cL_law 297 = .ok (.iadd, 1) := by decide +kernel
theorem dL_law_298 : decode cL_law 298 = .ok (.iaload, 1) := by decide +kernel
theorem dL_law_299 : decode cL_law 299 = .ok (.invokevirtual 26, 3) := by decide +kernel
theorem dL_law_302 : decode cL_law 302 = .ok (.if_icmp .eq 1112, 3) := by decide +kernel
theorem dL_law_305 : decode cL_law 305 = .ok (.iconst 0, 1) := by decide +kernel
theorem dL_law_306 : decode cL_law 306 = .ok (.ireturn, 1) := by decide +kernel
theorem dL_law_307 : decode cL_law 307 = .ok (.aload_n 1, 1) := by decide +kernel
theorem dL_law_308 : decode cL_law 308 = .ok (.aload_n 0, 1) := by decide +kernel
theorem dL_law_309 : decode cL_law 309 = .ok (.iload_n 3, 1) := by decide +kernel
theorem dL_law_310 : decode cL_law 310 = .ok (.iconst 1, 1) := by decide +kernel
theorem dL_law_311 : decode cL_law 311 = .ok (.iadd, 1) := by decide +kernel
theorem dL_law_312 : decode cL_law 312 = .ok (.iaload, 1) := by decide +kernel
theorem dL_law_313 : decode cL_law 313 = .ok (.aload_n 0, 1) := by decide +kernel
theorem dL_law_314 : decode cL_law 314 = .ok (.iload_n 3, 1) := by decide +kernel
theorem dL_law_315 : decode cL_law 315 = .ok (.iconst 2, 1) := by decide +kernel
theorem dL_law_316 : decode cL_law 316 = .ok (.iadd, 1) := by decide +kernel
theorem dL_law_317 : decode cL_law 317 = .ok (.iaload, 1) := by decide +kernel
theorem dL_law_318 : decode cL_law 318 = .ok (.aload_n 0, 1) := by decide +kernel
theorem dL_law_319 : decode cL_law 319 = .ok (.iload_n 3, 1) := by decide +kernel
theorem dL_law_320 : decode cL_law 320 = .ok (.iconst 3, 1) := by decide +kernel
theorem dL_law_321 : decode cL_law 321 = .ok (.iadd, 1) := by decide +kernel
theorem dL_law_322 : decode cL_law 322 = .ok (.iaload, 1) := by decide +kernel
theorem dL_law_323 : decode cL_law 323 = .ok (.aload_n 0, 1) := by decide +kernel
theorem dL_law_324 : decode cL_law 324 = .ok (.iload_n 3, 1) := by decide +kernel
theorem dL_law_325 : decode cL_law 325 = .ok (.iconst 4, 1) := by decide +kernel
theorem dL_law_326 : decode cL_law 326 = .ok (.iadd, 1) := by decide +kernel
theorem dL_law_327 : decode cL_law 327 = .ok (.iaload, 1) := by decide +kernel
theorem dL_law_328 : decode cL_law 328 = .ok (.invokevirtual 27, 3) := by decide +kernel
theorem dL_law_331 : decode cL_law 331 = .ok (.aload_n 2, 1) := by decide +kernel
theorem dL_law_332 : decode cL_law 332 = .ok (.aload_n 0, 1) := by decide +kernel
theorem dL_law_333 : decode cL_law 333 = .ok (.iload_n 3, 1) := by decide +kernel
theorem dL_law_334 : decode cL_law 334 = .ok (.iconst 1, 1) := by decide +kernel
theorem dL_law_335 : decode cL_law 335 = .ok (.iadd, 1) := by decide +kernel
theorem dL_law_336 : decode cL_law 336 = .ok (.iaload, 1) := by decide +kernel
theorem dL_law_337 : decode cL_law 337 = .ok (.aload_n 0, 1) := by decide +kernel
theorem dL_law_338 : decode cL_law 338 = .ok (.iload_n 3, 1) := by decide +kernel
theorem dL_law_339 : decode cL_law 339 = .ok (.iconst 2, 1) := by decide +kernel
theorem dL_law_340 : decode cL_law 340 = .ok (.iadd, 1) := by decide +kernel
theorem dL_law_341 : decode cL_law 341 = .ok (.iaload, 1) := by decide +kernel
theorem dL_law_342 : decode cL_law 342 = .ok (.aload_n 0, 1) := by decide +kernel
theorem dL_law_343 : decode cL_law 343 = .ok (.iload_n 3, 1) := by decide +kernel
theorem dL_law_344 : decode cL_law 344 = .ok (.iconst 3, 1) := by decide +kernel
theorem dL_law_345 : decode cL_law 345 = .ok (.iadd, 1) := by decide +kernel
theorem dL_law_346 : decode cL_law 346 = .ok (.iaload, 1) := by decide +kernel
theorem dL_law_347 : decode cL_law 347 = .ok (.aload_n 0, 1) := by decide +kernel
theorem dL_law_348 : decode cL_law 348 = .ok (.iload_n 3, 1) := by decide +kernel
theorem dL_law_349 : decode cL_law 349 = .ok (.iconst 4, 1) := by decide +kernel
theorem dL_law_350 : decode cL_law 350 = .ok (.iadd, 1) := by decide +kernel
theorem dL_law_351 : decode cL_law 351 = .ok (.iaload, 1) := by decide +kernel
theorem dL_law_352 : decode cL_law 352 = .ok (.invokevirtual 30, 3) := by decide +kernel
theorem dL_law_355 : decode cL_law 355 = .ok (.if_icmp .eq 1059, 3) := by decide +kernel
theorem dL_law_358 : decode cL_law 358 = .ok (.iconst 0, 1) := by decide +kernel
theorem dL_law_359 : decode cL_law 359 = .ok (.ireturn, 1) := by decide +kernel
theorem dL_law_360 : decode cL_law 360 = .ok (.aload_n 1, 1) := by decide +kernel
theorem dL_law_361 : decode cL_law 361 = .ok (.aload_n 0, 1) := by decide +kernel
theorem dL_law_362 : decode cL_law 362 = .ok (.iload_n 3, 1) := by decide +kernel
theorem dL_law_363 : decode cL_law 363 = .ok (.iconst 1, 1) := by decide +kernel
theorem dL_law_364 : decode cL_law 364 = .ok (.iadd, 1) := by decide +kernel
theorem dL_law_365 : decode cL_law 365 = .ok (.iaload, 1) := by decide +kernel
theorem dL_law_366 : decode cL_law 366 = .ok (.aload_n 0, 1) := by decide +kernel
theorem dL_law_367 : decode cL_law 367 = .ok (.iload_n 3, 1) := by decide +kernel
theorem dL_law_368 : decode cL_law 368 = .ok (.iconst 2, 1) := by decide +kernel
theorem dL_law_369 : decode cL_law 369 = .ok (.iadd, 1) := by decide +kernel
theorem dL_law_370 : decode cL_law 370 = .ok (.iaload, 1) := by decide +kernel
theorem dL_law_371 : decode cL_law 371 = .ok (.invokevirtual 31, 3) := by decide +kernel
theorem dL_law_374 : decode cL_law 374 = .ok (.aload_n 2, 1) := by decide +kernel
theorem dL_law_375 : decode cL_law 375 = .ok (.aload_n 0, 1) := by decide +kernel
theorem dL_law_376 : decode cL_law 376 = .ok (.iload_n 3, 1) := by decide +kernel
theorem dL_law_377 : decode cL_law 377 = .ok (.iconst 1, 1) := by decide +kernel
theorem dL_law_378 : decode cL_law 378 = .ok (.iadd, 1) := by decide +kernel
theorem dL_law_379 : decode cL_law 379 = .ok (.iaload, 1) := by decide +kernel
theorem dL_law_380 : decode cL_law 380 = .ok (.aload_n 0, 1) := by decide +kernel
theorem dL_law_381 : decode cL_law 381 = .ok (.iload_n 3, 1) := by decide +kernel
theorem dL_law_382 : decode cL_law 382 = .ok (.iconst 2, 1) := by decide +kernel
theorem dL_law_383 : decode cL_law 383 = .ok (.iadd, 1) := by decide +kernel
theorem dL_law_384 : decode cL_law 384 = .ok (.iaload, 1) := by decide +kernel
theorem dL_law_385 : decode cL_law 385 = .ok (.invokevirtual 34, 3) := by decide +kernel
theorem dL_law_388 : decode cL_law 388 = .ok (.if_icmp .eq 1026, 3) := by decide +kernel
theorem dL_law_391 : decode cL_law 391 = .ok (.iconst 0, 1) := by decide +kernel
theorem dL_law_392 : decode cL_law 392 = .ok (.ireturn, 1) := by decide +kernel
theorem dL_law_393 : decode cL_law 393 = .ok (.aload_n 1, 1) := by decide +kernel
theorem dL_law_394 : decode cL_law 394 = .ok (.aload_n 0, 1) := by decide +kernel
theorem dL_law_395 : decode cL_law 395 = .ok (.iload_n 3, 1) := by decide +kernel
theorem dL_law_396 : decode cL_law 396 = .ok (.iconst 1, 1) := by decide +kernel
theorem dL_law_397 : decode cL_law 397 = .ok (.iadd, 1) := by decide +kernel
theorem dL_law_398 : decode cL_law 398 = .ok (.iaload, 1) := by decide +kernel
theorem dL_law_399 : decode cL_law 399 = .ok (.aload_n 0, 1) := by decide +kernel
theorem dL_law_400 : decode cL_law 400 = .ok (.iload_n 3, 1) := by decide +kernel
theorem dL_law_401 : decode cL_law 401 = .ok (.iconst 2, 1) := by decide +kernel
theorem dL_law_402 : decode cL_law 402 = .ok (.iadd, 1) := by decide +kernel
theorem dL_law_403 : decode cL_law 403 = .ok (.iaload, 1) := by decide +kernel
theorem dL_law_404 : decode cL_law 404 = .ok (.aload_n 0, 1) := by decide +kernel
theorem dL_law_405 : decode cL_law 405 = .ok (.iload_n 3, 1) := by decide +kernel
theorem dL_law_406 : decode cL_law 406 = .ok (.iconst 3, 1) := by decide +kernel
theorem dL_law_407 : decode cL_law 407 = .ok (.iadd, 1) := by decide +kernel
theorem dL_law_408 : decode cL_law 408 = .ok (.iaload, 1) := by decide +kernel
theorem dL_law_409 : decode cL_law 409 = .ok (.invokevirtual 35, 3) := by decide +kernel
theorem dL_law_412 : decode cL_law 412 = .ok (.aload_n 2, 1) := by decide +kernel
theorem dL_law_413 : decode cL_law 413 = .ok (.aload_n 0, 1) := by decide +kernel
theorem dL_law_414 : decode cL_law 414 = .ok (.iload_n 3, 1) := by decide +kernel
theorem dL_law_415 : decode cL_law 415 = .ok (.iconst 1, 1) := by decide +kernel
theorem dL_law_416 : decode cL_law 416 = .ok (.iadd, 1) := by decide +kernel
theorem dL_law_417 : decode cL_law 417 = .ok (.iaload, 1) := by decide +kernel
theorem dL_law_418 : decode cL_law 418 = .ok (.aload_n 0, 1) := by decide +kernel
theorem dL_law_419 : decode cL_law 419 = .ok (.iload_n 3, 1) := by decide +kernel
theorem dL_law_420 : decode cL_law 420 = .ok (.iconst 2, 1) := by decide +kernel
theorem dL_law_421 : decode cL_law 421 = .ok (.iadd, 1) := by decide +kernel
theorem dL_law_422 : decode cL_law 422 = .ok (.iaload, 1) := by decide +kernel
theorem dL_law_423 : decode cL_law 423 = .ok (.aload_n 0, 1) := by decide +kernel
theorem dL_law_424 : decode cL_law 424 = .ok (.iload_n 3, 1) := by decide +kernel
theorem dL_law_425 : decode cL_law 425 = .ok (.iconst 3, 1) := by decide +kernel
theorem dL_law_426 : decode cL_law 426 = .ok (.iadd, 1) := by decide +kernel
theorem dL_law_427 : decode cL_law 427 = .ok (.iaload, 1) := by decide +kernel
theorem dL_law_428 : decode cL_law 428 = .ok (.invokevirtual 39, 3) := by decide +kernel
theorem dL_law_431 : decode cL_law 431 = .ok (.if_icmp .eq 983, 3) := by decide +kernel
theorem dL_law_434 : decode cL_law 434 = .ok (.iconst 0, 1) := by decide +kernel
theorem dL_law_435 : decode cL_law 435 = .ok (.ireturn, 1) := by decide +kernel
theorem dL_law_436 : decode cL_law 436 = .ok (.aload_n 1, 1) := by decide +kernel
theorem dL_law_437 : decode cL_law 437 = .ok (.aload_n 0, 1) := by decide +kernel
theorem dL_law_438 : decode cL_law 438 = .ok (.iload_n 3, 1) := by decide +kernel
theorem dL_law_439 : decode cL_law 439 = .ok (.iconst 1, 1) := by decide +kernel
theorem dL_law_440 : decode cL_law 440 = .ok (.iadd, 1) := by decide +kernel
theorem dL_law_441 : decode cL_law 441 = .ok (.iaload, 1) := by decide +kernel
theorem dL_law_442 : decode cL_law 442 = .ok (.aload_n 0, 1) := by decide +kernel
theorem dL_law_443 : decode cL_law 443 = .ok (.iload_n 3, 1) := by decide +kernel
theorem dL_law_444 : decode cL_law 444 = .ok (.iconst 2, 1) := by decide +kernel
theorem dL_law_445 : decode cL_law 445 = .ok (.iadd, 1) := by decide +kernel
theorem dL_law_446 : decode cL_law 446 = .ok (.iaload, 1) := by decide +kernel
theorem dL_law_447 : decode cL_law 447 = .ok (.aload_n 0, 1) := by decide +kernel
theorem dL_law_448 : decode cL_law 448 = .ok (.iload_n 3, 1) := by decide +kernel
theorem dL_law_449 : decode cL_law 449 = .ok (.iconst 3, 1) := by decide +kernel
theorem dL_law_450 : decode cL_law 450 = .ok (.iadd, 1) := by decide +kernel
theorem dL_law_451 : decode cL_law 451 = .ok (.iaload, 1) := by decide +kernel
theorem dL_law_452 : decode cL_law 452 = .ok (.invokevirtual 40, 3) := by decide +kernel
theorem dL_law_455 : decode cL_law 455 = .ok (.aload_n 2, 1) := by decide +kernel
theorem dL_law_456 : decode cL_law 456 = .ok (.aload_n 0, 1) := by decide +kernel
theorem dL_law_457 : decode cL_law 457 = .ok (.iload_n 3, 1) := by decide +kernel
theorem dL_law_458 : decode cL_law 458 = .ok (.iconst 1, 1) := by decide +kernel
theorem dL_law_459 : decode cL_law 459 = .ok (.iadd, 1) := by decide +kernel
theorem dL_law_460 : decode cL_law 460 = .ok (.iaload, 1) := by decide +kernel
theorem dL_law_461 : decode cL_law 461 = .ok (.aload_n 0, 1) := by decide +kernel
theorem dL_law_462 : decode cL_law 462 = .ok (.iload_n 3, 1) := by decide +kernel
theorem dL_law_463 : decode cL_law 463 = .ok (.iconst 2, 1) := by decide +kernel
theorem dL_law_464 : decode cL_law 464 = .ok (.iadd, 1) := by decide +kernel
theorem dL_law_465 : decode cL_law 465 = .ok (.iaload, 1) := by decide +kernel
theorem dL_law_466 : decode cL_law 466 = .ok (.aload_n 0, 1) := by decide +kernel
theorem dL_law_467 : decode cL_law 467 = .ok (.iload_n 3, 1) := by decide +kernel
theorem dL_law_468 : decode cL_law 468 = .ok (.iconst 3, 1) := by decide +kernel
theorem dL_law_469 : decode cL_law 469 = .ok (.iadd, 1) := by decide +kernel
theorem dL_law_470 : decode cL_law 470 = .ok (.iaload, 1) := by decide +kernel
theorem dL_law_471 : decode cL_law 471 = .ok (.invokevirtual 43, 3) := by decide +kernel
theorem dL_law_474 : decode cL_law 474 = .ok (.if_icmp .eq 940, 3) := by decide +kernel
theorem dL_law_477 : decode cL_law 477 = .ok (.iconst 0, 1) := by decide +kernel
theorem dL_law_478 : decode cL_law 478 = .ok (.ireturn, 1) := by decide +kernel
theorem dL_law_479 : decode cL_law 479 = .ok (.aload_n 1, 1) := by decide +kernel
theorem dL_law_480 : decode cL_law 480 = .ok (.aload_n 0, 1) := by decide +kernel
theorem dL_law_481 : decode cL_law 481 = .ok (.iload_n 3, 1) := by decide +kernel
theorem dL_law_482 : decode cL_law 482 = .ok (.iconst 1, 1) := by decide +kernel
theorem dL_law_483 : decode cL_law 483 = .ok (.iadd, 1) := by decide +kernel
theorem dL_law_484 : decode cL_law 484 = .ok (.iaload, 1) := by decide +kernel
theorem dL_law_485 : decode cL_law 485 = .ok (.aload_n 0, 1) := by decide +kernel
theorem dL_law_486 : decode cL_law 486 = .ok (.iload_n 3, 1) := by decide +kernel
theorem dL_law_487 : decode cL_law 487 = .ok (.iconst 2, 1) := by decide +kernel
theorem dL_law_488 : decode cL_law 488 = .ok (.iadd, 1) := by decide +kernel
theorem dL_law_489 : decode cL_law 489 = .ok (.iaload, 1) := by decide +kernel
theorem dL_law_490 : decode cL_law 490 = .ok (.invokevirtual 44, 3) := by decide +kernel
theorem dL_law_493 : decode cL_law 493 = .ok (.aload_n 2, 1) := by decide +kernel
theorem dL_law_494 : decode cL_law 494 = .ok (.aload_n 0, 1) := by decide +kernel
theorem dL_law_495 : decode cL_law 495 = .ok (.iload_n 3, 1) := by decide +kernel
theorem dL_law_496 : decode cL_law 496 = .ok (.iconst 1, 1) := by decide +kernel
theorem dL_law_497 : decode cL_law 497 = .ok (.iadd, 1) := by decide +kernel
theorem dL_law_498 : decode cL_law 498 = .ok (.iaload, 1) := by decide +kernel
theorem dL_law_499 : decode cL_law 499 = .ok (.aload_n 0, 1) := by decide +kernel
theorem dL_law_500 : decode cL_law 500 = .ok (.iload_n 3, 1) := by decide +kernel
theorem dL_law_501 : decode cL_law 501 = .ok (.iconst 2, 1) := by decide +kernel
theorem dL_law_502 : decode cL_law 502 = .ok (.iadd, 1) := by decide +kernel
theorem dL_law_503 : decode cL_law 503 = .ok (.iaload, 1) := by decide +kernel
theorem dL_law_504 : decode cL_law 504 = .ok (.invokevirtual 47, 3) := by decide +kernel
theorem dL_law_507 : decode cL_law 507 = .ok (.if_icmp .eq 907, 3) := by decide +kernel
theorem dL_law_510 : decode cL_law 510 = .ok (.iconst 0, 1) := by decide +kernel
theorem dL_law_511 : decode cL_law 511 = .ok (.ireturn, 1) := by decide +kernel
theorem dL_law_512 : decode cL_law 512 = .ok (.aload_n 1, 1) := by decide +kernel
theorem dL_law_513 : decode cL_law 513 = .ok (.aload_n 0, 1) := by decide +kernel
theorem dL_law_514 : decode cL_law 514 = .ok (.iload_n 3, 1) := by decide +kernel
theorem dL_law_515 : decode cL_law 515 = .ok (.iconst 1, 1) := by decide +kernel
theorem dL_law_516 : decode cL_law 516 = .ok (.iadd, 1) := by decide +kernel
theorem dL_law_517 : decode cL_law 517 = .ok (.iaload, 1) := by decide +kernel
theorem dL_law_518 : decode cL_law 518 = .ok (.aload_n 0, 1) := by decide +kernel
theorem dL_law_519 : decode cL_law 519 = .ok (.iload_n 3, 1) := by decide +kernel
theorem dL_law_520 : decode cL_law 520 = .ok (.iconst 2, 1) := by decide +kernel
theorem dL_law_521 : decode cL_law 521 = .ok (.iadd, 1) := by decide +kernel
theorem dL_law_522 : decode cL_law 522 = .ok (.iaload, 1) := by decide +kernel
theorem dL_law_523 : decode cL_law 523 = .ok (.invokevirtual 48, 3) := by decide +kernel
theorem dL_law_526 : decode cL_law 526 = .ok (.aload_n 2, 1) := by decide +kernel
theorem dL_law_527 : decode cL_law 527 = .ok (.aload_n 0, 1) := by decide +kernel
theorem dL_law_528 : decode cL_law 528 = .ok (.iload_n 3, 1) := by decide +kernel
theorem dL_law_529 : decode cL_law 529 = .ok (.iconst 1, 1) := by decide +kernel
theorem dL_law_530 : decode cL_law 530 = .ok (.iadd, 1) := by decide +kernel
theorem dL_law_531 : decode cL_law 531 = .ok (.iaload, 1) := by decide +kernel
theorem dL_law_532 : decode cL_law 532 = .ok (.aload_n 0, 1) := by decide +kernel
theorem dL_law_533 : decode cL_law 533 = .ok (.iload_n 3, 1) := by decide +kernel
theorem dL_law_534 : decode cL_law 534 = .ok (.iconst 2, 1) := by decide +kernel
theorem dL_law_535 : decode cL_law 535 = .ok (.iadd, 1) := by decide +kernel
theorem dL_law_536 : decode cL_law 536 = .ok (.iaload, 1) := by decide +kernel
theorem dL_law_537 : decode cL_law 537 = .ok (.invokevirtual 51, 3) := by decide +kernel
theorem dL_law_540 : decode cL_law 540 = .ok (.if_icmp .eq 874, 3) := by decide +kernel
theorem dL_law_543 : decode cL_law 543 = .ok (.iconst 0, 1) := by decide +kernel
theorem dL_law_544 : decode cL_law 544 = .ok (.ireturn, 1) := by decide +kernel
theorem dL_law_545 : decode cL_law 545 = .ok (.aload_n 1, 1) := by decide +kernel
theorem dL_law_546 : decode cL_law 546 = .ok (.aload_n 0, 1) := by decide +kernel
theorem dL_law_547 : decode cL_law 547 = .ok (.iload_n 3, 1) := by decide +kernel
theorem dL_law_548 : decode cL_law 548 = .ok (.iconst 1, 1) := by decide +kernel
theorem dL_law_549 : decode cL_law 549 = .ok (.iadd, 1) := by decide +kernel
theorem dL_law_550 : decode cL_law 550 = .ok (.iaload, 1) := by decide +kernel
theorem dL_law_551 : decode cL_law 551 = .ok (.aload_n 0, 1) := by decide +kernel
theorem dL_law_552 : decode cL_law 552 = .ok (.iload_n 3, 1) := by decide +kernel
theorem dL_law_553 : decode cL_law 553 = .ok (.iconst 2, 1) := by decide +kernel
theorem dL_law_554 : decode cL_law 554 = .ok (.iadd, 1) := by decide +kernel
theorem dL_law_555 : decode cL_law 555 = .ok (.iaload, 1) := by decide +kernel
theorem dL_law_556 : decode cL_law 556 = .ok (.invokevirtual 52, 3) := by decide +kernel
theorem dL_law_559 : decode cL_law 559 = .ok (.aload_n 2, 1) := by decide +kernel
theorem dL_law_560 : decode cL_law 560 = .ok (.aload_n 0, 1) := by decide +kernel
theorem dL_law_561 : decode cL_law 561 = .ok (.iload_n 3, 1) := by decide +kernel
theorem dL_law_562 : decode cL_law 562 = .ok (.iconst 1, 1) := by decide +kernel
theorem dL_law_563 : decode cL_law 563 = .ok (.iadd, 1) := by decide +kernel
theorem dL_law_564 : decode cL_law 564 = .ok (.iaload, 1) := by decide +kernel
theorem dL_law_565 : decode cL_law 565 = .ok (.aload_n 0, 1) := by decide +kernel
theorem dL_law_566 : decode cL_law 566 = .ok (.iload_n 3, 1) := by decide +kernel
theorem dL_law_567 : decode cL_law 567 = .ok (.iconst 2, 1) := by decide +kernel
theorem dL_law_568 : decode cL_law 568 = .ok (.iadd, 1) := by decide +kernel
theorem dL_law_569 : decode cL_law 569 = .ok (.iaload, 1) := by decide +kernel
theorem dL_law_570 : decode cL_law 570 = .ok (.invokevirtual 55, 3) := by decide +kernel
theorem dL_law_573 : decode cL_law 573 = .ok (.if_icmp .eq 841, 3) := by decide +kernel
theorem dL_law_576 : decode cL_law 576 = .ok (.iconst 0, 1) := by decide +kernel
theorem dL_law_577 : decode cL_law 577 = .ok (.ireturn, 1) := by decide +kernel
theorem dL_law_578 : decode cL_law 578 = .ok (.aload_n 1, 1) := by decide +kernel
theorem dL_law_579 : decode cL_law 579 = .ok (.aload_n 0, 1) := by decide +kernel
theorem dL_law_580 : decode cL_law 580 = .ok (.iload_n 3, 1) := by decide +kernel
theorem dL_law_581 : decode cL_law 581 = .ok (.iconst 1, 1) := by decide +kernel
theorem dL_law_582 : decode cL_law 582 = .ok (.iadd, 1) := by decide +kernel
theorem dL_law_583 : decode cL_law 583 = .ok (.iaload, 1) := by decide +kernel
theorem dL_law_584 : decode cL_law 584 = .ok (.aload_n 0, 1) := by decide +kernel
theorem dL_law_585 : decode cL_law 585 = .ok (.iload_n 3, 1) := by decide +kernel
theorem dL_law_586 : decode cL_law 586 = .ok (.iconst 2, 1) := by decide +kernel
theorem dL_law_587 : decode cL_law 587 = .ok (.iadd, 1) := by decide +kernel
theorem dL_law_588 : decode cL_law 588 = .ok (.iaload, 1) := by decide +kernel
theorem dL_law_589 : decode cL_law 589 = .ok (.invokevirtual 56, 3) := by decide +kernel
theorem dL_law_592 : decode cL_law 592 = .ok (.aload_n 2, 1) := by decide +kernel
theorem dL_law_593 : decode cL_law 593 = .ok (.aload_n 0, 1) := by decide +kernel
theorem dL_law_594 : decode cL_law 594 = .ok (.iload_n 3, 1) := by decide +kernel
theorem dL_law_595 : decode cL_law 595 = .ok (.iconst 1, 1) := by decide +kernel
theorem dL_law_596 : decode cL_law 596 = .ok (.iadd, 1) := by decide +kernel
theorem dL_law_597 : decode cL_law 597 = .ok (.iaload, 1) := by decide +kernel
theorem dL_law_598 : decode cL_law 598 = .ok (.aload_n 0, 1) := by decide +kernel
theorem dL_law_599 : decode cL_law 599 = .ok (.iload_n 3, 1) := by decide +kernel
theorem dL_law_600 : decode cL_law 600 = .ok (.iconst 2, 1) := by decide +kernel
theorem dL_law_601 : decode cL_law 601 = .ok (.iadd, 1) := by decide +kernel
theorem dL_law_602 : decode cL_law 602 = .ok (.iaload, 1) := by decide +kernel
theorem dL_law_603 : decode cL_law 603 = .ok (.invokevirtual 59, 3) := by decide +kernel
theorem dL_law_606 : decode cL_law 606 = .ok (.if_icmp .eq 808, 3) := by decide +kernel
theorem dL_law_609 : decode cL_law 609 = .ok (.iconst 0, 1) := by decide +kernel
theorem dL_law_610 : decode cL_law 610 = .ok (.ireturn, 1) := by decide +kernel
theorem dL_law_611 : decode cL_law 611 = .ok (.aload_n 1, 1) := by decide +kernel
theorem dL_law_612 : decode cL_law 612 = .ok (.aload_n 0, 1) := by decide +kernel
theorem dL_law_613 : decode cL_law 613 = .ok (.iload_n 3, 1) := by decide +kernel
theorem dL_law_614 : decode cL_law 614 = .ok (.iconst 1, 1) := by decide +kernel
theorem dL_law_615 : decode cL_law 615 = .ok (.iadd, 1) := by decide +kernel
theorem dL_law_616 : decode cL_law 616 = .ok (.iaload, 1) := by decide +kernel
theorem dL_law_617 : decode cL_law 617 = .ok (.aload_n 0, 1) := by decide +kernel
theorem dL_law_618 : decode cL_law 618 = .ok (.iload_n 3, 1) := by decide +kernel
theorem dL_law_619 : decode cL_law 619 = .ok (.iconst 2, 1) := by decide +kernel
theorem dL_law_620 : decode cL_law 620 = .ok (.iadd, 1) := by decide +kernel
theorem dL_law_621 : decode cL_law 621 = .ok (.iaload, 1) := by decide +kernel
theorem dL_law_622 : decode cL_law 622 = .ok (.aload_n 0, 1) := by decide +kernel
theorem dL_law_623 : decode cL_law 623 = .ok (.iload_n 3, 1) := by decide +kernel
theorem dL_law_624 : decode cL_law 624 = .ok (.iconst 3, 1) := by decide +kernel
theorem dL_law_625 : decode cL_law 625 = .ok (.iadd, 1) := by decide +kernel
theorem dL_law_626 : decode cL_law 626 = .ok (.iaload, 1) := by decide +kernel
theorem dL_law_627 : decode cL_law 627 = .ok (.aload_n 0, 1) := by decide +kernel
theorem dL_law_628 : decode cL_law 628 = .ok (.iload_n 3, 1) := by decide +kernel
theorem dL_law_629 : decode cL_law 629 = .ok (.iconst 4, 1) := by decide +kernel
theorem dL_law_630 : decode cL_law 630 = .ok (.iadd, 1) := by decide +kernel
theorem dL_law_631 : decode cL_law 631 = .ok (.iaload, 1) := by decide +kernel
theorem dL_law_632 : decode cL_law 632 = .ok (.aload_n 0, 1) := by decide +kernel
theorem dL_law_633 : decode cL_law 633 = .ok (.iload_n 3, 1) := by decide +kernel
theorem dL_law_634 : decode cL_law 634 = .ok (.iconst 5, 1) := by decide +kernel
theorem dL_law_635 : decode cL_law 635 = .ok (.iadd, 1) := by decide +kernel
theorem dL_law_636 : decode cL_law 636 = .ok (.iaload, 1) := by decide +kernel
theorem dL_law_637 : decode cL_law 637 = .ok (.invokevirtual 60, 3) := by decide +kernel
theorem dL_law_640 : decode cL_law 640 = .ok (.aload_n 2, 1) := by decide +kernel
theorem dL_law_641 : decode cL_law 641 = .ok (.aload_n 0, 1) := by decide +kernel
theorem dL_law_642 : decode cL_law 642 = .ok (.iload_n 3, 1) := by decide +kernel
theorem dL_law_643 : decode cL_law 643 = .ok (.iconst 1, 1) := by decide +kernel
theorem dL_law_644 : decode cL_law 644 = .ok (.iadd, 1) := by decide +kernel
theorem dL_law_645 : decode cL_law 645 = .ok (.iaload, 1) := by decide +kernel
theorem dL_law_646 : decode cL_law 646 = .ok (.aload_n 0, 1) := by decide +kernel
theorem dL_law_647 : decode cL_law 647 = .ok (.iload_n 3, 1) := by decide +kernel
theorem dL_law_648 : decode cL_law 648 = .ok (.iconst 2, 1) := by decide +kernel
theorem dL_law_649 : decode cL_law 649 = .ok (.iadd, 1) := by decide +kernel
theorem dL_law_650 : decode cL_law 650 = .ok (.iaload, 1) := by decide +kernel
theorem dL_law_651 : decode cL_law 651 = .ok (.aload_n 0, 1) := by decide +kernel
theorem dL_law_652 : decode cL_law 652 = .ok (.iload_n 3, 1) := by decide +kernel
theorem dL_law_653 : decode cL_law 653 = .ok (.iconst 3, 1) := by decide +kernel
theorem dL_law_654 : decode cL_law 654 = .ok (.iadd, 1) := by decide +kernel
theorem dL_law_655 : decode cL_law 655 = .ok (.iaload, 1) := by decide +kernel
theorem dL_law_656 : decode cL_law 656 = .ok (.aload_n 0, 1) := by decide +kernel
theorem dL_law_657 : decode cL_law 657 = .ok (.iload_n 3, 1) := by decide +kernel
theorem dL_law_658 : decode cL_law 658 = .ok (.iconst 4, 1) := by decide +kernel
theorem dL_law_659 : decode cL_law 659 = .ok (.iadd, 1) := by decide +kernel
theorem dL_law_660 : decode cL_law 660 = .ok (.iaload, 1) := by decide +kernel
theorem dL_law_661 : decode cL_law 661 = .ok (.aload_n 0, 1) := by decide +kernel
theorem dL_law_662 : decode cL_law 662 = .ok (.iload_n 3, 1) := by decide +kernel
theorem dL_law_663 : decode cL_law 663 = .ok (.iconst 5, 1) := by decide +kernel
theorem dL_law_664 : decode cL_law 664 = .ok (.iadd, 1) := by decide +kernel
theorem dL_law_665 : decode cL_law 665 = .ok (.iaload, 1) := by decide +kernel
theorem dL_law_666 : decode cL_law 666 = .ok (.invokevirtual 64, 3) := by decide +kernel
theorem dL_law_669 : decode cL_law 669 = .ok (.if_icmp .eq 745, 3) := by decide +kernel
theorem dL_law_672 : decode cL_law 672 = .ok (.iconst 0, 1) := by decide +kernel
theorem dL_law_673 : decode cL_law 673 = .ok (.ireturn, 1) := by decide +kernel
theorem dL_law_674 : decode cL_law 674 = .ok (.aload_n 1, 1) := by decide +kernel
theorem dL_law_675 : decode cL_law 675 = .ok (.aload_n 0, 1) := by decide +kernel
theorem dL_law_676 : decode cL_law 676 = .ok (.iload_n 3, 1) := by decide +kernel
theorem dL_law_677 : decode cL_law 677 = .ok (.iconst 1, 1) := by decide +kernel
theorem dL_law_678 : decode cL_law 678 = .ok (.iadd, 1) := by decide +kernel
theorem dL_law_679 : decode cL_law 679 = .ok (.iaload, 1) := by decide +kernel
theorem dL_law_680 : decode cL_law 680 = .ok (.aload_n 0, 1) := by decide +kernel
theorem dL_law_681 : decode cL_law 681 = .ok (.iload_n 3, 1) := by decide +kernel
theorem dL_law_682 : decode cL_law 682 = .ok (.iconst 2, 1) := by decide +kernel
theorem dL_law_683 : decode cL_law 683 = .ok (.iadd, 1) := by decide +kernel
theorem dL_law_684 : decode cL_law 684 = .ok (.iaload, 1) := by decide +kernel
theorem dL_law_685 : decode cL_law 685 = .ok (.invokevirtual 65, 3) := by decide +kernel
theorem dL_law_688 : decode cL_law 688 = .ok (.aload_n 2, 1) := by decide +kernel
theorem dL_law_689 : decode cL_law 689 = .ok (.aload_n 0, 1) := by decide +kernel
theorem dL_law_690 : decode cL_law 690 = .ok (.iload_n 3, 1) := by decide +kernel
theorem dL_law_691 : decode cL_law 691 = .ok (.iconst 1, 1) := by decide +kernel
theorem dL_law_692 : decode cL_law 692 = .ok (.iadd, 1) := by decide +kernel
theorem dL_law_693 : decode cL_law 693 = .ok (.iaload, 1) := by decide +kernel
theorem dL_law_694 : decode cL_law 694 = .ok (.aload_n 0, 1) := by decide +kernel
theorem dL_law_695 : decode cL_law 695 = .ok (.iload_n 3, 1) := by decide +kernel
theorem dL_law_696 : decode cL_law 696 = .ok (.iconst 2, 1) := by decide +kernel
theorem dL_law_697 : decode cL_law 697 = .ok (.iadd, 1) := by decide +kernel
theorem dL_law_698 : decode cL_law 698 = .ok (.iaload, 1) := by decide +kernel
theorem dL_law_699 : decode cL_law 699 = .ok (.invokevirtual 68, 3) := by decide +kernel
theorem dL_law_702 : decode cL_law 702 = .ok (.if_icmp .eq 712, 3) := by decide +kernel
theorem dL_law_705 : decode cL_law 705 = .ok (.iconst 0, 1) := by decide +kernel
theorem dL_law_706 : decode cL_law 706 = .ok (.ireturn, 1) := by decide +kernel
theorem dL_law_707 : decode cL_law 707 = .ok (.aload_n 1, 1) := by decide +kernel
theorem dL_law_708 : decode cL_law 708 = .ok (.aload_n 0, 1) := by decide +kernel
theorem dL_law_709 : decode cL_law 709 = .ok (.iload_n 3, 1) := by decide +kernel
theorem dL_law_710 : decode cL_law 710 = .ok (.iconst 1, 1) := by decide +kernel
theorem dL_law_711 : decode cL_law 711 = .ok (.iadd, 1) := by decide +kernel
theorem dL_law_712 : decode cL_law 712 = .ok (.iaload, 1) := by decide +kernel
theorem dL_law_713 : decode cL_law 713 = .ok (.invokevirtual 69, 3) := by decide +kernel
theorem dL_law_716 : decode cL_law 716 = .ok (.aload_n 2, 1) := by decide +kernel
theorem dL_law_717 : decode cL_law 717 = .ok (.aload_n 0, 1) := by decide +kernel
theorem dL_law_718 : decode cL_law 718 = .ok (.iload_n 3, 1) := by decide +kernel
theorem dL_law_719 : decode cL_law 719 = .ok (.iconst 1, 1) := by decide +kernel
theorem dL_law_720 : decode cL_law 720 = .ok (.iadd, 1) := by decide +kernel
theorem dL_law_721 : decode cL_law 721 = .ok (.iaload, 1) := by decide +kernel
theorem dL_law_722 : decode cL_law 722 = .ok (.invokevirtual 73, 3) := by decide +kernel
theorem dL_law_725 : decode cL_law 725 = .ok (.if_icmp .eq 689, 3) := by decide +kernel
theorem dL_law_728 : decode cL_law 728 = .ok (.iconst 0, 1) := by decide +kernel
theorem dL_law_729 : decode cL_law 729 = .ok (.ireturn, 1) := by decide +kernel
theorem dL_law_730 : decode cL_law 730 = .ok (.aload_n 1, 1) := by decide +kernel
theorem dL_law_731 : decode cL_law 731 = .ok (.invokevirtual 74, 3) := by decide +kernel
theorem dL_law_734 : decode cL_law 734 = .ok (.aload_n 2, 1) := by decide +kernel
theorem dL_law_735 : decode cL_law 735 = .ok (.invokevirtual 78, 3) := by decide +kernel
theorem dL_law_738 : decode cL_law 738 = .ok (.if_icmp .eq 676, 3) := by decide +kernel
theorem dL_law_741 : decode cL_law 741 = .ok (.iconst 0, 1) := by decide +kernel
theorem dL_law_742 : decode cL_law 742 = .ok (.ireturn, 1) := by decide +kernel
theorem dL_law_743 : decode cL_law 743 = .ok (.aload_n 1, 1) := by decide +kernel
theorem dL_law_744 : decode cL_law 744 = .ok (.aload_n 0, 1) := by decide +kernel
theorem dL_law_745 : decode cL_law 745 = .ok (.iload_n 3, 1) := by decide +kernel
theorem dL_law_746 : decode cL_law 746 = .ok (.iconst 1, 1) := by decide +kernel
theorem dL_law_747 : decode cL_law 747 = .ok (.iadd, 1) := by decide +kernel
theorem dL_law_748 : decode cL_law 748 = .ok (.iaload, 1) := by decide +kernel
theorem dL_law_749 : decode cL_law 749 = .ok (.aload_n 0, 1) := by decide +kernel
theorem dL_law_750 : decode cL_law 750 = .ok (.iload_n 3, 1) := by decide +kernel
theorem dL_law_751 : decode cL_law 751 = .ok (.iconst 2, 1) := by decide +kernel
theorem dL_law_752 : decode cL_law 752 = .ok (.iadd, 1) := by decide +kernel
theorem dL_law_753 : decode cL_law 753 = .ok (.iaload, 1) := by decide +kernel
theorem dL_law_754 : decode cL_law 754 = .ok (.invokevirtual 79, 3) := by decide +kernel
theorem dL_law_757 : decode cL_law 757 = .ok (.aload_n 2, 1) := by decide +kernel
theorem dL_law_758 : decode cL_law 758 = .ok (.aload_n 0, 1) := by decide +kernel
theorem dL_law_759 : decode cL_law 759 = .ok (.iload_n 3, 1) := by decide +kernel
theorem dL_law_760 : decode cL_law 760 = .ok (.iconst 1, 1) := by decide +kernel
theorem dL_law_761 : decode cL_law 761 = .ok (.iadd, 1) := by decide +kernel
theorem dL_law_762 : decode cL_law 762 = .ok (.iaload, 1) := by decide +kernel
theorem dL_law_763 : decode cL_law 763 = .ok (.aload_n 0, 1) := by decide +kernel
theorem dL_law_764 : decode cL_law 764 = .ok (.iload_n 3, 1) := by decide +kernel
theorem dL_law_765 : decode cL_law 765 = .ok (.iconst 2, 1) := by decide +kernel
theorem dL_law_766 : decode cL_law 766 = .ok (.iadd, 1) := by decide +kernel
theorem dL_law_767 : decode cL_law 767 = .ok (.iaload, 1) := by decide +kernel
theorem dL_law_768 : decode cL_law 768 = .ok (.invokevirtual 82, 3) := by decide +kernel
theorem dL_law_771 : decode cL_law 771 = .ok (.if_icmp .eq 643, 3) := by decide +kernel
theorem dL_law_774 : decode cL_law 774 = .ok (.iconst 0, 1) := by decide +kernel
theorem dL_law_775 : decode cL_law 775 = .ok (.ireturn, 1) := by decide +kernel
theorem dL_law_776 : decode cL_law 776 = .ok (.aload_n 1, 1) := by decide +kernel
theorem dL_law_777 : decode cL_law 777 = .ok (.aload_n 0, 1) := by decide +kernel
theorem dL_law_778 : decode cL_law 778 = .ok (.iload_n 3, 1) := by decide +kernel
theorem dL_law_779 : decode cL_law 779 = .ok (.iconst 1, 1) := by decide +kernel
theorem dL_law_780 : decode cL_law 780 = .ok (.iadd, 1) := by decide +kernel
theorem dL_law_781 : decode cL_law 781 = .ok (.iaload, 1) := by decide +kernel
theorem dL_law_782 : decode cL_law 782 = .ok (.aload_n 0, 1) := by decide +kernel
theorem dL_law_783 : decode cL_law 783 = .ok (.iload_n 3, 1) := by decide +kernel
theorem dL_law_784 : decode cL_law 784 = .ok (.iconst 2, 1) := by decide +kernel
theorem dL_law_785 : decode cL_law 785 = .ok (.iadd, 1) := by decide +kernel
theorem dL_law_786 : decode cL_law 786 = .ok (.iaload, 1) := by decide +kernel
theorem dL_law_787 : decode cL_law 787 = .ok (.aload_n 0, 1) := by decide +kernel
theorem dL_law_788 : decode cL_law 788 = .ok (.iload_n 3, 1) := by decide +kernel
theorem dL_law_789 : decode cL_law 789 = .ok (.iconst 3, 1) := by decide +kernel
theorem dL_law_790 : decode cL_law 790 = .ok (.iadd, 1) := by decide +kernel
theorem dL_law_791 : decode cL_law 791 = .ok (.iaload, 1) := by decide +kernel
theorem dL_law_792 : decode cL_law 792 = .ok (.aload_n 0, 1) := by decide +kernel
theorem dL_law_793 : decode cL_law 793 = .ok (.iload_n 3, 1) := by decide +kernel
theorem dL_law_794 : decode cL_law 794 = .ok (.iconst 4, 1) := by decide +kernel
theorem dL_law_795 : decode cL_law 795 = .ok (.iadd, 1) := by decide +kernel
theorem dL_law_796 : decode cL_law 796 = .ok (.iaload, 1) := by decide +kernel
theorem dL_law_797 : decode cL_law 797 = .ok (.invokevirtual 83, 3) := by decide +kernel
theorem dL_law_800 : decode cL_law 800 = .ok (.aload_n 2, 1) := by decide +kernel
theorem dL_law_801 : decode cL_law 801 = .ok (.aload_n 0, 1) := by decide +kernel
theorem dL_law_802 : decode cL_law 802 = .ok (.iload_n 3, 1) := by decide +kernel
theorem dL_law_803 : decode cL_law 803 = .ok (.iconst 1, 1) := by decide +kernel
theorem dL_law_804 : decode cL_law 804 = .ok (.iadd, 1) := by decide +kernel
theorem dL_law_805 : decode cL_law 805 = .ok (.iaload, 1) := by decide +kernel
theorem dL_law_806 : decode cL_law 806 = .ok (.aload_n 0, 1) := by decide +kernel
theorem dL_law_807 : decode cL_law 807 = .ok (.iload_n 3, 1) := by decide +kernel
theorem dL_law_808 : decode cL_law 808 = .ok (.iconst 2, 1) := by decide +kernel
theorem dL_law_809 : decode cL_law 809 = .ok (.iadd, 1) := by decide +kernel
theorem dL_law_810 : decode cL_law 810 = .ok (.iaload, 1) := by decide +kernel
theorem dL_law_811 : decode cL_law 811 = .ok (.aload_n 0, 1) := by decide +kernel
theorem dL_law_812 : decode cL_law 812 = .ok (.iload_n 3, 1) := by decide +kernel
theorem dL_law_813 : decode cL_law 813 = .ok (.iconst 3, 1) := by decide +kernel
theorem dL_law_814 : decode cL_law 814 = .ok (.iadd, 1) := by decide +kernel
theorem dL_law_815 : decode cL_law 815 = .ok (.iaload, 1) := by decide +kernel
theorem dL_law_816 : decode cL_law 816 = .ok (.aload_n 0, 1) := by decide +kernel
theorem dL_law_817 : decode cL_law 817 = .ok (.iload_n 3, 1) := by decide +kernel
theorem dL_law_818 : decode cL_law 818 = .ok (.iconst 4, 1) := by decide +kernel
theorem dL_law_819 : decode cL_law 819 = .ok (.iadd, 1) := by decide +kernel
theorem dL_law_820 : decode cL_law 820 = .ok (.iaload, 1) := by decide +kernel
theorem dL_law_821 : decode cL_law 821 = .ok (.invokevirtual 86, 3) := by decide +kernel
theorem dL_law_824 : decode cL_law 824 = .ok (.if_icmp .eq 590, 3) := by decide +kernel
theorem dL_law_827 : decode cL_law 827 = .ok (.iconst 0, 1) := by decide +kernel
theorem dL_law_828 : decode cL_law 828 = .ok (.ireturn, 1) := by decide +kernel
theorem dL_law_829 : decode cL_law 829 = .ok (.aload_n 1, 1) := by decide +kernel
theorem dL_law_830 : decode cL_law 830 = .ok (.aload_n 0, 1) := by decide +kernel
theorem dL_law_831 : decode cL_law 831 = .ok (.iload_n 3, 1) := by decide +kernel
theorem dL_law_832 : decode cL_law 832 = .ok (.iconst 1, 1) := by decide +kernel
theorem dL_law_833 : decode cL_law 833 = .ok (.iadd, 1) := by decide +kernel
theorem dL_law_834 : decode cL_law 834 = .ok (.iaload, 1) := by decide +kernel
theorem dL_law_835 : decode cL_law 835 = .ok (.invokevirtual 87, 3) := by decide +kernel
theorem dL_law_838 : decode cL_law 838 = .ok (.aload_n 2, 1) := by decide +kernel
theorem dL_law_839 : decode cL_law 839 = .ok (.aload_n 0, 1) := by decide +kernel
theorem dL_law_840 : decode cL_law 840 = .ok (.iload_n 3, 1) := by decide +kernel
theorem dL_law_841 : decode cL_law 841 = .ok (.iconst 1, 1) := by decide +kernel
theorem dL_law_842 : decode cL_law 842 = .ok (.iadd, 1) := by decide +kernel
theorem dL_law_843 : decode cL_law 843 = .ok (.iaload, 1) := by decide +kernel
theorem dL_law_844 : decode cL_law 844 = .ok (.invokevirtual 90, 3) := by decide +kernel
theorem dL_law_847 : decode cL_law 847 = .ok (.if_icmp .eq 567, 3) := by decide +kernel
theorem dL_law_850 : decode cL_law 850 = .ok (.iconst 0, 1) := by decide +kernel
theorem dL_law_851 : decode cL_law 851 = .ok (.ireturn, 1) := by decide +kernel
theorem dL_law_852 : decode cL_law 852 = .ok (.aload_n 1, 1) := by decide +kernel
theorem dL_law_853 : decode cL_law 853 = .ok (.aload_n 0, 1) := by decide +kernel
theorem dL_law_854 : decode cL_law 854 = .ok (.iload_n 3, 1) := by decide +kernel
theorem dL_law_855 : decode cL_law 855 = .ok (.iconst 1, 1) := by decide +kernel
theorem dL_law_856 : decode cL_law 856 = .ok (.iadd, 1) := by decide +kernel
theorem dL_law_857 : decode cL_law 857 = .ok (.iaload, 1) := by decide +kernel
theorem dL_law_858 : decode cL_law 858 = .ok (.aload_n 0, 1) := by decide +kernel
theorem dL_law_859 : decode cL_law 859 = .ok (.iload_n 3, 1) := by decide +kernel
theorem dL_law_860 : decode cL_law 860 = .ok (.iconst 2, 1) := by decide +kernel
theorem dL_law_861 : decode cL_law 861 = .ok (.iadd, 1) := by decide +kernel
theorem dL_law_862 : decode cL_law 862 = .ok (.iaload, 1) := by decide +kernel
theorem dL_law_863 : decode cL_law 863 = .ok (.invokevirtual 91, 3) := by decide +kernel
theorem dL_law_866 : decode cL_law 866 = .ok (.aload_n 2, 1) := by decide +kernel
theorem dL_law_867 : decode cL_law 867 = .ok (.aload_n 0, 1) := by decide +kernel
theorem dL_law_868 : decode cL_law 868 = .ok (.iload_n 3, 1) := by decide +kernel
theorem dL_law_869 : decode cL_law 869 = .ok (.iconst 1, 1) := by decide +kernel
theorem dL_law_870 : decode cL_law 870 = .ok (.iadd, 1) := by decide +kernel
theorem dL_law_871 : decode cL_law 871 = .ok (.iaload, 1) := by decide +kernel
theorem dL_law_872 : decode cL_law 872 = .ok (.aload_n 0, 1) := by decide +kernel
theorem dL_law_873 : decode cL_law 873 = .ok (.iload_n 3, 1) := by decide +kernel
theorem dL_law_874 : decode cL_law 874 = .ok (.iconst 2, 1) := by decide +kernel
theorem dL_law_875 : decode cL_law 875 = .ok (.iadd, 1) := by decide +kernel
theorem dL_law_876 : decode cL_law 876 = .ok (.iaload, 1) := by decide +kernel
theorem dL_law_877 : decode cL_law 877 = .ok (.invokevirtual 94, 3) := by decide +kernel
theorem dL_law_880 : decode cL_law 880 = .ok (.if_icmp .eq 534, 3) := by decide +kernel
theorem dL_law_883 : decode cL_law 883 = .ok (.iconst 0, 1) := by decide +kernel
theorem dL_law_884 : decode cL_law 884 = .ok (.ireturn, 1) := by decide +kernel
theorem dL_law_885 : decode cL_law 885 = .ok (.aload_n 1, 1) := by decide +kernel
theorem dL_law_886 : decode cL_law 886 = .ok (.aload_n 0, 1) := by decide +kernel
theorem dL_law_887 : decode cL_law 887 = .ok (.iload_n 3, 1) := by decide +kernel
theorem dL_law_888 : decode cL_law 888 = .ok (.iconst 1, 1) := by decide +kernel
theorem dL_law_889 : decode cL_law 889 = .ok (.iadd, 1) := by decide +kernel
theorem dL_law_890 : decode cL_law 890 = .ok (.iaload, 1) := by decide +kernel
theorem dL_law_891 : decode cL_law 891 = .ok (.aload_n 0, 1) := by decide +kernel
theorem dL_law_892 : decode cL_law 892 = .ok (.iload_n 3, 1) := by decide +kernel
theorem dL_law_893 : decode cL_law 893 = .ok (.iconst 2, 1) := by decide +kernel
theorem dL_law_894 : decode cL_law 894 = .ok (.iadd, 1) := by decide +kernel
theorem dL_law_895 : decode cL_law 895 = .ok (.iaload, 1) := by decide +kernel
theorem dL_law_896 : decode cL_law 896 = .ok (.aload_n 0, 1) := by decide +kernel
theorem dL_law_897 : decode cL_law 897 = .ok (.iload_n 3, 1) := by decide +kernel
theorem dL_law_898 : decode cL_law 898 = .ok (.iconst 3, 1) := by decide +kernel
theorem dL_law_899 : decode cL_law 899 = .ok (.iadd, 1) := by decide +kernel
theorem dL_law_900 : decode cL_law 900 = .ok (.iaload, 1) := by decide +kernel
theorem dL_law_901 : decode cL_law 901 = .ok (.aload_n 0, 1) := by decide +kernel
theorem dL_law_902 : decode cL_law 902 = .ok (.iload_n 3, 1) := by decide +kernel
theorem dL_law_903 : decode cL_law 903 = .ok (.iconst 4, 1) := by decide +kernel
theorem dL_law_904 : decode cL_law 904 = .ok (.iadd, 1) := by decide +kernel
theorem dL_law_905 : decode cL_law 905 = .ok (.iaload, 1) := by decide +kernel
theorem dL_law_906 : decode cL_law 906 = .ok (.invokevirtual 95, 3) := by decide +kernel
theorem dL_law_909 : decode cL_law 909 = .ok (.aload_n 2, 1) := by decide +kernel
theorem dL_law_910 : decode cL_law 910 = .ok (.aload_n 0, 1) := by decide +kernel
theorem dL_law_911 : decode cL_law 911 = .ok (.iload_n 3, 1) := by decide +kernel
theorem dL_law_912 : decode cL_law 912 = .ok (.iconst 1, 1) := by decide +kernel
theorem dL_law_913 : decode cL_law 913 = .ok (.iadd, 1) := by decide +kernel
theorem dL_law_914 : decode cL_law 914 = .ok (.iaload, 1) := by decide +kernel
theorem dL_law_915 : decode cL_law 915 = .ok (.aload_n 0, 1) := by decide +kernel
theorem dL_law_916 : decode cL_law 916 = .ok (.iload_n 3, 1) := by decide +kernel
theorem dL_law_917 : decode cL_law 917 = .ok (.iconst 2, 1) := by decide +kernel
theorem dL_law_918 : decode cL_law 918 = .ok (.iadd, 1) := by decide +kernel
theorem dL_law_919 : decode cL_law 919 = .ok (.iaload, 1) := by decide +kernel
theorem dL_law_920 : decode cL_law 920 = .ok (.aload_n 0, 1) := by decide +kernel
theorem dL_law_921 : decode cL_law 921 = .ok (.iload_n 3, 1) := by decide +kernel
theorem dL_law_922 : decode cL_law 922 = .ok (.iconst 3, 1) := by decide +kernel
theorem dL_law_923 : decode cL_law 923 = .ok (.iadd, 1) := by decide +kernel
theorem dL_law_924 : decode cL_law 924 = .ok (.iaload, 1) := by decide +kernel
theorem dL_law_925 : decode cL_law 925 = .ok (.aload_n 0, 1) := by decide +kernel
theorem dL_law_926 : decode cL_law 926 = .ok (.iload_n 3, 1) := by decide +kernel
theorem dL_law_927 : decode cL_law 927 = .ok (.iconst 4, 1) := by decide +kernel
theorem dL_law_928 : decode cL_law 928 = .ok (.iadd, 1) := by decide +kernel
theorem dL_law_929 : decode cL_law 929 = .ok (.iaload, 1) := by decide +kernel
theorem dL_law_930 : decode cL_law 930 = .ok (.invokevirtual 98, 3) := by decide +kernel
theorem dL_law_933 : decode cL_law 933 = .ok (.if_icmp .eq 481, 3) := by decide +kernel
theorem dL_law_936 : decode cL_law 936 = .ok (.iconst 0, 1) := by decide +kernel
theorem dL_law_937 : decode cL_law 937 = .ok (.ireturn, 1) := by decide +kernel
theorem dL_law_938 : decode cL_law 938 = .ok (.aload_n 1, 1) := by decide +kernel
theorem dL_law_939 : decode cL_law 939 = .ok (.aload_n 0, 1) := by decide +kernel
theorem dL_law_940 : decode cL_law 940 = .ok (.iload_n 3, 1) := by decide +kernel
theorem dL_law_941 : decode cL_law 941 = .ok (.iconst 1, 1) := by decide +kernel
theorem dL_law_942 : decode cL_law 942 = .ok (.iadd, 1) := by decide +kernel
theorem dL_law_943 : decode cL_law 943 = .ok (.iaload, 1) := by decide +kernel
theorem dL_law_944 : decode cL_law 944 = .ok (.aload_n 0, 1) := by decide +kernel
theorem dL_law_945 : decode cL_law 945 = .ok (.iload_n 3, 1) := by decide +kernel
theorem dL_law_946 : decode cL_law 946 = .ok (.iconst 2, 1) := by decide +kernel
theorem dL_law_947 : decode cL_law 947 = .ok (.iadd, 1) := by decide +kernel
theorem dL_law_948 : decode cL_law 948 = .ok (.iaload, 1) := by decide +kernel
theorem dL_law_949 : decode cL_law 949 = .ok (.invokevirtual 99, 3) := by decide +kernel
theorem dL_law_952 : decode cL_law 952 = .ok (.aload_n 2, 1) := by decide +kernel
theorem dL_law_953 : decode cL_law 953 = .ok (.aload_n 0, 1) := by decide +kernel
theorem dL_law_954 : decode cL_law 954 = .ok (.iload_n 3, 1) := by decide +kernel
theorem dL_law_955 : decode cL_law 955 = .ok (.iconst 1, 1) := by decide +kernel
theorem dL_law_956 : decode cL_law 956 = .ok (.iadd, 1) := by decide +kernel
theorem dL_law_957 : decode cL_law 957 = .ok (.iaload, 1) := by decide +kernel
theorem dL_law_958 : decode cL_law 958 = .ok (.aload_n 0, 1) := by decide +kernel
theorem dL_law_959 : decode cL_law 959 = .ok (.iload_n 3, 1) := by decide +kernel
theorem dL_law_960 : decode cL_law 960 = .ok (.iconst 2, 1) := by decide +kernel
theorem dL_law_961 : decode cL_law 961 = .ok (.iadd, 1) := by decide +kernel
theorem dL_law_962 : decode cL_law 962 = .ok (.iaload, 1) := by decide +kernel
theorem dL_law_963 : decode cL_law 963 = .ok (.invokevirtual 102, 3) := by decide +kernel
theorem dL_law_966 : decode cL_law 966 = .ok (.if_icmp .eq 448, 3) := by decide +kernel
theorem dL_law_969 : decode cL_law 969 = .ok (.iconst 0, 1) := by decide +kernel
theorem dL_law_970 : decode cL_law 970 = .ok (.ireturn, 1) := by decide +kernel
theorem dL_law_971 : decode cL_law 971 = .ok (.aload_n 1, 1) := by decide +kernel
theorem dL_law_972 : decode cL_law 972 = .ok (.aload_n 0, 1) := by decide +kernel
theorem dL_law_973 : decode cL_law 973 = .ok (.iload_n 3, 1) := by decide +kernel
theorem dL_law_974 : decode cL_law 974 = .ok (.iconst 1, 1) := by decide +kernel
theorem dL_law_975 : decode cL_law 975 = .ok (.iadd, 1) := by decide +kernel
theorem dL_law_976 : decode cL_law 976 = .ok (.iaload, 1) := by decide +kernel
theorem dL_law_977 : decode cL_law 977 = .ok (.invokevirtual 103, 3) := by decide +kernel
theorem dL_law_980 : decode cL_law 980 = .ok (.aload_n 2, 1) := by decide +kernel
theorem dL_law_981 : decode cL_law 981 = .ok (.aload_n 0, 1) := by decide +kernel
theorem dL_law_982 : decode cL_law 982 = .ok (.iload_n 3, 1) := by decide +kernel
theorem dL_law_983 : decode cL_law 983 = .ok (.iconst 1, 1) := by decide +kernel
theorem dL_law_984 : decode cL_law 984 = .ok (.iadd, 1) := by decide +kernel
theorem dL_law_985 : decode cL_law 985 = .ok (.iaload, 1) := by decide +kernel
theorem dL_law_986 : decode cL_law 986 = .ok (.invokevirtual 106, 3) := by decide +kernel
theorem dL_law_989 : decode cL_law 989 = .ok (.if_icmp .eq 425, 3) := by decide +kernel
theorem dL_law_992 : decode cL_law 992 = .ok (.iconst 0, 1) := by decide +kernel
theorem dL_law_993 : decode cL_law 993 = .ok (.ireturn, 1) := by decide +kernel
theorem dL_law_994 : decode cL_law 994 = .ok (.aload_n 1, 1) := by decide +kernel
theorem dL_law_995 : decode cL_law 995 = .ok (.aload_n 0, 1) := by decide +kernel
theorem dL_law_996 : decode cL_law 996 = .ok (.iload_n 3, 1) := by decide +kernel
theorem dL_law_997 : decode cL_law 997 = .ok (.iconst 1, 1) := by decide +kernel
theorem dL_law_998 : decode cL_law 998 = .ok (.iadd, 1) := by decide +kernel
theorem dL_law_999 : decode cL_law 999 = .ok (.iaload, 1) := by decide +kernel
theorem dL_law_1000 : decode cL_law 1000 = .ok (.aload_n 0, 1) := by decide +kernel
theorem dL_law_1001 : decode cL_law 1001 = .ok (.iload_n 3, 1) := by decide +kernel
theorem dL_law_1002 : decode cL_law 1002 = .ok (.iconst 2, 1) := by decide +kernel
theorem dL_law_1003 : decode cL_law 1003 = .ok (.iadd, 1) := by decide +kernel
theorem dL_law_1004 : decode cL_law 1004 = .ok (.iaload, 1) := by decide +kernel
theorem dL_law_1005 : decode cL_law 1005 = .ok (.invokevirtual 107, 3) := by decide +kernel
theorem dL_law_1008 : decode cL_law 1008 = .ok (.aload_n 2, 1) := by decide +kernel
theorem dL_law_1009 : decode cL_law 1009 = .ok (.aload_n 0, 1) := by decide +kernel
theorem dL_law_1010 : decode cL_law 1010 = .ok (.iload_n 3, 1) := by decide +kernel
theorem dL_law_1011 : decode cL_law 1011 = .ok (.iconst 1, 1) := by decide +kernel
theorem dL_law_1012 : decode cL_law 1012 = .ok (.iadd, 1) := by decide +kernel
theorem dL_law_1013 : decode cL_law 1013 = .ok (.iaload, 1) := by decide +kernel
theorem dL_law_1014 : decode cL_law 1014 = .ok (.aload_n 0, 1) := by decide +kernel
theorem dL_law_1015 : decode cL_law 1015 = .ok (.iload_n 3, 1) := by decide +kernel
theorem dL_law_1016 : decode cL_law 1016 = .ok (.iconst 2, 1) := by decide +kernel
theorem dL_law_1017 : decode cL_law 1017 = .ok (.iadd, 1) := by decide +kernel
theorem dL_law_1018 : decode cL_law 1018 = .ok (.iaload, 1) := by decide +kernel
theorem dL_law_1019 : decode cL_law 1019 = .ok (.invokevirtual 110, 3) := by decide +kernel
theorem dL_law_1022 : decode cL_law 1022 = .ok (.if_icmp .eq 392, 3) := by decide +kernel
theorem dL_law_1025 : decode cL_law 1025 = .ok (.iconst 0, 1) := by decide +kernel
theorem dL_law_1026 : decode cL_law 1026 = .ok (.ireturn, 1) := by decide +kernel
theorem dL_law_1027 : decode cL_law 1027 = .ok (.aload_n 1, 1) := by decide +kernel
theorem dL_law_1028 : decode cL_law 1028 = .ok (.aload_n 0, 1) := by decide +kernel
theorem dL_law_1029 : decode cL_law 1029 = .ok (.iload_n 3, 1) := by decide +kernel
theorem dL_law_1030 : decode cL_law 1030 = .ok (.iconst 1, 1) := by decide +kernel
theorem dL_law_1031 : decode cL_law 1031 = .ok (.iadd, 1) := by decide +kernel
theorem dL_law_1032 : decode cL_law 1032 = .ok (.iaload, 1) := by decide +kernel
theorem dL_law_1033 : decode cL_law 1033 = .ok (.aload_n 0, 1) := by decide +kernel
theorem dL_law_1034 : decode cL_law 1034 = .ok (.iload_n 3, 1) := by decide +kernel
theorem dL_law_1035 : decode cL_law 1035 = .ok (.iconst 2, 1) := by decide +kernel
theorem dL_law_1036 : decode cL_law 1036 = .ok (.iadd, 1) := by decide +kernel
theorem dL_law_1037 : decode cL_law 1037 = .ok (.iaload, 1) := by decide +kernel
theorem dL_law_1038 : decode cL_law 1038 = .ok (.aload_n 0, 1) := by decide +kernel
theorem dL_law_1039 : decode cL_law 1039 = .ok (.iload_n 3, 1) := by decide +kernel
theorem dL_law_1040 : decode cL_law 1040 = .ok (.iconst 3, 1) := by decide +kernel
theorem dL_law_1041 : decode cL_law 1041 = .ok (.iadd, 1) := by decide +kernel
theorem dL_law_1042 : decode cL_law 1042 = .ok (.iaload, 1) := by decide +kernel
theorem dL_law_1043 : decode cL_law 1043 = .ok (.invokevirtual 111, 3) := by decide +kernel
theorem dL_law_1046 : decode cL_law 1046 = .ok (.aload_n 2, 1) := by decide +kernel
theorem dL_law_1047 : decode cL_law 1047 = .ok (.aload_n 0, 1) := by decide +kernel
theorem dL_law_1048 : decode cL_law 1048 = .ok (.iload_n 3, 1) := by decide +kernel
theorem dL_law_1049 : decode cL_law 1049 = .ok (.iconst 1, 1) := by decide +kernel
theorem dL_law_1050 : decode cL_law 1050 = .ok (.iadd, 1) := by decide +kernel
theorem dL_law_1051 : decode cL_law 1051 = .ok (.iaload, 1) := by decide +kernel
theorem dL_law_1052 : decode cL_law 1052 = .ok (.aload_n 0, 1) := by decide +kernel
theorem dL_law_1053 : decode cL_law 1053 = .ok (.iload_n 3, 1) := by decide +kernel
theorem dL_law_1054 : decode cL_law 1054 = .ok (.iconst 2, 1) := by decide +kernel
theorem dL_law_1055 : decode cL_law 1055 = .ok (.iadd, 1) := by decide +kernel
theorem dL_law_1056 : decode cL_law 1056 = .ok (.iaload, 1) := by decide +kernel
theorem dL_law_1057 : decode cL_law 1057 = .ok (.aload_n 0, 1) := by decide +kernel
theorem dL_law_1058 : decode cL_law 1058 = .ok (.iload_n 3, 1) := by decide +kernel
theorem dL_law_1059 : decode cL_law 1059 = .ok (.iconst 3, 1) := by decide +kernel
theorem dL_law_1060 : decode cL_law 1060 = .ok (.iadd, 1) := by decide +kernel
theorem dL_law_1061 : decode cL_law 1061 = .ok (.iaload, 1) := by decide +kernel
theorem dL_law_1062 : decode cL_law 1062 = .ok (.invokevirtual 114, 3) := by decide +kernel
theorem dL_law_1065 : decode cL_law 1065 = .ok (.if_icmp .eq 349, 3) := by decide +kernel
theorem dL_law_1068 : decode cL_law 1068 = .ok (.iconst 0, 1) := by decide +kernel
theorem dL_law_1069 : decode cL_law 1069 = .ok (.ireturn, 1) := by decide +kernel
theorem dL_law_1070 : decode cL_law 1070 = .ok (.aload_n 1, 1) := by decide +kernel
theorem dL_law_1071 : decode cL_law 1071 = .ok (.aload_n 0, 1) := by decide +kernel
theorem dL_law_1072 : decode cL_law 1072 = .ok (.iload_n 3, 1) := by decide +kernel
theorem dL_law_1073 : decode cL_law 1073 = .ok (.iconst 1, 1) := by decide +kernel
theorem dL_law_1074 : decode cL_law 1074 = .ok (.iadd, 1) := by decide +kernel
theorem dL_law_1075 : decode cL_law 1075 = .ok (.iaload, 1) := by decide +kernel
theorem dL_law_1076 : decode cL_law 1076 = .ok (.aload_n 0, 1) := by decide +kernel
theorem dL_law_1077 : decode cL_law 1077 = .ok (.iload_n 3, 1) := by decide +kernel
theorem dL_law_1078 : decode cL_law 1078 = .ok (.iconst 2, 1) := by decide +kernel
theorem dL_law_1079 : decode cL_law 1079 = .ok (.iadd, 1) := by decide +kernel
theorem dL_law_1080 : decode cL_law 1080 = .ok (.iaload, 1) := by decide +kernel
theorem dL_law_1081 : decode cL_law 1081 = .ok (.aload_n 0, 1) := by decide +kernel
theorem dL_law_1082 : decode cL_law 1082 = .ok (.iload_n 3, 1) := by decide +kernel
theorem dL_law_1083 : decode cL_law 1083 = .ok (.iconst 3, 1) := by decide +kernel
theorem dL_law_1084 : decode cL_law 1084 = .ok (.iadd, 1) := by decide +kernel
theorem dL_law_1085 : decode cL_law 1085 = .ok (.iaload, 1) := by decide +kernel
theorem dL_law_1086 : decode cL_law 1086 = .ok (.invokevirtual 115, 3) := by decide +kernel
theorem dL_law_1089 : decode cL_law 1089 = .ok (.aload_n 2, 1) := by decide +kernel
theorem dL_law_1090 : decode cL_law 1090 = .ok (.aload_n 0, 1) := by decide +kernel
theorem dL_law_1091 : decode cL_law 1091 = .ok (.iload_n 3, 1) := by decide +kernel
theorem dL_law_1092 : decode cL_law 1092 = .ok (.iconst 1, 1) := by decide +kernel
theorem dL_law_1093 : decode cL_law 1093 = .ok (.iadd, 1) := by decide +kernel
theorem dL_law_1094 : decode cL_law 1094 = .ok (.iaload, 1) := by decide +kernel
theorem dL_law_1095 : decode cL_law 1095 = .ok (.aload_n 0, 1) := by decide +kernel
theorem dL_law_1096 : decode cL_law 1096 = .ok (.iload_n 3, 1) := by decide +kernel
theorem dL_law_1097 : decode cL_law 1097 = .ok (.iconst 2, 1) := by decide +kernel
theorem dL_law_1098 : decode cL_law 1098 = .ok (.iadd, 1) := by decide +kernel
theorem dL_law_1099 : decode cL_law 1099 = .ok (.iaload, 1) := by decide +kernel
theorem dL_law_1100 : decode cL_law 1100 = .ok (.aload_n 0, 1) := by decide +kernel
theorem dL_law_1101 : decode cL_law 1101 = .ok (.iload_n 3, 1) := by decide +kernel
theorem dL_law_1102 : decode cL_law 1102 = .ok (.iconst 3, 1) := by decide +kernel
theorem dL_law_1103 : decode cL_law 1103 = .ok (.iadd, 1) := by decide +kernel
theorem dL_law_1104 : decode cL_law 1104 = .ok (.iaload, 1) := by decide +kernel
theorem dL_law_1105 : decode cL_law 1105 = .ok (.invokevirtual 118, 3) := by decide +kernel
theorem dL_law_1108 : decode cL_law 1108 = .ok (.if_icmp .eq 306, 3) := by decide +kernel
theorem dL_law_1111 : decode cL_law 1111 = .ok (.iconst 0, 1) := by decide +kernel
theorem dL_law_1112 : decode cL_law 1112 = .ok (.ireturn, 1) := by decide +kernel
theorem dL_law_1113 : decode cL_law 1113 = .ok (.aload_n 1, 1) := by decide +kernel
theorem dL_law_1114 : decode cL_law 1114 = .ok (.aload_n 0, 1) := by decide +kernel
theorem dL_law_1115 : decode cL_law 1115 = .ok (.iload_n 3, 1) := by decide +kernel
theorem dL_law_1116 : decode cL_law 1116 = .ok (.iconst 1, 1) := by decide +kernel
theorem dL_law_1117 : decode cL_law 1117 = .ok (.iadd, 1) := by decide +kernel
theorem dL_law_1118 : decode cL_law 1118 = .ok (.iaload, 1) := by decide +kernel
theorem dL_law_1119 : decode cL_law 1119 = .ok (.invokevirtual 119, 3) := by decide +kernel
theorem dL_law_1122 : decode cL_law 1122 = .ok (.aload_n 2, 1) := by decide +kernel
theorem dL_law_1123 : decode cL_law 1123 = .ok (.aload_n 0, 1) := by decide +kernel
theorem dL_law_1124 : decode cL_law 1124 = .ok (.iload_n 3, 1) := by decide +kernel
theorem dL_law_1125 : decode cL_law 1125 = .ok (.iconst 1, 1) := by decide +kernel
theorem dL_law_1126 : decode cL_law 1126 = .ok (.iadd, 1) := by decide +kernel
theorem dL_law_1127 : decode cL_law 1127 = .ok (.iaload, 1) := by decide +kernel
theorem dL_law_1128 : decode cL_law 1128 = .ok (.invokevirtual 122, 3) := by decide +kernel
theorem dL_law_1131 : decode cL_law 1131 = .ok (.if_icmp .eq 283, 3) := by decide +kernel
theorem dL_law_1134 : decode cL_law 1134 = .ok (.iconst 0, 1) := by decide +kernel
theorem dL_law_1135 : decode cL_law 1135 = .ok (.ireturn, 1) := by decide +kernel
theorem dL_law_1136 : decode cL_law 1136 = .ok (.aload_n 1, 1) := by decide +kernel
theorem dL_law_1137 : decode cL_law 1137 = .ok (.aload_n 0, 1) := by decide +kernel
theorem dL_law_1138 : decode cL_law 1138 = .ok (.iload_n 3, 1) := by decide +kernel
theorem dL_law_1139 : decode cL_law 1139 = .ok (.iconst 1, 1) := by decide +kernel
theorem dL_law_1140 : decode cL_law 1140 = .ok (.iadd, 1) := by decide +kernel
theorem dL_law_1141 : decode cL_law 1141 = .ok (.iaload, 1) := by decide +kernel
theorem dL_law_1142 : decode cL_law 1142 = .ok (.aload_n 0, 1) := by decide +kernel
theorem dL_law_1143 : decode cL_law 1143 = .ok (.iload_n 3, 1) := by decide +kernel
theorem dL_law_1144 : decode cL_law 1144 = .ok (.iconst 2, 1) := by decide +kernel
theorem dL_law_1145 : decode cL_law 1145 = .ok (.iadd, 1) := by decide +kernel
theorem dL_law_1146 : decode cL_law 1146 = .ok (.iaload, 1) := by decide +kernel
theorem dL_law_1147 : decode cL_law 1147 = .ok (.aload_n 0, 1) := by decide +kernel
theorem dL_law_1148 : decode cL_law 1148 = .ok (.iload_n 3, 1) := by decide +kernel
theorem dL_law_1149 : decode cL_law 1149 = .ok (.iconst 3, 1) := by decide +kernel
theorem dL_law_1150 : decode cL_law 1150 = .ok (.iadd, 1) := by decide +kernel
theorem dL_law_1151 : decode cL_law 1151 = .ok (.iaload, 1) := by decide +kernel
theorem dL_law_1152 : decode cL_law 1152 = .ok (.invokevirtual 123, 3) := by decide +kernel
theorem dL_law_1155 : decode cL_law 1155 = .ok (.aload_n 2, 1) := by decide +kernel
theorem dL_law_1156 : decode cL_law 1156 = .ok (.aload_n 0, 1) := by decide +kernel
theorem dL_law_1157 : decode cL_law 1157 = .ok (.iload_n 3, 1) := by decide +kernel
theorem dL_law_1158 : decode cL_law 1158 = .ok (.iconst 1, 1) := by decide +kernel
theorem dL_law_1159 : decode cL_law 1159 = .ok (.iadd, 1) := by decide +kernel
theorem dL_law_1160 : decode cL_law 1160 = .ok (.iaload, 1) := by decide +kernel
theorem dL_law_1161 : decode cL_law 1161 = .ok (.aload_n 0, 1) := by decide +kernel
theorem dL_law_1162 : decode cL_law 1162 = .ok (.iload_n 3, 1) := by decide +kernel
theorem dL_law_1163 : decode cL_law 1163 = .ok (.iconst 2, 1) := by decide +kernel
theorem dL_law_1164 : decode cL_law 1164 = .ok (.iadd, 1) := by decide +kernel
theorem dL_law_1165 : decode cL_law 1165 = .ok (.iaload, 1) := by decide +kernel
theorem dL_law_1166 : decode cL_law 1166 = .ok (.aload_n 0, 1) := by decide +kernel
theorem dL_law_1167 : decode cL_law 1167 = .ok (.iload_n 3, 1) := by decide +kernel
theorem dL_law_1168 : decode cL_law 1168 = .ok (.iconst 3, 1) := by decide +kernel
theorem dL_law_1169 : decode cL_law 1169 = .ok (.iadd, 1) := by decide +kernel
theorem dL_law_1170 : decode cL_law 1170 = .ok (.iaload, 1) := by decide +kernel
theorem dL_law_1171 : decode cL_law 1171 = .ok (.invokevirtual 126, 3) := by decide +kernel
theorem dL_law_1174 : decode cL_law 1174 = .ok (.if_icmp .eq 240, 3) := by decide +kernel
theorem dL_law_1177 : decode cL_law 1177 = .ok (.iconst 0, 1) := by decide +kernel
theorem dL_law_1178 : decode cL_law 1178 = .ok (.ireturn, 1) := by decide +kernel
theorem dL_law_1179 : decode cL_law 1179 = .ok (.aload_n 1, 1) := by decide +kernel
theorem dL_law_1180 : decode cL_law 1180 = .ok (.aload_n 0, 1) := by decide +kernel
theorem dL_law_1181 : decode cL_law 1181 = .ok (.iload_n 3, 1) := by decide +kernel
theorem dL_law_1182 : decode cL_law 1182 = .ok (.iconst 1, 1) := by decide +kernel
theorem dL_law_1183 : decode cL_law 1183 = .ok (.iadd, 1) := by decide +kernel
theorem dL_law_1184 : decode cL_law 1184 = .ok (.iaload, 1) := by decide +kernel
theorem dL_law_1185 : decode cL_law 1185 = .ok (.aload_n 0, 1) := by decide +kernel
theorem dL_law_1186 : decode cL_law 1186 = .ok (.iload_n 3, 1) := by decide +kernel
theorem dL_law_1187 : decode cL_law 1187 = .ok (.iconst 2, 1) := by decide +kernel
theorem dL_law_1188 : decode cL_law 1188 = .ok (.iadd, 1) := by decide +kernel
theorem dL_law_1189 : decode cL_law 1189 = .ok (.iaload, 1) := by decide +kernel
theorem dL_law_1190 : decode cL_law 1190 = .ok (.aload_n 0, 1) := by decide +kernel
theorem dL_law_1191 : decode cL_law 1191 = .ok (.iload_n 3, 1) := by decide +kernel
theorem dL_law_1192 : decode cL_law 1192 = .ok (.iconst 3, 1) := by decide +kernel
theorem dL_law_1193 : decode cL_law 1193 = .ok (.iadd, 1) := by decide +kernel
theorem dL_law_1194 : decode cL_law 1194 = .ok (.iaload, 1) := by decide +kernel
theorem dL_law_1195 : decode cL_law 1195 = .ok (.invokevirtual 127, 3) := by decide +kernel
theorem dL_law_1198 : decode cL_law 1198 = .ok (.aload_n 2, 1) := by decide +kernel
theorem dL_law_1199 : decode cL_law 1199 = .ok (.aload_n 0, 1) := by decide +kernel
theorem dL_law_1200 : decode cL_law 1200 = .ok (.iload_n 3, 1) := by decide +kernel
theorem dL_law_1201 : decode cL_law 1201 = .ok (.iconst 1, 1) := by decide +kernel
theorem dL_law_1202 : decode cL_law 1202 = .ok (.iadd, 1) := by decide +kernel
theorem dL_law_1203 : decode cL_law 1203 = .ok (.iaload, 1) := by decide +kernel
theorem dL_law_1204 : decode cL_law 1204 = .ok (.aload_n 0, 1) := by decide +kernel
theorem dL_law_1205 : decode cL_law 1205 = .ok (.iload_n 3, 1) := by decide +kernel
theorem dL_law_1206 : decode cL_law 1206 = .ok (.iconst 2, 1) := by decide +kernel
theorem dL_law_1207 : decode cL_law 1207 = .ok (.iadd, 1) := by decide +kernel
theorem dL_law_1208 : decode cL_law 1208 = .ok (.iaload, 1) := by decide +kernel
theorem dL_law_1209 : decode cL_law 1209 = .ok (.aload_n 0, 1) := by decide +kernel
theorem dL_law_1210 : decode cL_law 1210 = .ok (.iload_n 3, 1) := by decide +kernel
theorem dL_law_1211 : decode cL_law 1211 = .ok (.iconst 3, 1) := by decide +kernel
theorem dL_law_1212 : decode cL_law 1212 = .ok (.iadd, 1) := by decide +kernel
theorem dL_law_1213 : decode cL_law 1213 = .ok (.iaload, 1) := by decide +kernel
theorem dL_law_1214 : decode cL_law 1214 = .ok (.invokevirtual 131, 3) := by decide +kernel
theorem dL_law_1217 : decode cL_law 1217 = .ok (.lcmp, 1) := by decide +kernel
theorem dL_law_1218 : decode cL_law 1218 = .ok (.ifCond .eq 196, 3) := by decide +kernel
theorem dL_law_1221 : decode cL_law 1221 = .ok (.iconst 0, 1) := by decide +kernel
theorem dL_law_1222 : decode cL_law 1222 = .ok (.ireturn, 1) := by decide +kernel
theorem dL_law_1223 : decode cL_law 1223 = .ok (.aload_n 1, 1) := by decide +kernel
theorem dL_law_1224 : decode cL_law 1224 = .ok (.aload_n 0, 1) := by decide +kernel
theorem dL_law_1225 : decode cL_law 1225 = .ok (.iload_n 3, 1) := by decide +kernel
theorem dL_law_1226 : decode cL_law 1226 = .ok (.iconst 1, 1) := by decide +kernel
theorem dL_law_1227 : decode cL_law 1227 = .ok (.iadd, 1) := by decide +kernel
theorem dL_law_1228 : decode cL_law 1228 = .ok (.iaload, 1) := by decide +kernel
theorem dL_law_1229 : decode cL_law 1229 = .ok (.aload_n 0, 1) := by decide +kernel
theorem dL_law_1230 : decode cL_law 1230 = .ok (.iload_n 3, 1) := by decide +kernel
theorem dL_law_1231 : decode cL_law 1231 = .ok (.iconst 2, 1) := by decide +kernel
theorem dL_law_1232 : decode cL_law 1232 = .ok (.iadd, 1) := by decide +kernel
theorem dL_law_1233 : decode cL_law 1233 = .ok (.iaload, 1) := by decide +kernel
theorem dL_law_1234 : decode cL_law 1234 = .ok (.aload_n 0, 1) := by decide +kernel
theorem dL_law_1235 : decode cL_law 1235 = .ok (.iload_n 3, 1) := by decide +kernel
theorem dL_law_1236 : decode cL_law 1236 = .ok (.iconst 3, 1) := by decide +kernel
theorem dL_law_1237 : decode cL_law 1237 = .ok (.iadd, 1) := by decide +kernel
theorem dL_law_1238 : decode cL_law 1238 = .ok (.iaload, 1) := by decide +kernel
theorem dL_law_1239 : decode cL_law 1239 = .ok (.aload_n 0, 1) := by decide +kernel
theorem dL_law_1240 : decode cL_law 1240 = .ok (.iload_n 3, 1) := by decide +kernel
theorem dL_law_1241 : decode cL_law 1241 = .ok (.iconst 4, 1) := by decide +kernel
theorem dL_law_1242 : decode cL_law 1242 = .ok (.iadd, 1) := by decide +kernel
theorem dL_law_1243 : decode cL_law 1243 = .ok (.iaload, 1) := by decide +kernel
theorem dL_law_1244 : decode cL_law 1244 = .ok (.aload_n 0, 1) := by decide +kernel
theorem dL_law_1245 : decode cL_law 1245 = .ok (.iload_n 3, 1) := by decide +kernel
theorem dL_law_1246 : decode cL_law 1246 = .ok (.iconst 5, 1) := by decide +kernel
theorem dL_law_1247 : decode cL_law 1247 = .ok (.iadd, 1) := by decide +kernel
theorem dL_law_1248 : decode cL_law 1248 = .ok (.iaload, 1) := by decide +kernel
theorem dL_law_1249 : decode cL_law 1249 = .ok (.invokevirtual 132, 3) := by decide +kernel
theorem dL_law_1252 : decode cL_law 1252 = .ok (.aload_n 2, 1) := by decide +kernel
theorem dL_law_1253 : decode cL_law 1253 = .ok (.aload_n 0, 1) := by decide +kernel
theorem dL_law_1254 : decode cL_law 1254 = .ok (.iload_n 3, 1) := by decide +kernel
theorem dL_law_1255 : decode cL_law 1255 = .ok (.iconst 1, 1) := by decide +kernel
theorem dL_law_1256 : decode cL_law 1256 = .ok (.iadd, 1) := by decide +kernel
theorem dL_law_1257 : decode cL_law 1257 = .ok (.iaload, 1) := by decide +kernel
theorem dL_law_1258 : decode cL_law 1258 = .ok (.aload_n 0, 1) := by decide +kernel
theorem dL_law_1259 : decode cL_law 1259 = .ok (.iload_n 3, 1) := by decide +kernel
theorem dL_law_1260 : decode cL_law 1260 = .ok (.iconst 2, 1) := by decide +kernel
theorem dL_law_1261 : decode cL_law 1261 = .ok (.iadd, 1) := by decide +kernel
theorem dL_law_1262 : decode cL_law 1262 = .ok (.iaload, 1) := by decide +kernel
theorem dL_law_1263 : decode cL_law 1263 = .ok (.aload_n 0, 1) := by decide +kernel
theorem dL_law_1264 : decode cL_law 1264 = .ok (.iload_n 3, 1) := by decide +kernel
theorem dL_law_1265 : decode cL_law 1265 = .ok (.iconst 3, 1) := by decide +kernel
theorem dL_law_1266 : decode cL_law 1266 = .ok (.iadd, 1) := by decide +kernel
theorem dL_law_1267 : decode cL_law 1267 = .ok (.iaload, 1) := by decide +kernel
theorem dL_law_1268 : decode cL_law 1268 = .ok (.aload_n 0, 1) := by decide +kernel
theorem dL_law_1269 : decode cL_law 1269 = .ok (.iload_n 3, 1) := by decide +kernel
theorem dL_law_1270 : decode cL_law 1270 = .ok (.iconst 4, 1) := by decide +kernel
theorem dL_law_1271 : decode cL_law 1271 = .ok (.iadd, 1) := by decide +kernel
theorem dL_law_1272 : decode cL_law 1272 = .ok (.iaload, 1) := by decide +kernel
theorem dL_law_1273 : decode cL_law 1273 = .ok (.aload_n 0, 1) := by decide +kernel
theorem dL_law_1274 : decode cL_law 1274 = .ok (.iload_n 3, 1) := by decide +kernel
theorem dL_law_1275 : decode cL_law 1275 = .ok (.iconst 5, 1) := by decide +kernel
theorem dL_law_1276 : decode cL_law 1276 = .ok (.iadd, 1) := by decide +kernel
theorem dL_law_1277 : decode cL_law 1277 = .ok (.iaload, 1) := by decide +kernel
theorem dL_law_1278 : decode cL_law 1278 = .ok (.invokevirtual 135, 3) := by decide +kernel
theorem dL_law_1281 : decode cL_law 1281 = .ok (.if_icmp .eq 133, 3) := by decide +kernel
theorem dL_law_1284 : decode cL_law 1284 = .ok (.iconst 0, 1) := by decide +kernel
theorem dL_law_1285 : decode cL_law 1285 = .ok (.ireturn, 1) := by decide +kernel
theorem dL_law_1286 : decode cL_law 1286 = .ok (.aload_n 1, 1) := by decide +kernel
theorem dL_law_1287 : decode cL_law 1287 = .ok (.aload_n 0, 1) := by decide +kernel
theorem dL_law_1288 : decode cL_law 1288 = .ok (.iload_n 3, 1) := by decide +kernel
theorem dL_law_1289 : decode cL_law 1289 = .ok (.iconst 1, 1) := by decide +kernel
theorem dL_law_1290 : decode cL_law 1290 = .ok (.iadd, 1) := by decide +kernel
theorem dL_law_1291 : decode cL_law 1291 = .ok (.iaload, 1) := by decide +kernel
theorem dL_law_1292 : decode cL_law 1292 = .ok (.invokevirtual 136, 3) := by decide +kernel
theorem dL_law_1295 : decode cL_law 1295 = .ok (.aload_n 2, 1) := by decide +kernel
theorem dL_law_1296 : decode cL_law 1296 = .ok (.aload_n 0, 1) := by decide +kernel
theorem dL_law_1297 : decode cL_law 1297 = .ok (.iload_n 3, 1) := by decide +kernel
theorem dL_law_1298 : decode cL_law 1298 = .ok (.iconst 1, 1) := by decide +kernel
theorem dL_law_1299 : decode cL_law 1299 = .ok (.iadd, 1) := by decide +kernel
theorem dL_law_1300 : decode cL_law 1300 = .ok (.iaload, 1) := by decide +kernel
theorem dL_law_1301 : decode cL_law 1301 = .ok (.invokevirtual 139, 3) := by decide +kernel
theorem dL_law_1304 : decode cL_law 1304 = .ok (.if_icmp .eq 110, 3) := by decide +kernel
theorem dL_law_1307 : decode cL_law 1307 = .ok (.iconst 0, 1) := by decide +kernel
theorem dL_law_1308 : decode cL_law 1308 = .ok (.ireturn, 1) := by decide +kernel
theorem dL_law_1309 : decode cL_law 1309 = .ok (.aload_n 1, 1) := by decide +kernel
theorem dL_law_1310 : decode cL_law 1310 = .ok (.aload_n 0, 1) := by decide +kernel
theorem dL_law_1311 : decode cL_law 1311 = .ok (.iload_n 3, 1) := by decide +kernel
theorem dL_law_1312 : decode cL_law 1312 = .ok (.iconst 1, 1) := by decide +kernel
theorem dL_law_1313 : decode cL_law 1313 = .ok (.iadd, 1) := by decide +kernel
theorem dL_law_1314 : decode cL_law 1314 = .ok (.iaload, 1) := by decide +kernel
theorem dL_law_1315 : decode cL_law 1315 = .ok (.invokevirtual 140, 3) := by decide +kernel
theorem dL_law_1318 : decode cL_law 1318 = .ok (.aload_n 2, 1) := by decide +kernel
theorem dL_law_1319 : decode cL_law 1319 = .ok (.aload_n 0, 1) := by decide +kernel
theorem dL_law_1320 : decode cL_law 1320 = .ok (.iload_n 3, 1) := by decide +kernel
theorem dL_law_1321 : decode cL_law 1321 = .ok (.iconst 1, 1) := by decide +kernel
theorem dL_law_1322 : decode cL_law 1322 = .ok (.iadd, 1) := by decide +kernel
theorem dL_law_1323 : decode cL_law 1323 = .ok (.iaload, 1) := by decide +kernel
theorem dL_law_1324 : decode cL_law 1324 = .ok (.invokevirtual 143, 3) := by decide +kernel
theorem dL_law_1327 : decode cL_law 1327 = .ok (.if_icmp .eq 87, 3) := by decide +kernel
theorem dL_law_1330 : decode cL_law 1330 = .ok (.iconst 0, 1) := by decide +kernel
theorem dL_law_1331 : decode cL_law 1331 = .ok (.ireturn, 1) := by decide +kernel
theorem dL_law_1332 : decode cL_law 1332 = .ok (.aload_n 1, 1) := by decide +kernel
theorem dL_law_1333 : decode cL_law 1333 = .ok (.aload_n 0, 1) := by decide +kernel
theorem dL_law_1334 : decode cL_law 1334 = .ok (.iload_n 3, 1) := by decide +kernel
theorem dL_law_1335 : decode cL_law 1335 = .ok (.iconst 1, 1) := by decide +kernel
theorem dL_law_1336 : decode cL_law 1336 = .ok (.iadd, 1) := by decide +kernel
theorem dL_law_1337 : decode cL_law 1337 = .ok (.iaload, 1) := by decide +kernel
theorem dL_law_1338 : decode cL_law 1338 = .ok (.aload_n 0, 1) := by decide +kernel
theorem dL_law_1339 : decode cL_law 1339 = .ok (.iload_n 3, 1) := by decide +kernel
theorem dL_law_1340 : decode cL_law 1340 = .ok (.iconst 2, 1) := by decide +kernel
theorem dL_law_1341 : decode cL_law 1341 = .ok (.iadd, 1) := by decide +kernel
theorem dL_law_1342 : decode cL_law 1342 = .ok (.iaload, 1) := by decide +kernel
theorem dL_law_1343 : decode cL_law 1343 = .ok (.invokevirtual 144, 3) := by decide +kernel
theorem dL_law_1346 : decode cL_law 1346 = .ok (.aload_n 2, 1) := by decide +kernel
theorem dL_law_1347 : decode cL_law 1347 = .ok (.aload_n 0, 1) := by decide +kernel
theorem dL_law_1348 : decode cL_law 1348 = .ok (.iload_n 3, 1) := by decide +kernel
theorem dL_law_1349 : decode cL_law 1349 = .ok (.iconst 1, 1) := by decide +kernel
theorem dL_law_1350 : decode cL_law 1350 = .ok (.iadd, 1) := by decide +kernel
theorem dL_law_1351 : decode cL_law 1351 = .ok (.iaload, 1) := by decide +kernel
theorem dL_law_1352 : decode cL_law 1352 = .ok (.aload_n 0, 1) := by decide +kernel
theorem dL_law_1353 : decode cL_law 1353 = .ok (.iload_n 3, 1) := by decide +kernel
theorem dL_law_1354 : decode cL_law 1354 = .ok (.iconst 2, 1) := by decide +kernel
theorem dL_law_1355 : decode cL_law 1355 = .ok (.iadd, 1) := by decide +kernel
theorem dL_law_1356 : decode cL_law 1356 = .ok (.iaload, 1) := by decide +kernel
theorem dL_law_1357 : decode cL_law 1357 = .ok (.invokevirtual 147, 3) := by decide +kernel
theorem dL_law_1360 : decode cL_law 1360 = .ok (.if_icmp .eq 54, 3) := by decide +kernel
theorem dL_law_1363 : decode cL_law 1363 = .ok (.iconst 0, 1) := by decide +kernel
theorem dL_law_1364 : decode cL_law 1364 = .ok (.ireturn, 1) := by decide +kernel
theorem dL_law_1365 : decode cL_law 1365 = .ok (.aload_n 1, 1) := by decide +kernel
theorem dL_law_1366 : decode cL_law 1366 = .ok (.invokevirtual 148, 3) := by decide +kernel
theorem dL_law_1369 : decode cL_law 1369 = .ok (.aload_n 2, 1) := by decide +kernel
theorem dL_law_1370 : decode cL_law 1370 = .ok (.invokevirtual 151, 3) := by decide +kernel
theorem dL_law_1373 : decode cL_law 1373 = .ok (.if_icmp .eq 41, 3) := by decide +kernel
theorem dL_law_1376 : decode cL_law 1376 = .ok (.iconst 0, 1) := by decide +kernel
theorem dL_law_1377 : decode cL_law 1377 = .ok (.ireturn, 1) := by decide +kernel
theorem dL_law_1378 : decode cL_law 1378 = .ok (.aload_n 1, 1) := by decide +kernel
theorem dL_law_1379 : decode cL_law 1379 = .ok (.invokevirtual 152, 3) := by decide +kernel
theorem dL_law_1382 : decode cL_law 1382 = .ok (.aload_n 2, 1) := by decide +kernel
theorem dL_law_1383 : decode cL_law 1383 = .ok (.invokevirtual 155, 3) := by decide +kernel
theorem dL_law_1386 : decode cL_law 1386 = .ok (.if_icmp .eq 28, 3) := by decide +kernel
theorem dL_law_1389 : decode cL_law 1389 = .ok (.iconst 0, 1) := by decide +kernel
theorem dL_law_1390 : decode cL_law 1390 = .ok (.ireturn, 1) := by decide +kernel
theorem dL_law_1391 : decode cL_law 1391 = .ok (.aload_n 1, 1) := by decide +kernel
theorem dL_law_1392 : decode cL_law 1392 = .ok (.aload_n 0, 1) := by decide +kernel
theorem dL_law_1393 : decode cL_law 1393 = .ok (.iload_n 3, 1) := by decide +kernel
theorem dL_law_1394 : decode cL_law 1394 = .ok (.iconst 1, 1) := by decide +kernel
theorem dL_law_1395 : decode cL_law 1395 = .ok (.iadd, 1) := by decide +kernel
theorem dL_law_1396 : decode cL_law 1396 = .ok (.iaload, 1) := by decide +kernel
theorem dL_law_1397 : decode cL_law 1397 = .ok (.invokevirtual 156, 3) := by decide +kernel
theorem dL_law_1400 : decode cL_law 1400 = .ok (.aload_n 2, 1) := by decide +kernel
theorem dL_law_1401 : decode cL_law 1401 = .ok (.aload_n 0, 1) := by decide +kernel
theorem dL_law_1402 : decode cL_law 1402 = .ok (.iload_n 3, 1) := by decide +kernel
theorem dL_law_1403 : decode cL_law 1403 = .ok (.iconst 1, 1) := by decide +kernel
theorem dL_law_1404 : decode cL_law 1404 = .ok (.iadd, 1) := by decide +kernel
theorem dL_law_1405 : decode cL_law 1405 = .ok (.iaload, 1) := by decide +kernel
theorem dL_law_1406 : decode cL_law 1406 = .ok (.invokevirtual 159, 3) := by decide +kernel
theorem dL_law_1409 : decode cL_law 1409 = .ok (.if_icmp .eq 5, 3) := by decide +kernel
theorem dL_law_1412 : decode cL_law 1412 = .ok (.iconst 0, 1) := by decide +kernel
theorem dL_law_1413 : decode cL_law 1413 = .ok (.ireturn, 1) := by decide +kernel
theorem dL_law_1414 : decode cL_law 1414 = .ok (.iinc 3 6, 3) := by decide +kernel
theorem dL_law_1417 : decode cL_law 1417 = .ok (.goto (-1399), 3) := by decide +kernel
theorem dL_law_1420 : decode cL_law 1420 = .ok (.iconst 1, 1) := by decide +kernel
theorem dL_law_1421 : decode cL_law 1421 = .ok (.ireturn, 1) := by decide +kernel
end
section
/-! The pure picture: a state is sg : cell number -> place -> int; what a cell is (an int row, a row of references, an object) stands in a table -/
abbrev Hp : Type := Nat → Nat → Int32
abbrev Shp : Type := Nat ⊕ ((Nat × Nat) ⊕ (Nat × List (Option Nat)))
abbrev Sd : Type := List (Nat × Shp)
abbrev Mth : Type := MethodName × ByteArray × Nat × Option FieldType
def fnd : Sd → Nat → Option Shp
  | [], _ => none
  | q :: r, c => bif q.1 == c then some q.2 else fnd r c
def alen (tb : Sd) (c : Nat) : Nat := match fnd tb c with
  | some (.inl n) => n
  | _ => 0
def isA (tb : Sd) (c : Nat) : Bool := match fnd tb c with
  | some (.inl _) => true
  | _ => false
def trv (ad : Nat → Nat) : Value → Value
  | .ref c => .ref (ad c)
  | v => v
def fvl (ad : Nat → Nat) (x : Option Nat) (v : Int32) : Value := match x with
  | some c => .ref (ad c)
  | none => .int v
def flds (ad : Nat → Nat) : List (Option Nat) → Nat → (Nat → Int32) → List Value
  | [], _, _ => []
  | x :: r, k, g => fvl ad x (g k) :: flds ad r (k + 1) g
def cel (cI cQ : ClassId) (ad : Nat → Nat) (sh : Shp) (g : Nat → Int32) : va_E := match sh with
  | .inl n => .inl (cI, n, .inl g)
  | .inr (.inl q) => .inl (cQ, q.1, .inr (.inr (.inr (.inr (fun i => some (ad (q.2 + i)))))))
  | .inr (.inr q) => .inr (q.1, flds ad q.2 0 g)
def wld (cI cQ : ClassId) (ad : Nat → Nat) (tb : Sd) (sg : Hp) : va_W := tb.map (fun q => (ad q.1, cel cI cQ ad q.2 (sg q.1)))
def upC (sg : Hp) (c : Nat) (g : Nat → Int32) : Hp := fun b => if b = c then g else sg b
def up2 (sg : Hp) (c k : Nat) (x : Int32) : Hp := upC sg c (upd (sg c) k x)
theorem fnd_at {c : Nat} {sh : Shp} : ∀ {tb : Sd}, fnd tb c = some sh → ∃ k : Nat, tb[k]? = some (c, sh)
  | [], h => by simp [fnd] at h
  | q :: r, h => by
    unfold fnd at h
    cases hq : (q.1 == c) with
    | true =>
      rw [hq] at h
      refine ⟨0, ?_⟩
      have h1 : q.1 = c := by simpa using hq
      have h2 : q.2 = sh := by simpa using h
      rw [List.getElem?_cons_zero, ← h1, ← h2]
    | false =>
      rw [hq] at h
      obtain ⟨k, hk⟩ := fnd_at (tb := r) (by simpa using h)
      exact ⟨k + 1, by rw [List.getElem?_cons_succ]; exact hk⟩
theorem isA_at {tb : Sd} {c : Nat} (h : isA tb c = true) : fnd tb c = some (.inl (alen tb c)) := by
  unfold isA at h
  unfold alen
  split at h
  · rename_i n hn
    rw [hn]
  · cases h
theorem wld_at {cI cQ : ClassId} {ad : Nat → Nat} {tb : Sd} {sg : Hp} {c k : Nat} {sh : Shp} (h : tb[k]? = some (c, sh)) : (wld cI cQ ad tb sg)[k]? = some (ad c, cel cI cQ ad sh (sg c)) := by
  unfold wld
  rw [List.getElem?_map, h]
  rfl
theorem wld_set {cI cQ : ClassId} {ad : Nat → Nat} {tb : Sd} {sg : Hp} {c k : Nat} {sh : Shp} {A : Nat → Prop} (hD : va_D A (wld cI cQ ad tb sg)) (h : tb[k]? = some (c, sh)) (g : Nat → Int32) : (wld cI cQ ad tb sg).set k (ad c, cel cI cQ ad sh g) = wld cI cQ ad tb (upC sg c g) := by
  have hl : k < tb.length := (List.getElem?_eq_some_iff.mp h).1
  apply List.ext_getElem?
  intro j
  by_cases hj : j = k
  · subst hj
    rw [List.getElem?_set_self (by simp [wld]; exact hl), wld_at h]
    simp [upC]
  · rw [List.getElem?_set_ne (Ne.symm hj)]
    unfold wld
    rw [List.getElem?_map, List.getElem?_map]
    cases hq : tb[j]? with
    | none => rfl
    | some q =>
      have hne : q.1 ≠ c := fun e => hj (hD.1 j k (ad q.1, cel cI cQ ad q.2 (sg q.1)) (ad c, cel cI cQ ad sh (sg c)) (wld_at (by rw [hq])) (wld_at h) (by rw [e]))
      simp [upC, hne]
theorem flds_get {ad : Nat → Nat} {g : Nat → Int32} {x : Option Nat} : ∀ {fl : List (Option Nat)} {k j : Nat}, fl[k]? = some x → (flds ad fl j g)[k]? = some (fvl ad x (g (j + k)))
  | [], k, j, h => by simp at h
  | y :: r, 0, j, h => by
    rw [List.getElem?_cons_zero] at h
    cases h
    rfl
  | y :: r, k + 1, j, h => by
    rw [List.getElem?_cons_succ] at h
    have := flds_get (ad := ad) (g := g) (j := j + 1) h
    show (flds ad r (j + 1) g)[k]? = _
    rw [this, show j + 1 + k = j + (k + 1) by omega]
theorem flds_len {ad : Nat → Nat} {g : Nat → Int32} : ∀ {fl : List (Option Nat)} {j : Nat}, (flds ad fl j g).length = fl.length
  | [], _ => rfl
  | y :: r, j => by show (flds ad r (j + 1) g).length + 1 = _; rw [flds_len]; rfl
theorem flds_same {ad : Nat → Nat} {g h : Nat → Int32} : ∀ {fl : List (Option Nat)} {j : Nat}, (∀ i, j ≤ i → g i = h i) → flds ad fl j g = flds ad fl j h
  | [], _, _ => rfl
  | y :: r, j, e => by
    show fvl ad y (g j) :: flds ad r (j + 1) g = fvl ad y (h j) :: flds ad r (j + 1) h
    rw [e j (Nat.le_refl j), flds_same (fun i hi => e i (by omega))]
theorem flds_set {ad : Nat → Nat} {g : Nat → Int32} {v : Int32} : ∀ {fl : List (Option Nat)} {k j : Nat}, fl[k]? = some none → (flds ad fl j g).set k (.int v) = flds ad fl j (upd g (j + k) v)
  | [], k, j, h => by simp at h
  | y :: r, 0, j, h => by
    rw [List.getElem?_cons_zero] at h
    cases h
    show Value.int v :: flds ad r (j + 1) g = .int (upd g j v j) :: flds ad r (j + 1) (upd g j v)
    rw [flds_same (g := g) (h := upd g j v) (fun i hi => by simp [upd]; omega)]
    simp [upd]
  | y :: r, k + 1, j, h => by
    rw [List.getElem?_cons_succ] at h
    show fvl ad y (g j) :: (flds ad r (j + 1) g).set k (.int v) = fvl ad y (upd g (j + (k + 1)) v j) :: flds ad r (j + 1) (upd g (j + (k + 1)) v)
    rw [flds_set h, show j + 1 + k = j + (k + 1) by omega]
    simp [upd]
/-! locals as a list of (slot, value) -/
def lget : List (Nat × Value) → Nat → Option Value
  | [], _ => none
  | q :: r, i => bif q.1 == i then some q.2 else lget r i
def lset : List (Nat × Value) → Nat → Value → List (Nat × Value)
  | [], i, v => [(i, v)]
  | q :: r, i, v => bif q.1 == i then (i, v) :: r else q :: lset r i v
def lone : List (Nat × Value) → Nat → Bool
  | [], _ => true
  | q :: r, i => !(q.1 + 1 == i && q.2.category == 2) && lone r i
def ldis : List (Nat × Value) → Bool
  | [] => true
  | q :: r => r.all (fun z => !(z.1 == q.1)) && ldis r

def tlv (ad : Nat → Nat) (lv : List (Nat × Value)) : List (Nat × Value) := lv.map (fun q => (q.1, trv ad q.2))
theorem lget_at {ad : Nat → Nat} {ls : Array Slot} {nL : Nat} {i : Nat} {v : Value} : ∀ {lv : List (Nat × Value)}, (∀ q ∈ tlv ad lv, ls[q.1]? = some (.val q.2)) → lget lv i = some v → ls[i]? = some (.val (trv ad v))
  | [], _, h => by simp [lget] at h
  | q :: r, hl, h => by
    unfold lget at h
    cases hq : (q.1 == i) with
    | true =>
      rw [hq] at h
      have h1 : q.1 = i := by simpa using hq
      have h2 : q.2 = v := by simpa using h
      have := hl (q.1, trv ad q.2) (by simp [tlv])
      rw [h1, h2] at this
      exact this
    | false =>
      rw [hq] at h
      exact lget_at (nL := nL) (lv := r) (fun z hz => hl z (by simp [tlv] at hz ⊢; exact Or.inr hz)) (by simpa using h)
theorem trv_cat (ad : Nat → Nat) (v : Value) : (trv ad v).category = v.category := by cases v <;> rfl
theorem lset_in {i : Nat} {v : Value} {q : Nat × Value} : ∀ {lv : List (Nat × Value)}, ldis lv = true → q ∈ lset lv i v → q = (i, v) ∨ (q ∈ lv ∧ q.1 ≠ i)
  | [], _, h => by simp [lset] at h; exact Or.inl h
  | z :: r, hd, h => by
    unfold lset at h
    unfold ldis at hd
    simp only [Bool.and_eq_true] at hd
    cases hz : (z.1 == i) with
    | true =>
      rw [hz] at h
      have h1 : z.1 = i := by simpa using hz
      rcases List.mem_cons.mp (by simpa using h) with h | h
      · exact Or.inl h
      · refine Or.inr ⟨List.mem_cons_of_mem _ h, fun e => ?_⟩
        have := List.all_eq_true.mp hd.1 q h
        simp [e, h1] at this
    | false =>
      rw [hz] at h
      have h1 : z.1 ≠ i := by simpa using hz
      rcases List.mem_cons.mp (by simpa using h) with h | h
      · subst h
        exact Or.inr ⟨List.mem_cons_self, h1⟩
      · rcases lset_in hd.2 h with h | ⟨h, h2⟩
        · exact Or.inl h
        · exact Or.inr ⟨List.mem_cons_of_mem _ h, h2⟩
theorem lone_in {i : Nat} {q : Nat × Value} : ∀ {lv : List (Nat × Value)}, lone lv i = true → q ∈ lv → ¬ (q.1 + 1 = i ∧ q.2.category = 2)
  | [], _, h => by simp at h
  | z :: r, hd, h => by
    unfold lone at hd
    simp only [Bool.and_eq_true, Bool.not_eq_true'] at hd
    rcases List.mem_cons.mp h with h | h
    · subst h
      intro e
      simp [e.1, e.2] at hd
    · exact lone_in hd.2 h
theorem lset_has {ad : Nat → Nat} {ls : Array Slot} {nL i : Nat} {v : Value} {lv : List (Nat × Value)} (hd : ldis lv = true) (ho : lone lv i = true) (h : lv_has ls nL ((i, trv ad v) :: (tlv ad lv).filter (fun q => !(q.1 == i) && !(q.1 + 1 == i && q.2.category == 2)))) : lv_has ls nL (tlv ad (lset lv i v)) := by
  refine ⟨h.1, h.2.1, fun q hq => ?_⟩
  obtain ⟨z, hz, rfl⟩ := List.mem_map.mp hq
  rcases lset_in hd hz with rfl | ⟨h1, h2⟩
  · exact h.2.2 _ List.mem_cons_self
  · refine h.2.2 _ (List.mem_cons_of_mem _ (List.mem_filter.mpr ⟨List.mem_map.mpr ⟨z, h1, rfl⟩, ?_⟩))
    have := lone_in ho h1
    simp only [Bool.and_eq_true, Bool.not_eq_true', beq_eq_false_iff_ne, ne_eq, Bool.and_eq_false_iff]
    refine ⟨h2, ?_⟩
    by_cases e : z.1 + 1 = i
    · refine Or.inr (fun e2 => this ⟨e, ?_⟩)
      rw [← trv_cat ad]
      exact e2
    · exact Or.inl e
/-! the judgement -/
def isNst : Cond → Bool
  | .fieldLinkNest .. => true
  | .methodLinkNest .. => true
  | _ => false
def gtb : List Cond := lw_tbl.filter goodWord
theorem gm {w : Cond} (h : w ∈ lw_tbl) (h2 : goodWord w = true) : w ∈ gtb := List.mem_filter.mpr ⟨h, h2⟩
abbrev tys2 (cI cQ : ClassId) : List (ClassId × FieldType) := [(cI, .int), (cQ, .array .int)]
/-- what the tables say of the classes; the links to private members of nest mates -/
def KK (D : va_G) (cI cQ : ClassId) (U : State) : Prop := va_K D vwCl (tys2 cI cQ) U ∧ ∀ w ∈ lw_tbl, isNst w = true → va_Nw w U
theorem KK.warm {D : va_G} {cI cQ : ClassId} {s U : State} (hW : s.WarmedH U.vm) (h : KK D cI cQ s) : KK D cI cQ U := by
  refine ⟨va_K.moved hW.alike h.1, fun w hw hn => ?_⟩
  have h1 := h.2 w hw hn
  cases w <;> first | (exact va_Nw.warmF hW h1) | (exact va_Nw.warmM hW h1) | (exact absurd hn (by simp [isNst]))
theorem KK.call {D : va_G} {cI cQ : ClassId} {U : State} {g : JFrame} {mk : MethodId} {a : Array Value} (h : KK D cI cQ U) : KK D cI cQ (U.calling g mk a) := by
  refine ⟨va_K.moved (u := U) (U := U.calling g mk a) (Vm.Alike.refl U.vm) h.1, fun w hw hn => ?_⟩
  have h1 := h.2 w hw hn
  have ht : w.onTables = true := by cases w <;> first | rfl | (exact absurd hn (by simp [isNst]))
  exact va_Nw.same (u := U) (U := U.calling g mk a) ht rfl h1
def rmd (d : Nat) : Room := { frames := d, cells := 0, slots := 0, locals := 40 * d }
def wsM (M : Mth) : List Cond := .code M.1 M.2.1 M.2.2.1 M.2.2.2 :: gtb
def pst (D : va_G) (cI cQ : ClassId) (ad : Nat → Nat) (tb : Sd) (A : Nat → Prop) (Q : Option Value → Hp → Prop) : Array Value → State → Outcome → State → Prop := fun _ st oc t => (∃ (r : Option Value) (sg : Hp), oc = .returned (r.map (trv ad)) ∧ Q r sg ∧ va_P D vwCl (wld cI cQ ad tb sg) t.heap ∧ va_D A (wld cI cQ ad tb sg)) ∧ va_F A st t
def cxt (M : Mth) (p : Program) (s : State) (m : MethodId) (args : Array Value) (meth : Method) (c : Code) (D : va_G) (cI cQ : ClassId) : Prop := p.tables.exec = Jvm.exec ∧ c.code = M.2.1 ∧ c.maxLocals = M.2.2.1 ∧ meth.sig.returnType = M.2.2.2 ∧ meth.locks = false ∧ s.vm.findClass M.1.cls = some m.cls ∧ (∀ w ∈ gtb, w.before args s = true) ∧ KK D cI cQ s
def wht (D : va_G) (cI cQ : ClassId) (ad : Nat → Nat) (tb : Sd) (A : Nat → Prop) (s : State) (H : Heap) (locs : List Loc) (sg : Hp) : Prop := va_P D vwCl (wld cI cQ ad tb sg) H ∧ va_D A (wld cI cQ ad tb sg) ∧ va_S A s.heap H locs ∧ ∀ q : Nat, s.heap.size ≤ q → A q
def pw (tb : Sd) (d : Nat) (M : Mth) (pc : Nat) (lv : List (Nat × Value)) (st : List Value) (sg : Hp) (Q : Option Value → Hp → Prop) : Prop :=
  ∀ (p : Program) (l : Launch) (e : Env) (s : State) (m : MethodId) (args : Array Value) (below : List Frame) (meth : Method) (c : Code) (D : va_G) (cI cQ : ClassId) (ad : Nat → Nat) (A : Nat → Prop) (H : Heap) (locs : List Loc) (ls : Array Slot), cxt M p s m args meth c D cI cQ → wht D cI cQ ad tb A s H locs sg → lv_has ls M.2.2.1 (tlv ad lv) →
    W p l e (rmd d) s m args below meth c H locs 0 0 (MQ below (pst D cI cQ ad tb A Q) args s 0 0 A) (F0 m pc ls (st.map (trv ad)))
section PW
variable {tb : Sd} {d : Nat} {M : Mth} {pc : Nat} {lv : List (Nat × Value)} {st : List Value} {sg : Hp} {Q : Option Value → Hp → Prop}
theorem p_mono {Q2 : Option Value → Hp → Prop} (h : pw tb d M pc lv st sg Q) (hq : ∀ r s2, Q r s2 → Q2 r s2) : pw tb d M pc lv st sg Q2 := by
  intro p l e s m args below meth c D cI cQ ad A H locs ls hc hw hl T hT X
  obtain ⟨t, a1, o, b1, b2, ⟨⟨r, s2, c1, c2, c3⟩, c4⟩, b4⟩ := h p l e s m args below meth c D cI cQ ad A H locs ls hc hw hl T hT X
  exact ⟨t, a1, o, b1, b2, ⟨⟨r, s2, c1, hq r s2 c2, c3⟩, c4⟩, b4⟩
theorem p_iconst {n : Int} {v : Int32} (hv : Int32.ofInt n = v) (hd : decode M.2.1 pc = .ok (.iconst n, 1)) (k : pw tb d M (pc + 1) lv (.int v :: st) sg Q) : pw tb d M pc lv (st) sg Q := by
  intro p l e s m args below meth c D cI cQ ad A H locs ls hc hw hl
  exact lv_iconst hc.1 hc.2.1 hd hv (k p l e s m args below meth c D cI cQ ad A H locs ls hc hw hl)
theorem p_bipush {n : Int} {v : Int32} (hv : (Int8.ofInt n).toInt32 = v) (hd : decode M.2.1 pc = .ok (.bipush n, 2)) (k : pw tb d M (pc + 2) lv (.int v :: st) sg Q) : pw tb d M pc lv (st) sg Q := by
  intro p l e s m args below meth c D cI cQ ad A H locs ls hc hw hl
  exact lv_bipush hc.1 hc.2.1 hd hv (k p l e s m args below meth c D cI cQ ad A H locs ls hc hw hl)
theorem p_sipush {n : Int} {v : Int32} (hv : (Int16.ofInt n).toInt32 = v) (hd : decode M.2.1 pc = .ok (.sipush n, 3)) (k : pw tb d M (pc + 3) lv (.int v :: st) sg Q) : pw tb d M pc lv (st) sg Q := by
  intro p l e s m args below meth c D cI cQ ad A H locs ls hc hw hl
  exact lv_sipush hc.1 hc.2.1 hd hv (k p l e s m args below meth c D cI cQ ad A H locs ls hc hw hl)
theorem p_lconst {n : Fin 2} {v : Int64} (hv : Int64.ofNat (n : Nat) = v) (hd : decode M.2.1 pc = .ok (.lconst n, 1)) (k : pw tb d M (pc + 1) lv (.long v :: st) sg Q) : pw tb d M pc lv (st) sg Q := by
  intro p l e s m args below meth c D cI cQ ad A H locs ls hc hw hl
  exact lv_lconst hc.1 hc.2.1 hd hv (k p l e s m args below meth c D cI cQ ad A H locs ls hc hw hl)
theorem p_ldc {index : Nat} {v : Int32} (hw0 : Jvm.Cond.constant M.1.cls index v ∈ gtb) (hd : decode M.2.1 pc = .ok (.ldc index, 2)) (k : pw tb d M (pc + 2) lv (.int v :: st) sg Q) : pw tb d M pc lv (st) sg Q := by
  intro p l e s m args below meth c D cI cQ ad A H locs ls hc hw hl
  exact lv_ldc hc.1 hc.2.1 hc.2.2.2.2.2.1 (hc.2.2.2.2.2.2.1 _ hw0) hd (k p l e s m args below meth c D cI cQ ad A H locs ls hc hw hl)
theorem p_ldcw {index : Nat} {v : Int32} (hw0 : Jvm.Cond.constant M.1.cls index v ∈ gtb) (hd : decode M.2.1 pc = .ok (.ldc_w index, 3)) (k : pw tb d M (pc + 3) lv (.int v :: st) sg Q) : pw tb d M pc lv (st) sg Q := by
  intro p l e s m args below meth c D cI cQ ad A H locs ls hc hw hl
  exact lv_ldcw hc.1 hc.2.1 hc.2.2.2.2.2.1 (hc.2.2.2.2.2.2.1 _ hw0) hd (k p l e s m args below meth c D cI cQ ad A H locs ls hc hw hl)
theorem p_ldc2 {index : Nat} {v : Int64} (hw0 : Jvm.Cond.constantLong M.1.cls index v ∈ gtb) (hd : decode M.2.1 pc = .ok (.ldc2_w index, 3)) (k : pw tb d M (pc + 3) lv (.long v :: st) sg Q) : pw tb d M pc lv (st) sg Q := by
  intro p l e s m args below meth c D cI cQ ad A H locs ls hc hw hl
  exact lv_ldc2 hc.1 hc.2.1 hc.2.2.2.2.2.1 (hc.2.2.2.2.2.2.1 _ hw0) hd (k p l e s m args below meth c D cI cQ ad A H locs ls hc hw hl)
theorem p_iload_n {k0 : Fin 4} {x : Int32} (h : lget lv (k0 : Nat) = some (.int x)) (hd : decode M.2.1 pc = .ok (.iload_n k0, 1)) (k : pw tb d M (pc + 1) lv (.int x :: st) sg Q) : pw tb d M pc lv (st) sg Q := by
  intro p l e s m args below meth c D cI cQ ad A H locs ls hc hw hl
  exact lv_iload_n hc.1 hc.2.1 hd rfl (lget_at (nL := 0) hl.2.2 h) (k p l e s m args below meth c D cI cQ ad A H locs ls hc hw hl)
theorem p_iload {i : Nat} {x : Int32} (h : lget lv i = some (.int x)) (hd : decode M.2.1 pc = .ok (.iload i, 2)) (k : pw tb d M (pc + 2) lv (.int x :: st) sg Q) : pw tb d M pc lv (st) sg Q := by
  intro p l e s m args below meth c D cI cQ ad A H locs ls hc hw hl
  exact lv_iload hc.1 hc.2.1 hd (lget_at (nL := 0) hl.2.2 h) (k p l e s m args below meth c D cI cQ ad A H locs ls hc hw hl)
theorem p_lload_n {k0 : Fin 4} {x : Int64} (h : lget lv (k0 : Nat) = some (.long x)) (hd : decode M.2.1 pc = .ok (.lload_n k0, 1)) (k : pw tb d M (pc + 1) lv (.long x :: st) sg Q) : pw tb d M pc lv (st) sg Q := by
  intro p l e s m args below meth c D cI cQ ad A H locs ls hc hw hl
  exact lv_lload_n hc.1 hc.2.1 hd rfl (lget_at (nL := 0) hl.2.2 h) (k p l e s m args below meth c D cI cQ ad A H locs ls hc hw hl)
theorem p_lload {i : Nat} {x : Int64} (h : lget lv i = some (.long x)) (hd : decode M.2.1 pc = .ok (.lload i, 2)) (k : pw tb d M (pc + 2) lv (.long x :: st) sg Q) : pw tb d M pc lv (st) sg Q := by
  intro p l e s m args below meth c D cI cQ ad A H locs ls hc hw hl
  exact lv_lload hc.1 hc.2.1 hd (lget_at (nL := 0) hl.2.2 h) (k p l e s m args below meth c D cI cQ ad A H locs ls hc hw hl)
theorem p_aload_n {k0 : Fin 4} {x : Nat} (h : lget lv (k0 : Nat) = some (.ref x)) (hd : decode M.2.1 pc = .ok (.aload_n k0, 1)) (k : pw tb d M (pc + 1) lv (.ref x :: st) sg Q) : pw tb d M pc lv (st) sg Q := by
  intro p l e s m args below meth c D cI cQ ad A H locs ls hc hw hl
  exact lv_aload_n hc.1 hc.2.1 hd rfl (lget_at (nL := 0) hl.2.2 h) (k p l e s m args below meth c D cI cQ ad A H locs ls hc hw hl)
theorem p_aload {i : Nat} {x : Nat} (h : lget lv i = some (.ref x)) (hd : decode M.2.1 pc = .ok (.aload i, 2)) (k : pw tb d M (pc + 2) lv (.ref x :: st) sg Q) : pw tb d M pc lv (st) sg Q := by
  intro p l e s m args below meth c D cI cQ ad A H locs ls hc hw hl
  exact lv_aload hc.1 hc.2.1 hd (lget_at (nL := 0) hl.2.2 h) (k p l e s m args below meth c D cI cQ ad A H locs ls hc hw hl)
theorem p_istore_n {k0 : Fin 4} {x : Int32} (hn : (k0 : Nat) < M.2.2.1) (hs : (ldis lv && lone lv (k0 : Nat)) = true) (hd : decode M.2.1 pc = .ok (.istore_n k0, 1)) (k : pw tb d M (pc + 1) (lset lv (k0 : Nat) (.int x)) st sg Q) : pw tb d M pc lv (.int x :: st) sg Q := by
  intro p l e s m args below meth c D cI cQ ad A H locs ls hc hw hl
  have hs2 := Bool.and_eq_true_iff.mp hs
  exact lv_istore_n hc.1 hc.2.1 hd rfl hl hn rfl (fun ls2 hl2 => k p l e s m args below meth c D cI cQ ad A H locs ls2 hc hw (lset_has (v := .int x) hs2.1 hs2.2 hl2))
theorem p_istore {i : Nat} {x : Int32} (hn : i < M.2.2.1) (hs : (ldis lv && lone lv i) = true) (hd : decode M.2.1 pc = .ok (.istore i, 2)) (k : pw tb d M (pc + 2) (lset lv i (.int x)) st sg Q) : pw tb d M pc lv (.int x :: st) sg Q := by
  intro p l e s m args below meth c D cI cQ ad A H locs ls hc hw hl
  have hs2 := Bool.and_eq_true_iff.mp hs
  exact lv_istore hc.1 hc.2.1 hd hl hn rfl (fun ls2 hl2 => k p l e s m args below meth c D cI cQ ad A H locs ls2 hc hw (lset_has (v := .int x) hs2.1 hs2.2 hl2))
theorem p_astore_n {k0 : Fin 4} {x : Nat} (hn : (k0 : Nat) < M.2.2.1) (hs : (ldis lv && lone lv (k0 : Nat)) = true) (hd : decode M.2.1 pc = .ok (.astore_n k0, 1)) (k : pw tb d M (pc + 1) (lset lv (k0 : Nat) (.ref x)) st sg Q) : pw tb d M pc lv (.ref x :: st) sg Q := by
  intro p l e s m args below meth c D cI cQ ad A H locs ls hc hw hl
  have hs2 := Bool.and_eq_true_iff.mp hs
  exact lv_astore_n hc.1 hc.2.1 hd rfl hl hn rfl (fun ls2 hl2 => k p l e s m args below meth c D cI cQ ad A H locs ls2 hc hw (lset_has (v := .ref x) hs2.1 hs2.2 hl2))
theorem p_astore {i : Nat} {x : Nat} (hn : i < M.2.2.1) (hs : (ldis lv && lone lv i) = true) (hd : decode M.2.1 pc = .ok (.astore i, 2)) (k : pw tb d M (pc + 2) (lset lv i (.ref x)) st sg Q) : pw tb d M pc lv (.ref x :: st) sg Q := by
  intro p l e s m args below meth c D cI cQ ad A H locs ls hc hw hl
  have hs2 := Bool.and_eq_true_iff.mp hs
  exact lv_astore hc.1 hc.2.1 hd hl hn rfl (fun ls2 hl2 => k p l e s m args below meth c D cI cQ ad A H locs ls2 hc hw (lset_has (v := .ref x) hs2.1 hs2.2 hl2))
theorem lget_mem {i : Nat} {v : Value} : ∀ {lv : List (Nat × Value)}, lget lv i = some v → (i, v) ∈ lv
  | [], h => by simp [lget] at h
  | q :: r, h => by
    unfold lget at h
    cases hq : (q.1 == i) with
    | true =>
      rw [hq] at h
      have h1 : q.1 = i := by simpa using hq
      have h2 : q.2 = v := by simpa using h
      rw [← h1, ← h2]
      exact List.mem_cons_self
    | false =>
      rw [hq] at h
      exact List.mem_cons_of_mem _ (lget_mem (by simpa using h))
theorem p_iinc {i : Nat} {n : Int} {x v : Int32} (hg : lget lv i = some (.int x)) (hv : x + Int32.ofInt n = v) (hn : i < M.2.2.1) (hs : (ldis lv && lone lv i) = true) (hd : decode M.2.1 pc = .ok (.iinc i n, 3)) (k : pw tb d M (pc + 3) (lset lv i (.int v)) st sg Q) : pw tb d M pc lv st sg Q := by
  intro p l e s m args below meth c D cI cQ ad A H locs ls hc hw hl
  have hs2 := Bool.and_eq_true_iff.mp hs
  obtain ⟨j, hj⟩ := List.getElem?_of_mem (List.mem_map.mpr ⟨_, lget_mem hg, rfl⟩ : (i, trv ad (.int x)) ∈ tlv ad lv)
  exact lv_iinc hc.1 hc.2.1 hd hl hj hv hn rfl (fun ls2 hl2 => k p l e s m args below meth c D cI cQ ad A H locs ls2 hc hw (lset_has (v := .int v) hs2.1 hs2.2 hl2))
theorem p_iadd {x y : Int32} (hd : decode M.2.1 pc = .ok (.iadd, 1)) (k : pw tb d M (pc + 1) lv (.int (x + y) :: st) sg Q) : pw tb d M pc lv (.int y :: .int x :: st) sg Q := by
  intro p l e s m args below meth c D cI cQ ad A H locs ls hc hw hl
  exact lv_iadd hc.1 hc.2.1 hd (k p l e s m args below meth c D cI cQ ad A H locs ls hc hw hl)
theorem p_isub {x y : Int32} (hd : decode M.2.1 pc = .ok (.isub, 1)) (k : pw tb d M (pc + 1) lv (.int (x - y) :: st) sg Q) : pw tb d M pc lv (.int y :: .int x :: st) sg Q := by
  intro p l e s m args below meth c D cI cQ ad A H locs ls hc hw hl
  exact lv_isub hc.1 hc.2.1 hd (k p l e s m args below meth c D cI cQ ad A H locs ls hc hw hl)
theorem p_imul {x y : Int32} (hd : decode M.2.1 pc = .ok (.imul, 1)) (k : pw tb d M (pc + 1) lv (.int (x * y) :: st) sg Q) : pw tb d M pc lv (.int y :: .int x :: st) sg Q := by
  intro p l e s m args below meth c D cI cQ ad A H locs ls hc hw hl
  exact lv_imul hc.1 hc.2.1 hd (k p l e s m args below meth c D cI cQ ad A H locs ls hc hw hl)
theorem p_iand {x y : Int32} (hd : decode M.2.1 pc = .ok (.iand, 1)) (k : pw tb d M (pc + 1) lv (.int (x &&& y) :: st) sg Q) : pw tb d M pc lv (.int y :: .int x :: st) sg Q := by
  intro p l e s m args below meth c D cI cQ ad A H locs ls hc hw hl
  exact lv_iand hc.1 hc.2.1 hd (k p l e s m args below meth c D cI cQ ad A H locs ls hc hw hl)
theorem p_ior {x y : Int32} (hd : decode M.2.1 pc = .ok (.ior, 1)) (k : pw tb d M (pc + 1) lv (.int (x ||| y) :: st) sg Q) : pw tb d M pc lv (.int y :: .int x :: st) sg Q := by
  intro p l e s m args below meth c D cI cQ ad A H locs ls hc hw hl
  exact lv_ior hc.1 hc.2.1 hd (k p l e s m args below meth c D cI cQ ad A H locs ls hc hw hl)
theorem p_ixor {x y : Int32} (hd : decode M.2.1 pc = .ok (.ixor, 1)) (k : pw tb d M (pc + 1) lv (.int (x ^^^ y) :: st) sg Q) : pw tb d M pc lv (.int y :: .int x :: st) sg Q := by
  intro p l e s m args below meth c D cI cQ ad A H locs ls hc hw hl
  exact lv_ixor hc.1 hc.2.1 hd (k p l e s m args below meth c D cI cQ ad A H locs ls hc hw hl)
theorem p_ishl {x y : Int32} (hd : decode M.2.1 pc = .ok (.ishl, 1)) (k : pw tb d M (pc + 1) lv (.int (x <<< (y &&& 31)) :: st) sg Q) : pw tb d M pc lv (.int y :: .int x :: st) sg Q := by
  intro p l e s m args below meth c D cI cQ ad A H locs ls hc hw hl
  exact lv_ishl hc.1 hc.2.1 hd (k p l e s m args below meth c D cI cQ ad A H locs ls hc hw hl)
theorem p_ishr {x y : Int32} (hd : decode M.2.1 pc = .ok (.ishr, 1)) (k : pw tb d M (pc + 1) lv (.int (x >>> (y &&& 31)) :: st) sg Q) : pw tb d M pc lv (.int y :: .int x :: st) sg Q := by
  intro p l e s m args below meth c D cI cQ ad A H locs ls hc hw hl
  exact lv_ishr hc.1 hc.2.1 hd (k p l e s m args below meth c D cI cQ ad A H locs ls hc hw hl)
theorem p_ladd {x y : Int64} (hd : decode M.2.1 pc = .ok (.ladd, 1)) (k : pw tb d M (pc + 1) lv (.long (x + y) :: st) sg Q) : pw tb d M pc lv (.long y :: .long x :: st) sg Q := by
  intro p l e s m args below meth c D cI cQ ad A H locs ls hc hw hl
  exact lv_ladd hc.1 hc.2.1 hd (k p l e s m args below meth c D cI cQ ad A H locs ls hc hw hl)
theorem p_lsub {x y : Int64} (hd : decode M.2.1 pc = .ok (.lsub, 1)) (k : pw tb d M (pc + 1) lv (.long (x - y) :: st) sg Q) : pw tb d M pc lv (.long y :: .long x :: st) sg Q := by
  intro p l e s m args below meth c D cI cQ ad A H locs ls hc hw hl
  exact lv_lsub hc.1 hc.2.1 hd (k p l e s m args below meth c D cI cQ ad A H locs ls hc hw hl)
theorem p_lmul {x y : Int64} (hd : decode M.2.1 pc = .ok (.lmul, 1)) (k : pw tb d M (pc + 1) lv (.long (x * y) :: st) sg Q) : pw tb d M pc lv (.long y :: .long x :: st) sg Q := by
  intro p l e s m args below meth c D cI cQ ad A H locs ls hc hw hl
  exact lv_lmul hc.1 hc.2.1 hd (k p l e s m args below meth c D cI cQ ad A H locs ls hc hw hl)
theorem p_lcmp {x y : Int64} (hd : decode M.2.1 pc = .ok (.lcmp, 1)) (k : pw tb d M (pc + 1) lv (.int (lg_cmp x y) :: st) sg Q) : pw tb d M pc lv (.long y :: .long x :: st) sg Q := by
  intro p l e s m args below meth c D cI cQ ad A H locs ls hc hw hl
  exact W.lcmp hc.1 hc.2.1 hd (k p l e s m args below meth c D cI cQ ad A H locs ls hc hw hl)
theorem p_i2l {x : Int32} (hd : decode M.2.1 pc = .ok (.i2l, 1)) (k : pw tb d M (pc + 1) lv (.long x.toInt64 :: st) sg Q) : pw tb d M pc lv (.int x :: st) sg Q := by
  intro p l e s m args below meth c D cI cQ ad A H locs ls hc hw hl
  exact lv_i2l hc.1 hc.2.1 hd rfl (k p l e s m args below meth c D cI cQ ad A H locs ls hc hw hl)
theorem p_l2i {x : Int64} (hd : decode M.2.1 pc = .ok (.l2i, 1)) (k : pw tb d M (pc + 1) lv (.int x.toInt32 :: st) sg Q) : pw tb d M pc lv (.long x :: st) sg Q := by
  intro p l e s m args below meth c D cI cQ ad A H locs ls hc hw hl
  exact lv_l2i hc.1 hc.2.1 hd rfl (k p l e s m args below meth c D cI cQ ad A H locs ls hc hw hl)
theorem p_i2b {x : Int32} (hd : decode M.2.1 pc = .ok (.i2b, 1)) (k : pw tb d M (pc + 1) lv (.int x.toInt8.toInt32 :: st) sg Q) : pw tb d M pc lv (.int x :: st) sg Q := by
  intro p l e s m args below meth c D cI cQ ad A H locs ls hc hw hl
  exact lv_i2b hc.1 hc.2.1 hd rfl (k p l e s m args below meth c D cI cQ ad A H locs ls hc hw hl)
theorem p_i2s {x : Int32} (hd : decode M.2.1 pc = .ok (.i2s, 1)) (k : pw tb d M (pc + 1) lv (.int x.toInt16.toInt32 :: st) sg Q) : pw tb d M pc lv (.int x :: st) sg Q := by
  intro p l e s m args below meth c D cI cQ ad A H locs ls hc hw hl
  exact lv_i2s hc.1 hc.2.1 hd rfl (k p l e s m args below meth c D cI cQ ad A H locs ls hc hw hl)
theorem p_dup {v : Value} (hcat : v.category = 1) (hd : decode M.2.1 pc = .ok (.dup, 1)) (k : pw tb d M (pc + 1) lv (v :: v :: st) sg Q) : pw tb d M pc lv (v :: st) sg Q := by
  intro p l e s m args below meth c D cI cQ ad A H locs ls hc hw hl
  exact lv_dup hc.1 hc.2.1 hd (by rw [trv_cat]; exact hcat) (k p l e s m args below meth c D cI cQ ad A H locs ls hc hw hl)
theorem p_pop {v : Value} (hcat : v.category = 1) (hd : decode M.2.1 pc = .ok (.pop, 1)) (k : pw tb d M (pc + 1) lv (st) sg Q) : pw tb d M pc lv (v :: st) sg Q := by
  intro p l e s m args below meth c D cI cQ ad A H locs ls hc hw hl
  exact lv_pop hc.1 hc.2.1 hd (by rw [trv_cat]; exact hcat) (k p l e s m args below meth c D cI cQ ad A H locs ls hc hw hl)
theorem p_dup2 {v w : Value} (hcat : v.category = 1 ∧ w.category = 1) (hd : decode M.2.1 pc = .ok (.dup2, 1)) (k : pw tb d M (pc + 1) lv (v :: w :: v :: w :: st) sg Q) : pw tb d M pc lv (v :: w :: st) sg Q := by
  intro p l e s m args below meth c D cI cQ ad A H locs ls hc hw hl
  exact lv_dup2_11 hc.1 hc.2.1 hd (by rw [trv_cat]; exact hcat.1) (by rw [trv_cat]; exact hcat.2) (k p l e s m args below meth c D cI cQ ad A H locs ls hc hw hl)
theorem p_if_eq {x : Int32} {off : Int} {tgt : Nat} (hd : decode M.2.1 pc = .ok (.ifCond .eq off, 3)) (ht : (pc : Int) + off = (tgt : Int)) (kt : x = 0 → pw tb d M tgt lv st sg Q) (kf : ¬ x = 0 → pw tb d M (pc + 3) lv st sg Q) : pw tb d M pc lv (.int x :: st) sg Q := by
  intro p l e s m args below meth c D cI cQ ad A H locs ls hc hw hl
  exact lv_if_eq hc.1 hc.2.1 hd ht (fun z => kt z p l e s m args below meth c D cI cQ ad A H locs ls hc hw hl) (fun z => kf z p l e s m args below meth c D cI cQ ad A H locs ls hc hw hl)
theorem p_icmp_eq {x y : Int32} {off : Int} {tgt : Nat} (hd : decode M.2.1 pc = .ok (.if_icmp .eq off, 3)) (ht : (pc : Int) + off = (tgt : Int)) (kt : x = y → pw tb d M tgt lv st sg Q) (kf : ¬ x = y → pw tb d M (pc + 3) lv st sg Q) : pw tb d M pc lv (.int y :: .int x :: st) sg Q := by
  intro p l e s m args below meth c D cI cQ ad A H locs ls hc hw hl
  exact lv_icmp_eq hc.1 hc.2.1 hd ht (fun z => kt z p l e s m args below meth c D cI cQ ad A H locs ls hc hw hl) (fun z => kf z p l e s m args below meth c D cI cQ ad A H locs ls hc hw hl)
theorem p_if_ne {x : Int32} {off : Int} {tgt : Nat} (hd : decode M.2.1 pc = .ok (.ifCond .ne off, 3)) (ht : (pc : Int) + off = (tgt : Int)) (kt : ¬ x = 0 → pw tb d M tgt lv st sg Q) (kf : x = 0 → pw tb d M (pc + 3) lv st sg Q) : pw tb d M pc lv (.int x :: st) sg Q := by
  intro p l e s m args below meth c D cI cQ ad A H locs ls hc hw hl
  exact lv_if_ne hc.1 hc.2.1 hd ht (fun z => kt z p l e s m args below meth c D cI cQ ad A H locs ls hc hw hl) (fun z => kf z p l e s m args below meth c D cI cQ ad A H locs ls hc hw hl)
theorem p_icmp_ne {x y : Int32} {off : Int} {tgt : Nat} (hd : decode M.2.1 pc = .ok (.if_icmp .ne off, 3)) (ht : (pc : Int) + off = (tgt : Int)) (kt : ¬ x = y → pw tb d M tgt lv st sg Q) (kf : x = y → pw tb d M (pc + 3) lv st sg Q) : pw tb d M pc lv (.int y :: .int x :: st) sg Q := by
  intro p l e s m args below meth c D cI cQ ad A H locs ls hc hw hl
  exact lv_icmp_ne hc.1 hc.2.1 hd ht (fun z => kt z p l e s m args below meth c D cI cQ ad A H locs ls hc hw hl) (fun z => kf z p l e s m args below meth c D cI cQ ad A H locs ls hc hw hl)
theorem p_if_lt {x : Int32} {off : Int} {tgt : Nat} (hd : decode M.2.1 pc = .ok (.ifCond .lt off, 3)) (ht : (pc : Int) + off = (tgt : Int)) (kt : x < 0 → pw tb d M tgt lv st sg Q) (kf : ¬ x < 0 → pw tb d M (pc + 3) lv st sg Q) : pw tb d M pc lv (.int x :: st) sg Q := by
  intro p l e s m args below meth c D cI cQ ad A H locs ls hc hw hl
  exact lv_if_lt hc.1 hc.2.1 hd ht (fun z => kt z p l e s m args below meth c D cI cQ ad A H locs ls hc hw hl) (fun z => kf z p l e s m args below meth c D cI cQ ad A H locs ls hc hw hl)
theorem p_icmp_lt {x y : Int32} {off : Int} {tgt : Nat} (hd : decode M.2.1 pc = .ok (.if_icmp .lt off, 3)) (ht : (pc : Int) + off = (tgt : Int)) (kt : x < y → pw tb d M tgt lv st sg Q) (kf : ¬ x < y → pw tb d M (pc + 3) lv st sg Q) : pw tb d M pc lv (.int y :: .int x :: st) sg Q := by
  intro p l e s m args below meth c D cI cQ ad A H locs ls hc hw hl
  exact lv_icmp_lt hc.1 hc.2.1 hd ht (fun z => kt z p l e s m args below meth c D cI cQ ad A H locs ls hc hw hl) (fun z => kf z p l e s m args below meth c D cI cQ ad A H locs ls hc hw hl)
theorem p_if_ge {x : Int32} {off : Int} {tgt : Nat} (hd : decode M.2.1 pc = .ok (.ifCond .ge off, 3)) (ht : (pc : Int) + off = (tgt : Int)) (kt : 0 ≤ x → pw tb d M tgt lv st sg Q) (kf : ¬ 0 ≤ x → pw tb d M (pc + 3) lv st sg Q) : pw tb d M pc lv (.int x :: st) sg Q := by
  intro p l e s m args below meth c D cI cQ ad A H locs ls hc hw hl
  exact lv_if_ge hc.1 hc.2.1 hd ht (fun z => kt z p l e s m args below meth c D cI cQ ad A H locs ls hc hw hl) (fun z => kf z p l e s m args below meth c D cI cQ ad A H locs ls hc hw hl)
theorem p_icmp_ge {x y : Int32} {off : Int} {tgt : Nat} (hd : decode M.2.1 pc = .ok (.if_icmp .ge off, 3)) (ht : (pc : Int) + off = (tgt : Int)) (kt : y ≤ x → pw tb d M tgt lv st sg Q) (kf : ¬ y ≤ x → pw tb d M (pc + 3) lv st sg Q) : pw tb d M pc lv (.int y :: .int x :: st) sg Q := by
  intro p l e s m args below meth c D cI cQ ad A H locs ls hc hw hl
  exact lv_icmp_ge hc.1 hc.2.1 hd ht (fun z => kt z p l e s m args below meth c D cI cQ ad A H locs ls hc hw hl) (fun z => kf z p l e s m args below meth c D cI cQ ad A H locs ls hc hw hl)
theorem p_if_gt {x : Int32} {off : Int} {tgt : Nat} (hd : decode M.2.1 pc = .ok (.ifCond .gt off, 3)) (ht : (pc : Int) + off = (tgt : Int)) (kt : 0 < x → pw tb d M tgt lv st sg Q) (kf : ¬ 0 < x → pw tb d M (pc + 3) lv st sg Q) : pw tb d M pc lv (.int x :: st) sg Q := by
  intro p l e s m args below meth c D cI cQ ad A H locs ls hc hw hl
  exact lv_if_gt hc.1 hc.2.1 hd ht (fun z => kt z p l e s m args below meth c D cI cQ ad A H locs ls hc hw hl) (fun z => kf z p l e s m args below meth c D cI cQ ad A H locs ls hc hw hl)
theorem p_icmp_gt {x y : Int32} {off : Int} {tgt : Nat} (hd : decode M.2.1 pc = .ok (.if_icmp .gt off, 3)) (ht : (pc : Int) + off = (tgt : Int)) (kt : y < x → pw tb d M tgt lv st sg Q) (kf : ¬ y < x → pw tb d M (pc + 3) lv st sg Q) : pw tb d M pc lv (.int y :: .int x :: st) sg Q := by
  intro p l e s m args below meth c D cI cQ ad A H locs ls hc hw hl
  exact lv_icmp_gt hc.1 hc.2.1 hd ht (fun z => kt z p l e s m args below meth c D cI cQ ad A H locs ls hc hw hl) (fun z => kf z p l e s m args below meth c D cI cQ ad A H locs ls hc hw hl)
theorem p_if_le {x : Int32} {off : Int} {tgt : Nat} (hd : decode M.2.1 pc = .ok (.ifCond .le off, 3)) (ht : (pc : Int) + off = (tgt : Int)) (kt : x ≤ 0 → pw tb d M tgt lv st sg Q) (kf : ¬ x ≤ 0 → pw tb d M (pc + 3) lv st sg Q) : pw tb d M pc lv (.int x :: st) sg Q := by
  intro p l e s m args below meth c D cI cQ ad A H locs ls hc hw hl
  exact lv_if_le hc.1 hc.2.1 hd ht (fun z => kt z p l e s m args below meth c D cI cQ ad A H locs ls hc hw hl) (fun z => kf z p l e s m args below meth c D cI cQ ad A H locs ls hc hw hl)
theorem p_icmp_le {x y : Int32} {off : Int} {tgt : Nat} (hd : decode M.2.1 pc = .ok (.if_icmp .le off, 3)) (ht : (pc : Int) + off = (tgt : Int)) (kt : x ≤ y → pw tb d M tgt lv st sg Q) (kf : ¬ x ≤ y → pw tb d M (pc + 3) lv st sg Q) : pw tb d M pc lv (.int y :: .int x :: st) sg Q := by
  intro p l e s m args below meth c D cI cQ ad A H locs ls hc hw hl
  exact lv_icmp_le hc.1 hc.2.1 hd ht (fun z => kt z p l e s m args below meth c D cI cQ ad A H locs ls hc hw hl) (fun z => kf z p l e s m args below meth c D cI cQ ad A H locs ls hc hw hl)
theorem p_goto {off : Int} {tgt : Nat} (hd : decode M.2.1 pc = .ok (.goto off, 3)) (ht : (pc : Int) + off = (tgt : Int)) (k : pw tb d M tgt lv st sg Q) : pw tb d M pc lv st sg Q := by
  intro p l e s m args below meth c D cI cQ ad A H locs ls hc hw hl
  exact lv_goto hc.1 hc.2.1 hd ht (k p l e s m args below meth c D cI cQ ad A H locs ls hc hw hl)
theorem p_tabOut {dflt lo hi : Int} {offs : Array Int} {len : Nat} {x : Int32} {tgt : Nat} (hd : decode M.2.1 pc = .ok (.tableswitch dflt lo hi offs, len)) (h : x.toInt < lo ∨ hi < x.toInt) (ht : (pc : Int) + dflt = (tgt : Int)) (k : pw tb d M tgt lv st sg Q) : pw tb d M pc lv (.int x :: st) sg Q := by
  intro p l e s m args below meth c D cI cQ ad A H locs ls hc hw hl
  exact lv_tableOut hc.1 hc.2.1 hd h ht (k p l e s m args below meth c D cI cQ ad A H locs ls hc hw hl)
theorem p_tabIn {dflt lo hi : Int} {offs : Array Int} {len : Nat} {x : Int32} {off : Int} {tgt : Nat} (hd : decode M.2.1 pc = .ok (.tableswitch dflt lo hi offs, len)) (h1 : ¬ x.toInt < lo) (h2 : ¬ hi < x.toInt) (ho : offs[(x.toInt - lo).toNat]? = some off) (ht : (pc : Int) + off = (tgt : Int)) (k : pw tb d M tgt lv st sg Q) : pw tb d M pc lv (.int x :: st) sg Q := by
  intro p l e s m args below meth c D cI cQ ad A H locs ls hc hw hl
  exact lv_tableIn hc.1 hc.2.1 hd h1 h2 ho ht (k p l e s m args below meth c D cI cQ ad A H locs ls hc hw hl)
theorem p_iald {c0 n : Nat} {i : Int32} (hn : fnd tb c0 = some (.inl n)) (hin : vp_in i n) (hd : decode M.2.1 pc = .ok (.iaload, 1)) (k : pw tb d M (pc + 1) lv (.int (sg c0 i.toNatClampNeg) :: st) sg Q) : pw tb d M pc lv (.int i :: .ref c0 :: st) sg Q := by
  intro p l e s m args below meth c D cI cQ ad A H locs ls hc hw hl
  obtain ⟨k0, hk0⟩ := fnd_at hn
  exact va_iald hc.1 hc.2.1 hc.2.2.2.2.2.2.2.1 hw.1 k0 0 (wld_at hk0) rfl hin hd (k p l e s m args below meth c D cI cQ ad A H locs ls hc hw hl)
theorem p_iast {c0 n : Nat} {i x : Int32} (hn : fnd tb c0 = some (.inl n)) (hin : vp_in i n) (hd : decode M.2.1 pc = .ok (.iastore, 1)) (k : pw tb d M (pc + 1) lv st (up2 sg c0 i.toNatClampNeg x) Q) : pw tb d M pc lv (.int x :: .int i :: .ref c0 :: st) sg Q := by
  intro p l e_ s m args below meth c D cI cQ ad A H locs ls hc hw hl
  obtain ⟨k0, hk0⟩ := fnd_at hn
  refine va_iast hc.1 hc.2.1 hc.2.2.2.2.2.2.2.1 hw.1 hw.2.1 hw.2.2.1 k0 0 (wld_at hk0) rfl hin hd (fun H2 locs2 hP2 hD2 hS2 => ?_)
  have e := wld_set (cI := cI) (cQ := cQ) hw.2.1 hk0 (upd (sg c0) i.toNatClampNeg x)
  refine k p l e_ s m args below meth c D cI cQ ad A H2 locs2 ls hc ⟨?_, ?_, hS2, hw.2.2.2⟩ hl
  · rw [show up2 sg c0 i.toNatClampNeg x = upC sg c0 (upd (sg c0) i.toNatClampNeg x) from rfl, ← e]; exact hP2
  · rw [show up2 sg c0 i.toNatClampNeg x = upC sg c0 (upd (sg c0) i.toNatClampNeg x) from rfl, ← e]; exact hD2
theorem p_aald {c0 n b : Nat} {i : Int32} (hn : fnd tb c0 = some (.inr (.inl (n, b)))) (hin : vp_in i n) (hd : decode M.2.1 pc = .ok (.aaload, 1)) (k : pw tb d M (pc + 1) lv (.ref (b + i.toNatClampNeg) :: st) sg Q) : pw tb d M pc lv (.int i :: .ref c0 :: st) sg Q := by
  intro p l e s m args below meth c D cI cQ ad A H locs ls hc hw hl
  obtain ⟨k0, hk0⟩ := fnd_at hn
  have hlt : i.toNatClampNeg < n := Nat.not_le.mp fun q => hin (Or.inr q)
  exact W.aald (v := .ref (ad (b + i.toNatClampNeg))) (ty := .array .int) hc.1 hc.2.1 (hw.1 k0 _ (wld_at hk0)) ((hc.2.2.2.2.2.2.2.1.2 1 _ rfl).1 n (fun j => va_rf (some (ad (b + j))))) rfl (fun q => by cases q) (by show ¬ (i < 0 ∨ (arrV _ _ _).slots.size ≤ _); rw [arrV_size]; exact hin) (by show (arrV _ _ _).slots[_]? = _; rw [arrV_read _ _ hlt]; rfl) rfl rfl hd (k p l e s m args below meth c D cI cQ ad A H locs ls hc hw hl)
theorem p_alen {c0 n : Nat} (hn : fnd tb c0 = some (.inl n)) (hd : decode M.2.1 pc = .ok (.arraylength, 1)) (k : pw tb d M (pc + 1) lv (.int (nI n) :: st) sg Q) : pw tb d M pc lv (.ref c0 :: st) sg Q := by
  intro p l e s m args below meth c D cI cQ ad A H locs ls hc hw hl
  obtain ⟨k0, hk0⟩ := fnd_at hn
  exact va_alen hc.1 hc.2.1 hc.2.2.2.2.2.2.2.1 hw.1 k0 0 (wld_at hk0) rfl rfl hd (k p l e s m args below meth c D cI cQ ad A H locs ls hc hw hl)
/-- a field: which one of its class it is, and that the tables link it from a class's own constant -/
def fok (own : String) (idx ci k : Nat) (q : vw_C) (nest : Option String) : Prop := vwCl[ci]? = some q ∧ k < q.2.2 ∧ (∀ w ∈ u_ws q.1 q.2.1 q.2.2, w ∈ gtb) ∧ (match nest with
  | none => Cond.fieldLink own idx (q.2.1 k).1 (q.2.1 k).2.1 (q.2.1 k).2.2.1 ∈ gtb
  | some host => Cond.fieldLinkNest own idx (q.2.1 k).1 (q.2.1 k).2.1 (q.2.1 k).2.2.1 host ∈ lw_tbl)
/-- what a store wants beside -/
def fst (k : Nat) (q : vw_C) (ty : FieldType) : Prop := (q.2.1 k).2.2.2 = false ∧ parseFieldDescriptor (q.2.1 k).2.2.1 = some ty ∧ ∃ ty0 : Nat → FieldType, (∀ k, k < q.2.2 → parseFieldDescriptor (q.2.1 k).2.2.1 = some (ty0 k)) ∧ (∀ a, a < q.2.2 → ∀ b, b < q.2.2 → a ≠ b → (q.2.1 a).2.1 ≠ (q.2.1 b).2.1)
theorem p_get {idx ci k0 c0 : Nat} {q : vw_C} {nest : Option String} {fl : List (Option Nat)} {x : Option Nat} (hf : fok M.1.cls idx ci k0 q nest) (hn : fnd tb c0 = some (.inr (.inr (ci, fl)))) (hx : fl[k0]? = some x) {v : Value} (hv : (∀ ad : Nat → Nat, fvl ad x (sg c0 k0) = trv ad v)) (hd : decode M.2.1 pc = .ok (.getfield idx, 3)) (k : pw tb d M (pc + 3) lv (v :: st) sg Q) : pw tb d M pc lv (.ref c0 :: st) sg Q := by
  intro p l e s m args below meth c D cI cQ ad A H locs ls hc hw hl
  obtain ⟨kk, hkk⟩ := fnd_at hn
  obtain ⟨h1, h2, h3, h4⟩ := hf
  have hg := flds_get (ad := ad) (g := sg c0) (j := 0) hx
  rw [Nat.zero_add, hv ad] at hg
  cases nest with
  | none => exact va_get hc.1 hc.2.1 hc.2.2.2.2.2.2.1 h3 hc.2.2.2.2.2.1 hc.2.2.2.2.2.2.2.1 hw.1 kk (wld_at hkk) h1 k0 h2 (hc.2.2.2.2.2.2.1 _ h4) (fun _ h9 => h9) hg hd (k p l e s m args below meth c D cI cQ ad A H locs ls hc hw hl)
  | some host => exact va_getN hc.1 hc.2.1 hc.2.2.2.2.2.2.1 h3 hc.2.2.2.2.2.1 hc.2.2.2.2.2.2.2.1 hw.1 kk (wld_at hkk) h1 k0 h2 (va_Nw.use rfl (hc.2.2.2.2.2.2.2.2 _ h4 rfl)) (fun _ h9 => h9) hg hd (k p l e s m args below meth c D cI cQ ad A H locs ls hc hw hl)
theorem p_getI {idx ci k0 c0 : Nat} {q : vw_C} {nest : Option String} {fl : List (Option Nat)} (hf : fok M.1.cls idx ci k0 q nest) (hn : fnd tb c0 = some (.inr (.inr (ci, fl)))) (hx : fl[k0]? = some none) (hd : decode M.2.1 pc = .ok (.getfield idx, 3)) (k : pw tb d M (pc + 3) lv (.int (sg c0 k0) :: st) sg Q) : pw tb d M pc lv (.ref c0 :: st) sg Q := p_get hf hn hx (fun _ => rfl) hd k
theorem p_getR {idx ci k0 c0 c1 : Nat} {q : vw_C} {nest : Option String} {fl : List (Option Nat)} (hf : fok M.1.cls idx ci k0 q nest) (hn : fnd tb c0 = some (.inr (.inr (ci, fl)))) (hx : fl[k0]? = some (some c1)) (hd : decode M.2.1 pc = .ok (.getfield idx, 3)) (k : pw tb d M (pc + 3) lv (.ref c1 :: st) sg Q) : pw tb d M pc lv (.ref c0 :: st) sg Q := p_get hf hn hx (fun _ => rfl) hd k
theorem p_put {idx ci k0 c0 : Nat} {q : vw_C} {nest : Option String} {fl : List (Option Nat)} {ty : FieldType} {x : Int32} (hf : fok M.1.cls idx ci k0 q nest) (hg : fst k0 q ty) (hn : fnd tb c0 = some (.inr (.inr (ci, fl)))) (hx : fl[k0]? = some none) (hnr : narrow ty (.int x) = .int x) (hft : fits ty (.int x) = true) (hd : decode M.2.1 pc = .ok (.putfield idx, 3)) (k : pw tb d M (pc + 3) lv st (up2 sg c0 k0 x) Q) : pw tb d M pc lv (.int x :: .ref c0 :: st) sg Q := by
  intro p l e_ s m args below meth c D cI cQ ad A H locs ls hc hw hl
  obtain ⟨kk, hkk⟩ := fnd_at hn
  obtain ⟨h1, h2, h3, h4⟩ := hf
  obtain ⟨g1, g2, ty0, g3, g4⟩ := hg
  have hlen : k0 < (flds ad fl 0 (sg c0)).length := by rw [flds_len]; exact (List.getElem?_eq_some_iff.mp hx).1
  have hset := flds_set (ad := ad) (g := sg c0) (v := x) (j := 0) hx
  rw [Nat.zero_add] at hset
  have e := wld_set (cI := cI) (cQ := cQ) hw.2.1 hkk (upd (sg c0) k0 x)
  have key : ∀ (H2 : Heap) (locs2 : List Loc), va_P D vwCl ((wld cI cQ ad tb sg).set kk (ad c0, .inr (ci, (flds ad fl 0 (sg c0)).set k0 (.int x)))) H2 → va_D A ((wld cI cQ ad tb sg).set kk (ad c0, .inr (ci, (flds ad fl 0 (sg c0)).set k0 (.int x)))) → va_S A s.heap H2 locs2 → W p l e_ (rmd d) s m args below meth c H2 locs2 0 0 (MQ below (pst D cI cQ ad tb A Q) args s 0 0 A) (F0 m (pc + 3) ls (st.map (trv ad))) := by
    intro H2 locs2 hP2 hD2 hS2
    rw [hset] at hP2 hD2
    refine k p l e_ s m args below meth c D cI cQ ad A H2 locs2 ls hc ⟨?_, ?_, hS2, hw.2.2.2⟩ hl
    · rw [show up2 sg c0 k0 x = upC sg c0 (upd (sg c0) k0 x) from rfl, ← e]; exact hP2
    · rw [show up2 sg c0 k0 x = upC sg c0 (upd (sg c0) k0 x) from rfl, ← e]; exact hD2
  cases nest with
  | none => exact va_put hc.1 hc.2.1 hc.2.2.2.2.2.2.1 h3 ty0 g3 g4 hc.2.2.2.2.2.1 hc.2.2.2.2.2.2.2.1 hw.1 hw.2.1 hw.2.2.1 kk (wld_at hkk) h1 k0 h2 (hc.2.2.2.2.2.2.1 _ h4) (fun _ h9 => h9) g1 g2 hnr hft hlen hd key
  | some host => exact va_putN hc.1 hc.2.1 hc.2.2.2.2.2.2.1 h3 ty0 g3 g4 hc.2.2.2.2.2.1 hc.2.2.2.2.2.2.2.1 hw.1 hw.2.1 hw.2.2.1 kk (wld_at hkk) h1 k0 h2 (va_Nw.use rfl (hc.2.2.2.2.2.2.2.2 _ h4 rfl)) (fun _ h9 => h9) g1 g2 hnr hft hlen hd key
def mnI (x y : Int32) : Int32 := if y < x then y else x
def mxI (x y : Int32) : Int32 := if x < y then y else x
theorem rmd_loc {n : Nat} : (rmd (n + 1)).locals = 40 * (n + 1) := rfl
theorem cat_le (ad : Nat → Nat) : ∀ (st : List Value), ((st.map (trv ad)).map fun v => v.category).sum = (st.map fun v => v.category).sum
  | [] => rfl
  | v :: r => by
    show (trv ad v).category + ((r.map (trv ad)).map fun v => v.category).sum = v.category + (r.map fun v => v.category).sum
    rw [trv_cat, cat_le ad r]
theorem p_min {idx : Nat} {x y : Int32} (hlk : Cond.methodLink M.1.cls idx Lib.Math.min.name ∈ gtb) (hs1 : Cond.static Lib.Math.min.name ∈ gtb) (hs2 : Cond.initialized "java/lang/Math" ∈ gtb) (hs3 : Cond.code Lib.Math.min.name Lib.Math.min.code 2 (some .int) ∈ gtb) (hst : (st.map fun v => v.category).sum ≤ 8) (hd : decode M.2.1 pc = .ok (.invokestatic idx, 3)) (k : pw tb (d + 1) M (pc + 3) lv (.int (mnI x y) :: st) sg Q) : pw tb (d + 1) M pc lv (.int y :: .int x :: st) sg Q := by
  intro p l e s m args below meth c D cI cQ ad A H locs ls hc hw hl
  exact va_mmin hc.1 hc.2.1 (hc.2.2.1.trans hl.1.symm) hc.2.2.2.2.2.1 (hc.2.2.2.2.2.2.1 _ hlk) (hc.2.2.2.2.2.2.1 _ hs1) (hc.2.2.2.2.2.2.1 _ hs2) (hc.2.2.2.2.2.2.1 _ hs3) (by show 1 ≤ d + 1; omega) (by rw [cat_le]; show _ ≤ 40 * (d + 1); omega) (Nat.le_refl _) (Nat.le_refl _) hd (k p l e s m args below meth c D cI cQ ad A H locs ls hc hw hl)
theorem p_max {idx : Nat} {x y : Int32} (hlk : Cond.methodLink M.1.cls idx Lib.Math.max.name ∈ gtb) (hs1 : Cond.static Lib.Math.max.name ∈ gtb) (hs2 : Cond.initialized "java/lang/Math" ∈ gtb) (hs3 : Cond.code Lib.Math.max.name Lib.Math.max.code 2 (some .int) ∈ gtb) (hst : (st.map fun v => v.category).sum ≤ 8) (hd : decode M.2.1 pc = .ok (.invokestatic idx, 3)) (k : pw tb (d + 1) M (pc + 3) lv (.int (mxI x y) :: st) sg Q) : pw tb (d + 1) M pc lv (.int y :: .int x :: st) sg Q := by
  intro p l e s m args below meth c D cI cQ ad A H locs ls hc hw hl
  exact va_mmax hc.1 hc.2.1 (hc.2.2.1.trans hl.1.symm) hc.2.2.2.2.2.1 (hc.2.2.2.2.2.2.1 _ hlk) (hc.2.2.2.2.2.2.1 _ hs1) (hc.2.2.2.2.2.2.1 _ hs2) (hc.2.2.2.2.2.2.1 _ hs3) (by show 1 ≤ d + 1; omega) (by rw [cat_le]; show _ ≤ 40 * (d + 1); omega) (Nat.le_refl _) (Nat.le_refl _) hd (k p l e s m args below meth c D cI cQ ad A H locs ls hc hw hl)
def cpok (tb : Sd) (a : Nat) (sp : Int32) (b : Nat) (dp n : Int32) : Bool := isA tb a && isA tb b && decide (¬ sp < 0) && decide (¬ dp < 0) && decide (¬ n < 0) && decide (sp.toNatClampNeg + n.toNatClampNeg ≤ alen tb a) && decide (dp.toNatClampNeg + n.toNatClampNeg ≤ alen tb b)
def cpy (sg : Hp) (a : Nat) (sp : Int32) (b : Nat) (dp n : Int32) : Hp := upC sg b (va_cpy (sg a) (sg b) sp.toNatClampNeg dp.toNatClampNeg n.toNatClampNeg)
theorem p_copy {idx a b : Nat} {sp dp n : Int32} (hlk : Cond.methodLink M.1.cls idx arraycopyName ∈ gtb) (hs1 : Cond.native arraycopyName ∈ gtb) (hs2 : Cond.static arraycopyName ∈ gtb) (hs3 : Cond.initialized "java/lang/System" ∈ gtb) (hst : (st.map fun v => v.category).sum ≤ 8) (hk : cpok tb a sp b dp n = true) (hd : decode M.2.1 pc = .ok (.invokestatic idx, 3)) (k : pw tb (d + 1) M (pc + 3) lv st (cpy sg a sp b dp n) Q) : pw tb (d + 1) M pc lv (.int n :: .int dp :: .ref b :: .int sp :: .ref a :: st) sg Q := by
  intro p l e_ s m args below meth c D cI cQ ad A H locs ls hc hw hl
  unfold cpok at hk
  simp only [Bool.and_eq_true, decide_eq_true_eq] at hk
  obtain ⟨⟨⟨⟨⟨⟨k1, k2⟩, k3⟩, k4⟩, k5⟩, k6⟩, k7⟩ := hk
  obtain ⟨i1, hi1⟩ := fnd_at (isA_at k1)
  obtain ⟨i2, hi2⟩ := fnd_at (isA_at k2)
  have e := wld_set (cI := cI) (cQ := cQ) hw.2.1 hi2 (va_cpy (sg a) (sg b) sp.toNatClampNeg dp.toNatClampNeg n.toNatClampNeg)
  have hnw : nativeFrameWords "java/lang/System" "arraycopy" 5 ≤ 20 := by decide +kernel
  have hcs : ((st.map (trv ad)).map fun v => v.category).sum + (nativeFrameWords "java/lang/System" "arraycopy" 5 + 11) ≤ (rmd (d + 1)).locals := by
    rw [cat_le]
    show _ ≤ 40 * (d + 1)
    omega
  have hfr : 1 ≤ (rmd (d + 1)).frames := Nat.le_add_left 1 d
  refine va_copyi hc.1 hc.2.1 (hc.2.2.1.trans hl.1.symm) hc.2.2.2.2.2.1 (hc.2.2.2.2.2.2.1 _ hlk) (hc.2.2.2.2.2.2.1 _ hs1) (hc.2.2.2.2.2.2.1 _ hs2) (hc.2.2.2.2.2.2.1 _ hs3) hc.2.2.2.2.2.2.2.1 hw.1 hw.2.1 hw.2.2.1 i1 i2 0 0 (wld_at hi1) (wld_at hi2) rfl rfl rfl k3 k4 k5 k6 k7 (fun _ _ => rfl) hfr hcs hd (fun H2 locs2 hP2 hD2 hS2 => ?_)
  refine k p l e_ s m args below meth c D cI cQ ad A H2 locs2 ls hc ⟨?_, ?_, hS2, hw.2.2.2⟩ hl
  · show va_P D vwCl (wld cI cQ ad tb (upC sg b _)) H2
    rw [← e]; exact hP2
  · show va_D A (wld cI cQ ad tb (upC sg b _))
    rw [← e]; exact hD2
theorem p_ret_ {r : Option Value} {M : Mth} {p : Program} {s : State} {m : MethodId} {args : Array Value} {meth : Method} {c : Code} {D : va_G} {cI cQ : ClassId} {ad : Nat → Nat} {A : Nat → Prop} {H : Heap} {locs : List Loc} (hc : cxt M p s m args meth c D cI cQ) (hw : wht D cI cQ ad tb A s H locs sg) (hq : Q r sg) : ∀ t : State, t.heap = H → s.WarmedH t.vm → pst D cI cQ ad tb A Q args s (.returned (r.map (trv ad))) t := fun t ht hW => ⟨⟨r, sg, rfl, hq, by rw [ht]; exact hw.1, hw.2.1⟩, hw.2.2.1.F ht⟩
theorem p_iret {x : Int32} (hr : M.2.2.2 = some .int) (hd : decode M.2.1 pc = .ok (.ireturn, 1)) (hq : Q (some (.int x)) sg) : pw tb d M pc lv [.int x] sg Q := by
  intro p l e s m args below meth c D cI cQ ad A H locs ls hc hw hl
  exact W.iret hc.1 hc.2.1 (hc.2.2.2.1.trans hr) (p_ret_ (r := some (.int x)) hc hw hq) hw.2.2.1.2.2 hd hc.2.2.2.2.1
theorem p_zret {x : Int32} {ty : FieldType} (hr : M.2.2.2 = some ty) (hn : narrow ty (.int x) = .int x) (hd : decode M.2.1 pc = .ok (.ireturn, 1)) (hq : Q (some (.int x)) sg) : pw tb d M pc lv [.int x] sg Q := by
  intro p l e s m args below meth c D cI cQ ad A H locs ls hc hw hl
  exact W.zret hc.1 hc.2.1 (hc.2.2.2.1.trans hr) hn (p_ret_ (r := some (.int x)) hc hw hq) hw.2.2.1.2.2 hd hc.2.2.2.2.1
theorem p_lret {x : Int64} (hr : M.2.2.2 = some .long) (hd : decode M.2.1 pc = .ok (.lreturn, 1)) (hq : Q (some (.long x)) sg) : pw tb d M pc lv [.long x] sg Q := by
  intro p l e s m args below meth c D cI cQ ad A H locs ls hc hw hl
  exact W.lret hc.1 hc.2.1 (hc.2.2.2.1.trans hr) (p_ret_ (r := some (.long x)) hc hw hq) hw.2.2.1.2.2 hd hc.2.2.2.2.1
theorem p_vret (hr : M.2.2.2 = none) (hd : decode M.2.1 pc = .ok (.return_, 1)) (hq : Q none sg) : pw tb d M pc lv [] sg Q := by
  intro p l e s m args below meth c D cI cQ ad A H locs ls hc hw hl
  exact W.vret hc.1 hc.2.1 (hc.2.2.2.1.trans hr) (p_ret_ (r := none) hc hw hq) hw.2.2.1.2.2 hd hc.2.2.2.2.1
theorem p_aret {x : Nat} (hr : M.2.2.2 = some (.array .int)) (hd : decode M.2.1 pc = .ok (.areturn, 1)) (hq : Q (some (.ref x)) sg) : pw tb d M pc lv [.ref x] sg Q := by
  intro p l e s m args below meth c D cI cQ ad A H locs ls hc hw hl
  exact W.aret hc.1 hc.2.1 (hc.2.2.2.1.trans hr) (Or.inr ⟨_, rfl⟩) (Or.inr ⟨ad x, rfl⟩) (p_ret_ (r := some (.ref x)) hc hw hq) hw.2.2.1.2.2 hd hc.2.2.2.2.1
end PW
end
section
/-! calls by contract, over pw -/
theorem tlv_args (ad : Nat → Nat) : ∀ (av : List Value) (i : Nat), lv_args i (av.map (trv ad)) = tlv ad (lv_args i av)
  | [], _ => rfl
  | v :: r, i => by
    show (i, trv ad v) :: lv_args (if (trv ad v).category = 2 then i + 2 else i + 1) (r.map (trv ad)) = (i, trv ad v) :: tlv ad (lv_args (if v.category = 2 then i + 2 else i + 1) r)
    rw [trv_cat, tlv_args ad r]
theorem lgsl_len (ad : Nat → Nat) : ∀ (av : List Value), (lg_sl (av.map (trv ad))).length = (lg_sl av).length
  | [] => rfl
  | v :: r => by
    have ih := lgsl_len ad r
    unfold lg_sl at ih ⊢
    rw [List.map_cons, List.flatMap_cons, List.flatMap_cons, List.length_append, List.length_append, ih, trv_cat]
    by_cases h : v.category = 2
    · simp [h]
    · simp [h]
theorem good_tbl : ∀ w ∈ gtb, goodWord w = true := fun w h => (List.mem_filter.mp h).2
theorem good_M {M : Mth} (h : Cond.code M.1 M.2.1 M.2.2.1 M.2.2.2 ∈ gtb) : GoodIn gtb (wsM M) := by
  intro w hw
  rcases List.mem_cons.mp hw with rfl | hw
  · exact ⟨h, good_of_word (good_tbl _ h)⟩
  · exact ⟨hw, good_of_word (good_tbl _ hw)⟩
abbrev wpre (D : va_G) (cI cQ : ClassId) (ad : Nat → Nat) (tb : Sd) (sg : Hp) (sz : Nat) : State → Prop := fun U => U.heap.size = sz ∧ va_P D vwCl (wld cI cQ ad tb sg) U.heap ∧ KK D cI cQ U ∧ va_D (fun _ => True) (wld cI cQ ad tb sg)
theorem met_of_pw {tb : Sd} {d : Nat} {M : Mth} {av : List Value} {sg : Hp} {Q : Option Value → Hp → Prop} (hpl : plainName M.1.cls = true) (hlen : (lg_sl av).length ≤ M.2.2.1) (h : pw tb d M 0 (lv_args 0 av) [] sg Q) (l : Launch) (D : va_G) (cI cQ : ClassId) (ad : Nat → Nat) (sz : Nat) :
    Met l M.1 (wsM M) (rmd d) (va_Pc (av.map (trv ad)) (wpre D cI cQ ad tb sg sz)) (pst D cI cQ ad tb (va_A (wld cI cQ ad tb sg) sz) Q) 0 0 (va_A (wld cI cQ ad tb sg) sz) := by
  refine Met.ofW (cc := M.2.1) (maxL := M.2.2.1) (ret := M.2.2.2) hpl rfl ?_
  intro p e s m args below meth c s₁ B hml hv
  obtain ⟨rfl, hsz, hP, hK, hD0⟩ := hv
  have hts := atoms_spec (ws := wsM M) B.pre
  have hown : s.vm.findClass M.1.cls = some m.cls := findClass_of_methodNamed B.named
  have hlocks := B.notSynchronized
  subst hsz
  have hD := hD0.self (sz := s.heap.size)
  have hl := lv_entry (av.map (trv ad)) (n := M.2.2.1) (by rw [lgsl_len]; exact hlen)
  rw [lg_entry_eq]
  rw [tlv_args] at hl
  exact h p l e s m _ below meth c D cI cQ ad _ s.heap [] _ ⟨B.exec, B.bytes, hml, B.returns, hlocks, hown, fun w hw => hts w (List.mem_cons_of_mem _ hw), hK⟩ ⟨hP, hD, va_S.rf, fun q hq => Or.inr hq⟩ hl
theorem wpre_blind {D : va_G} {cI cQ : ClassId} {ad : Nat → Nat} {tb : Sd} {sg : Hp} {sz : Nat} {av : List Value} : FrameBlind (va_Pc av (wpre D cI cQ ad tb sg sz)) := fun a U g mk q => by
  obtain ⟨q0, q1, qP, qK, qD⟩ := q
  exact ⟨q0, q1, qP, qK.call, qD⟩
def cSt (own : String) (idx : Nat) (M : Mth) (n : Nat) : Prop := Cond.methodLink own idx M.1 ∈ gtb ∧ Cond.static M.1 ∈ gtb ∧ Cond.initialized M.1.cls ∈ gtb ∧ Cond.code M.1 M.2.1 M.2.2.1 M.2.2.2 ∈ gtb ∧ plainName M.1.cls = true ∧ (M.1.cls ≠ "java/lang/invoke/MethodHandle" ∧ M.1.cls ≠ "java/lang/invoke/VarHandle" ∧ (parseMethodDescriptor M.1.desc).map (fun d => d.parameters.length) = some n) ∧ M.2.2.1 ≤ 21
def cVt (own : String) (idx : Nat) (M : Mth) (n : Nat) : Prop := Cond.methodLink own idx M.1 ∈ gtb ∧ Cond.instanceMethod M.1 ∈ gtb ∧ Cond.selects M.1.cls M.1 M.1 ∈ gtb ∧ Cond.initialized M.1.cls ∈ gtb ∧ Cond.code M.1 M.2.1 M.2.2.1 M.2.2.2 ∈ gtb ∧ plainName M.1.cls = true ∧ (M.1.cls ≠ "java/lang/invoke/MethodHandle" ∧ M.1.cls ≠ "java/lang/invoke/VarHandle" ∧ (parseMethodDescriptor M.1.desc).map (fun d => d.parameters.length) = some n) ∧ M.2.2.1 ≤ 21
section PCALL
variable {tb : Sd} {d : Nat} {M : Mth} {pc : Nat} {lv : List (Nat × Value)} {st : List Value} {sg : Hp} {Q : Option Value → Hp → Prop}
theorem p_back {p : Program} {l : Launch} {e : Env} {s : State} {m : MethodId} {args : Array Value} {below : List Frame} {meth : Method} {c : Code} {D : va_G} {cI cQ : ClassId} {ad : Nat → Nat} {A : Nat → Prop} {H : Heap} {locs : List Loc} {ls : Array Slot} {st0 : List Value} {a : Array Value} {Q2 : Option Value → Hp → Prop} (hc : cxt M p s m args meth c D cI cQ) (hw : wht D cI cQ ad tb A s H locs sg) (hl : lv_has ls M.2.2.1 (tlv ad lv))
    (hr : va_Run p l e (rmd d) s m args below meth c H locs 0 0 0 0 (F0 m pc ls st0) (st.map (trv ad)) (pst D cI cQ ad tb (va_A (wld cI cQ ad tb sg) H.size) Q2 a) (va_A (wld cI cQ ad tb sg) H.size))
    (k : ∀ (r : Option Value) (sg2 : Hp), Q2 r sg2 → pw tb d M (pc + 3) lv (r.toList ++ st) sg2 Q) :
    W p l e (rmd d) s m args below meth c H locs 0 0 (MQ below (pst D cI cQ ad tb A Q) args s 0 0 A) (F0 m pc ls st0) := by
  intro T hT X
  obtain ⟨v, s0, t, T', L, h0, X', hL, e1, e2, ⟨⟨r, sg2, hv, hq, hP2, hD2⟩, hz, hk⟩, stp⟩ := hr T hT X
  have hAA : ∀ q : Nat, va_A (wld cI cQ ad tb sg) H.size q → A q := fun q hq => by
    rcases hq with ⟨k9, e9, h9⟩ | h9
    · exact hw.2.1.2 k9 _ h9
    · exact hw.2.2.2 q (Nat.le_trans hw.2.2.1.1 h9)
  have hv2 : v = r.map (trv ad) := by injection hv
  subst hv2
  rw [h0] at hz hk
  have hS2 : va_S A s.heap T'.heap (locs ++ L) := ⟨Nat.le_trans hw.2.2.1.1 (by rw [e1]; exact hz), fun q h1 h2 => by
      rw [e1, hk q (Nat.lt_of_lt_of_le h1 hw.2.2.1.1) (fun z => h2 (hAA q z))]
      exact hw.2.2.1.2.1 q h1 h2, fun q hq => by
      rcases List.mem_append.mp hq with h | h
      · exact hw.2.2.1.2.2 q h
      · exact hAA _ (hL q h)⟩
  have K := k r sg2 hq p l e s m args below meth c D cI cQ ad A T'.heap (locs ++ L) ls hc ⟨by rw [e1]; exact hP2, hD2.weaken (fun _ _ _ h => hAA _ h), hS2, hw.2.2.2⟩ hl
  have hst : (r.toList ++ st).map (trv ad) = (r.map (trv ad)).toList ++ st.map (trv ad) := by
    cases r <;> rfl
  rw [hst] at K
  obtain ⟨t2, a1, b1⟩ := K T' rfl X'
  exact ⟨t2, stp t2 a1, b1⟩
theorem p_callS {idx n : Nat} {M2 : Mth} {av : List Value} {Q2 : Option Value → Hp → Prop} (hm : cSt M.1.cls idx M2 n) (hn : av.length = n) (hlen : (lg_sl av).length ≤ M2.2.2.1) (hst : (st.map fun v => v.category).sum ≤ 8) (hd : decode M.2.1 pc = .ok (.invokestatic idx, 3)) (hb : pw tb d M2 0 (lv_args 0 av) [] sg Q2)
    (k : ∀ (r : Option Value) (sg2 : Hp), Q2 r sg2 → pw tb (d + 1) M (pc + 3) lv (r.toList ++ st) sg2 Q) : pw tb (d + 1) M pc lv (av.reverse ++ st) sg Q := by
  intro p l e s m args below meth c D cI cQ ad A H locs ls hc hw hl
  obtain ⟨m1, m2, m3, m4, m5, m6, m7⟩ := hm
  obtain ⟨hx, hbb, hml, hret, hlk, hown, hts, hK⟩ := id hc
  have cw := callB_of (R := rmd (d + 1)) (mc := 0) (ms := 0) n hts (good_M m4) rfl (rm := rmd d) rfl rfl (hts _ m3) (hts _ m1) m6 ⟨Nat.le_refl _, by show 8 + (M2.2.2.1 + 11) + 40 * d ≤ 40 * (d + 1); omega⟩
  refine p_back hc hw hl (va_runS (As := av.map (trv ad)) (rest := st.map (trv ad)) ⟨hx, hbb, hml, hown, hts⟩ (met_of_pw m5 hlen hb l D cI cQ ad H.size) ⟨cw, hts _ m2⟩ ⟨wpre_blind, fun U hU hW => ⟨rfl, by rw [hU], by rw [hU]; exact hw.1, KK.warm hW hK, hw.2.1.weaken (fun _ _ _ _ => trivial)⟩⟩ rfl (by rw [List.length_map]; exact hn) hl.1 (by show List.map (trv ad) (av.reverse ++ st) = _; rw [List.map_append, List.map_reverse]) ?_ hd ⟨Nat.le_refl _, Nat.le_refl _⟩) k
  exact lv_room (by rw [cat_le]; exact hst)
theorem p_callV {idx n c0 ci : Nat} {fl : List (Option Nat)} {q : vw_C} {M2 : Mth} {av : List Value} {Q2 : Option Value → Hp → Prop} (hm : cVt M.1.cls idx M2 n) (hn : av.length = n) (hsh : fnd tb c0 = some (.inr (.inr (ci, fl)))) (hq : vwCl[ci]? = some q) (hqc : q.1 = M2.1.cls) (hlen : (lg_sl (.ref c0 :: av)).length ≤ M2.2.2.1) (hst : (st.map fun v => v.category).sum ≤ 8) (hd : decode M.2.1 pc = .ok (.invokevirtual idx, 3)) (hb : pw tb d M2 0 (lv_args 0 (.ref c0 :: av)) [] sg Q2)
    (k : ∀ (r : Option Value) (sg2 : Hp), Q2 r sg2 → pw tb (d + 1) M (pc + 3) lv (r.toList ++ st) sg2 Q) : pw tb (d + 1) M pc lv (av.reverse ++ .ref c0 :: st) sg Q := by
  intro p l e s m args below meth c D cI cQ ad A H locs ls hc hw hl
  obtain ⟨m1, m2, m3, m4, m5, m6, m7, m8⟩ := hm
  obtain ⟨hx, hbb, hml, hret, hlk, hown, hts, hK⟩ := id hc
  have cw := callB_of (R := rmd (d + 1)) (mc := 0) (ms := 0) n hts (good_M m5) rfl (rm := rmd d) rfl rfl (hts _ m4) (hts _ m1) m7 ⟨Nat.le_refl _, by show 8 + (M2.2.2.1 + 11) + 40 * d ≤ 40 * (d + 1); omega⟩
  obtain ⟨k0, hk0⟩ := fnd_at hsh
  have hrec := va_recv hK.1 hw.1 hq (wld_at hk0)
  rw [hqc] at hrec
  refine p_back hc hw hl (va_runV (As := av.map (trv ad)) (rest := st.map (trv ad)) ⟨hx, hbb, hml, hown, hts⟩ (met_of_pw m6 hlen hb l D cI cQ ad H.size) ⟨cw, hts _ m2, hts _ m3⟩ ⟨wpre_blind, hrec, fun U hU hW => ⟨rfl, by rw [hU], by rw [hU]; exact hw.1, KK.warm hW hK, hw.2.1.weaken (fun _ _ _ _ => trivial)⟩⟩ rfl (by rw [List.length_map]; exact hn) hl.1 (by show List.map (trv ad) (av.reverse ++ .ref c0 :: st) = _; rw [List.map_append, List.map_reverse]; rfl) ?_ hd ⟨Nat.le_refl _, Nat.le_refl _⟩) k
  exact lv_room (by rw [cat_le]; exact hst)
end PCALL
/-! pure answers: none where a row's index would be wrong -/
def ok {ρ : Type} (j : ρ → Option Value) (o : Option (ρ × Hp)) (Q : Option Value → Hp → Prop) : Prop := ∃ (r : ρ) (s2 : Hp), o = some (r, s2) ∧ Q (j r) s2
def jI : Int32 → Option Value := fun x => some (.int x)
def jL : Int64 → Option Value := fun x => some (.long x)
def jA : Nat → Option Value := fun x => some (.ref x)
def jV : Unit → Option Value := fun _ => none
def gd {α : Type} (b : Bool) (o : Option α) : Option α := bif b then o else none
def bnd {ρ ρ2 : Type} (o : Option (ρ × Hp)) (k : ρ → Hp → Option (ρ2 × Hp)) : Option (ρ2 × Hp) := match o with
  | some q => k q.1 q.2
  | none => none
def inb (i : Int32) (n : Nat) : Bool := decide (¬ (i < 0 ∨ n ≤ i.toNatClampNeg))
def b01 (x : Int32) : Bool := x == 0 || x == 1
theorem ok_g {ρ : Type} {j : ρ → Option Value} {b : Bool} {o : Option (ρ × Hp)} {Q : Option Value → Hp → Prop} (h : ok j (gd b o) Q) : b = true ∧ ok j o Q := by
  cases b with
  | true => exact ⟨rfl, h⟩
  | false => obtain ⟨r, s2, h1, -⟩ := h; cases h1
theorem ok_t {ρ : Type} {j : ρ → Option Value} {c : Prop} [Decidable c] {a b : Option (ρ × Hp)} {Q : Option Value → Hp → Prop} (hc : c) (h : ok j (if c then a else b) Q) : ok j a Q := by rw [if_pos hc] at h; exact h
theorem ok_f {ρ : Type} {j : ρ → Option Value} {c : Prop} [Decidable c] {a b : Option (ρ × Hp)} {Q : Option Value → Hp → Prop} (hc : ¬ c) (h : ok j (if c then a else b) Q) : ok j b Q := by rw [if_neg hc] at h; exact h
theorem ok_b {ρ ρ2 : Type} {j : ρ → Option Value} {j2 : ρ2 → Option Value} {o : Option (ρ2 × Hp)} {k : ρ2 → Hp → Option (ρ × Hp)} {Q : Option Value → Hp → Prop} (h : ok j (bnd o k) Q) : ok j2 o (fun r s2 => ∃ x : ρ2, r = j2 x ∧ ok j (k x s2) Q) := by
  obtain ⟨r, s2, h1, h2⟩ := h
  cases o with
  | none => cases h1
  | some q => exact ⟨q.1, q.2, rfl, q.1, rfl, r, s2, h1, h2⟩
theorem ok_r {ρ : Type} {j : ρ → Option Value} {r : ρ} {s2 : Hp} {Q : Option Value → Hp → Prop} (h : ok j (some (r, s2)) Q) : Q (j r) s2 := by
  obtain ⟨r2, s3, h1, h2⟩ := h
  cases h1
  exact h2
theorem inb_in {i : Int32} {n : Nat} (h : inb i n = true) : vp_in i n := by
  unfold inb at h
  exact of_decide_eq_true h
theorem isA_in {tb : Sd} {c : Nat} {i : Int32} (h : inb i (alen tb c) = true) : fnd tb c = some (.inl (alen tb c)) := by
  apply isA_at
  cases hq : isA tb c with
  | true => rfl
  | false =>
    have hz : alen tb c = 0 := by
      unfold isA at hq
      unfold alen
      split at hq
      · cases hq
      · rfl
    rw [hz] at h
    exact absurd (Or.inr (Nat.zero_le _)) (inb_in h)
theorem b01_n {x : Int32} (h : b01 x = true) : narrow .boolean (.int x) = .int x ∧ fits .boolean (.int x) = true := by
  unfold b01 at h
  simp only [Bool.or_eq_true, beq_iff_eq] at h
  rcases h with rfl | rfl <;> decide +kernel
end
